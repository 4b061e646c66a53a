theorem dX0_init_0 : decode cX0_init 0 = .ok (.aload_n 0, 1) := by decide +kernel
theorem dX0_init_1 : decode cX0_init 1 = .ok (.invokespecial 3, 3) := by decide +kernel
theorem dX0_init_4 : decode cX0_init 4 = .ok (.aload_n 0, 1) := by decide +kernel
theorem dX0_init_5 : decode cX0_init 5 = .ok (.iconst 0, 1) := by decide +kernel
theorem dX0_init_6 : decode cX0_init 6 = .ok (.putfield 9, 3) := by decide +kernel
theorem dX0_init_9 : decode cX0_init 9 = .ok (.aload_n 0, 1) := by decide +kernel
theorem dX0_init_10 : decode cX0_init 10 = .ok (.bipush 8, 2) := by decide +kernel
theorem dX0_init_12 : decode cX0_init 12 = .ok (.newarray .int, 2) := by decide +kernel
theorem dX0_init_14 : decode cX0_init 14 = .ok (.putfield 15, 3) := by decide +kernel
theorem dX0_init_17 : decode cX0_init 17 = .ok (.aload_n 0, 1) := by decide +kernel
theorem dX0_init_18 : decode cX0_init 18 = .ok (.bipush 8, 2) := by decide +kernel
theorem dX0_init_20 : decode cX0_init 20 = .ok (.newarray .int, 2) := by decide +kernel
theorem dX0_init_22 : decode cX0_init 22 = .ok (.putfield 19, 3) := by decide +kernel
theorem dX0_init_25 : decode cX0_init 25 = .ok (.aload_n 0, 1) := by decide +kernel
theorem dX0_init_26 : decode cX0_init 26 = .ok (.bipush 8, 2) := by decide +kernel
theorem dX0_init_28 : decode cX0_init 28 = .ok (.newarray .int, 2) := by decide +kernel
theorem dX0_init_30 : decode cX0_init 30 = .ok (.putfield 22, 3) := by decide +kernel
theorem dX0_init_33 : decode cX0_init 33 = .ok (.aload_n 0, 1) := by decide +kernel
theorem dX0_init_34 : decode cX0_init 34 = .ok (.bipush 8, 2) := by decide +kernel
theorem dX0_init_36 : decode cX0_init 36 = .ok (.newarray .int, 2) := by decide +kernel
theorem dX0_init_38 : decode cX0_init 38 = .ok (.putfield 25, 3) := by decide +kernel
theorem dX0_init_41 : decode cX0_init 41 = .ok (.aload_n 0, 1) := by decide +kernel
theorem dX0_init_42 : decode cX0_init 42 = .ok (.bipush 8, 2) := by decide +kernel
theorem dX0_init_44 : decode cX0_init 44 = .ok (.newarray .int, 2) := by decide +kernel
theorem dX0_init_46 : decode cX0_init 46 = .ok (.putfield 28, 3) := by decide +kernel
theorem dX0_init_49 : decode cX0_init 49 = .ok (.return_, 1) := by decide +kernel
theorem dX0_add_0 : decode cX0_add 0 = .ok (.aload_n 0, 1) := by decide +kernel
theorem dX0_add_1 : decode cX0_add 1 = .ok (.getfield 9, 3) := by decide +kernel
theorem dX0_add_4 : decode cX0_add 4 = .ok (.ifCond .lt 12, 3) := by decide +kernel
theorem dX0_add_7 : decode cX0_add 7 = .ok (.aload_n 0, 1) := by decide +kernel
theorem dX0_add_8 : decode cX0_add 8 = .ok (.getfield 9, 3) := by decide +kernel
theorem dX0_add_11 : decode cX0_add 11 = .ok (.bipush 8, 2) := by decide +kernel
theorem dX0_add_13 : decode cX0_add 13 = .ok (.if_icmp .lt 4, 3) := by decide +kernel
theorem dX0_add_16 : decode cX0_add 16 = .ok (.return_, 1) := by decide +kernel
theorem dX0_add_17 : decode cX0_add 17 = .ok (.aload_n 0, 1) := by decide +kernel
theorem dX0_add_18 : decode cX0_add 18 = .ok (.getfield 15, 3) := by decide +kernel
theorem dX0_add_21 : decode cX0_add 21 = .ok (.aload_n 0, 1) := by decide +kernel
theorem dX0_add_22 : decode cX0_add 22 = .ok (.getfield 9, 3) := by decide +kernel
theorem dX0_add_25 : decode cX0_add 25 = .ok (.iload_n 1, 1) := by decide +kernel
theorem dX0_add_26 : decode cX0_add 26 = .ok (.iastore, 1) := by decide +kernel
theorem dX0_add_27 : decode cX0_add 27 = .ok (.aload_n 0, 1) := by decide +kernel
theorem dX0_add_28 : decode cX0_add 28 = .ok (.getfield 19, 3) := by decide +kernel
theorem dX0_add_31 : decode cX0_add 31 = .ok (.aload_n 0, 1) := by decide +kernel
theorem dX0_add_32 : decode cX0_add 32 = .ok (.getfield 9, 3) := by decide +kernel
theorem dX0_add_35 : decode cX0_add 35 = .ok (.iload_n 2, 1) := by decide +kernel
theorem dX0_add_36 : decode cX0_add 36 = .ok (.iastore, 1) := by decide +kernel
theorem dX0_add_37 : decode cX0_add 37 = .ok (.aload_n 0, 1) := by decide +kernel
theorem dX0_add_38 : decode cX0_add 38 = .ok (.getfield 22, 3) := by decide +kernel
theorem dX0_add_41 : decode cX0_add 41 = .ok (.aload_n 0, 1) := by decide +kernel
theorem dX0_add_42 : decode cX0_add 42 = .ok (.getfield 9, 3) := by decide +kernel
theorem dX0_add_45 : decode cX0_add 45 = .ok (.iload_n 3, 1) := by decide +kernel
theorem dX0_add_46 : decode cX0_add 46 = .ok (.iastore, 1) := by decide +kernel
theorem dX0_add_47 : decode cX0_add 47 = .ok (.aload_n 0, 1) := by decide +kernel
theorem dX0_add_48 : decode cX0_add 48 = .ok (.getfield 25, 3) := by decide +kernel
theorem dX0_add_51 : decode cX0_add 51 = .ok (.aload_n 0, 1) := by decide +kernel
theorem dX0_add_52 : decode cX0_add 52 = .ok (.getfield 9, 3) := by decide +kernel
theorem dX0_add_55 : decode cX0_add 55 = .ok (.iload 4, 2) := by decide +kernel
theorem dX0_add_57 : decode cX0_add 57 = .ok (.iastore, 1) := by decide +kernel
theorem dX0_add_58 : decode cX0_add 58 = .ok (.aload_n 0, 1) := by decide +kernel
theorem dX0_add_59 : decode cX0_add 59 = .ok (.getfield 28, 3) := by decide +kernel
theorem dX0_add_62 : decode cX0_add 62 = .ok (.aload_n 0, 1) := by decide +kernel
theorem dX0_add_63 : decode cX0_add 63 = .ok (.getfield 9, 3) := by decide +kernel
theorem dX0_add_66 : decode cX0_add 66 = .ok (.iload 5, 2) := by decide +kernel
theorem dX0_add_68 : decode cX0_add 68 = .ok (.iastore, 1) := by decide +kernel
theorem dX0_add_69 : decode cX0_add 69 = .ok (.aload_n 0, 1) := by decide +kernel
theorem dX0_add_70 : decode cX0_add 70 = .ok (.dup, 1) := by decide +kernel
theorem dX0_add_71 : decode cX0_add 71 = .ok (.getfield 9, 3) := by decide +kernel
theorem dX0_add_74 : decode cX0_add 74 = .ok (.iconst 1, 1) := by decide +kernel
theorem dX0_add_75 : decode cX0_add 75 = .ok (.iadd, 1) := by decide +kernel
theorem dX0_add_76 : decode cX0_add 76 = .ok (.putfield 9, 3) := by decide +kernel
theorem dX0_add_79 : decode cX0_add 79 = .ok (.return_, 1) := by decide +kernel
theorem dX0_copyFrom_0 : decode cX0_copyFrom 0 = .ok (.aload_n 0, 1) := by decide +kernel
theorem dX0_copyFrom_1 : decode cX0_copyFrom 1 = .ok (.aload_n 1, 1) := by decide +kernel
theorem dX0_copyFrom_2 : decode cX0_copyFrom 2 = .ok (.getfield 9, 3) := by decide +kernel
theorem dX0_copyFrom_5 : decode cX0_copyFrom 5 = .ok (.putfield 9, 3) := by decide +kernel
theorem dX0_copyFrom_8 : decode cX0_copyFrom 8 = .ok (.aload_n 1, 1) := by decide +kernel
theorem dX0_copyFrom_9 : decode cX0_copyFrom 9 = .ok (.getfield 15, 3) := by decide +kernel
theorem dX0_copyFrom_12 : decode cX0_copyFrom 12 = .ok (.iconst 0, 1) := by decide +kernel
theorem dX0_copyFrom_13 : decode cX0_copyFrom 13 = .ok (.aload_n 0, 1) := by decide +kernel
theorem dX0_copyFrom_14 : decode cX0_copyFrom 14 = .ok (.getfield 15, 3) := by decide +kernel
theorem dX0_copyFrom_17 : decode cX0_copyFrom 17 = .ok (.iconst 0, 1) := by decide +kernel
theorem dX0_copyFrom_18 : decode cX0_copyFrom 18 = .ok (.bipush 8, 2) := by decide +kernel
theorem dX0_copyFrom_20 : decode cX0_copyFrom 20 = .ok (.invokestatic 31, 3) := by decide +kernel
theorem dX0_copyFrom_23 : decode cX0_copyFrom 23 = .ok (.aload_n 1, 1) := by decide +kernel
theorem dX0_copyFrom_24 : decode cX0_copyFrom 24 = .ok (.getfield 19, 3) := by decide +kernel
theorem dX0_copyFrom_27 : decode cX0_copyFrom 27 = .ok (.iconst 0, 1) := by decide +kernel
theorem dX0_copyFrom_28 : decode cX0_copyFrom 28 = .ok (.aload_n 0, 1) := by decide +kernel
theorem dX0_copyFrom_29 : decode cX0_copyFrom 29 = .ok (.getfield 19, 3) := by decide +kernel
theorem dX0_copyFrom_32 : decode cX0_copyFrom 32 = .ok (.iconst 0, 1) := by decide +kernel
theorem dX0_copyFrom_33 : decode cX0_copyFrom 33 = .ok (.bipush 8, 2) := by decide +kernel
theorem dX0_copyFrom_35 : decode cX0_copyFrom 35 = .ok (.invokestatic 31, 3) := by decide +kernel
theorem dX0_copyFrom_38 : decode cX0_copyFrom 38 = .ok (.aload_n 1, 1) := by decide +kernel
theorem dX0_copyFrom_39 : decode cX0_copyFrom 39 = .ok (.getfield 22, 3) := by decide +kernel
theorem dX0_copyFrom_42 : decode cX0_copyFrom 42 = .ok (.iconst 0, 1) := by decide +kernel
theorem dX0_copyFrom_43 : decode cX0_copyFrom 43 = .ok (.aload_n 0, 1) := by decide +kernel
theorem dX0_copyFrom_44 : decode cX0_copyFrom 44 = .ok (.getfield 22, 3) := by decide +kernel
theorem dX0_copyFrom_47 : decode cX0_copyFrom 47 = .ok (.iconst 0, 1) := by decide +kernel
theorem dX0_copyFrom_48 : decode cX0_copyFrom 48 = .ok (.bipush 8, 2) := by decide +kernel
theorem dX0_copyFrom_50 : decode cX0_copyFrom 50 = .ok (.invokestatic 31, 3) := by decide +kernel
theorem dX0_copyFrom_53 : decode cX0_copyFrom 53 = .ok (.aload_n 1, 1) := by decide +kernel
theorem dX0_copyFrom_54 : decode cX0_copyFrom 54 = .ok (.getfield 25, 3) := by decide +kernel
theorem dX0_copyFrom_57 : decode cX0_copyFrom 57 = .ok (.iconst 0, 1) := by decide +kernel
theorem dX0_copyFrom_58 : decode cX0_copyFrom 58 = .ok (.aload_n 0, 1) := by decide +kernel
theorem dX0_copyFrom_59 : decode cX0_copyFrom 59 = .ok (.getfield 25, 3) := by decide +kernel
theorem dX0_copyFrom_62 : decode cX0_copyFrom 62 = .ok (.iconst 0, 1) := by decide +kernel
theorem dX0_copyFrom_63 : decode cX0_copyFrom 63 = .ok (.bipush 8, 2) := by decide +kernel
theorem dX0_copyFrom_65 : decode cX0_copyFrom 65 = .ok (.invokestatic 31, 3) := by decide +kernel
theorem dX0_copyFrom_68 : decode cX0_copyFrom 68 = .ok (.aload_n 1, 1) := by decide +kernel
theorem dX0_copyFrom_69 : decode cX0_copyFrom 69 = .ok (.getfield 28, 3) := by decide +kernel
theorem dX0_copyFrom_72 : decode cX0_copyFrom 72 = .ok (.iconst 0, 1) := by decide +kernel
theorem dX0_copyFrom_73 : decode cX0_copyFrom 73 = .ok (.aload_n 0, 1) := by decide +kernel
theorem dX0_copyFrom_74 : decode cX0_copyFrom 74 = .ok (.getfield 28, 3) := by decide +kernel
theorem dX0_copyFrom_77 : decode cX0_copyFrom 77 = .ok (.iconst 0, 1) := by decide +kernel
theorem dX0_copyFrom_78 : decode cX0_copyFrom 78 = .ok (.bipush 8, 2) := by decide +kernel
theorem dX0_copyFrom_80 : decode cX0_copyFrom 80 = .ok (.invokestatic 31, 3) := by decide +kernel
theorem dX0_copyFrom_83 : decode cX0_copyFrom 83 = .ok (.return_, 1) := by decide +kernel
theorem dX0_exists_0 : decode cX0_exists 0 = .ok (.iload_n 1, 1) := by decide +kernel
theorem dX0_exists_1 : decode cX0_exists 1 = .ok (.ifCond .lt 21, 3) := by decide +kernel
theorem dX0_exists_4 : decode cX0_exists 4 = .ok (.iload_n 1, 1) := by decide +kernel
theorem dX0_exists_5 : decode cX0_exists 5 = .ok (.aload_n 0, 1) := by decide +kernel
theorem dX0_exists_6 : decode cX0_exists 6 = .ok (.getfield 9, 3) := by decide +kernel
theorem dX0_exists_9 : decode cX0_exists 9 = .ok (.if_icmp .ge 13, 3) := by decide +kernel
theorem dX0_exists_12 : decode cX0_exists 12 = .ok (.iload_n 1, 1) := by decide +kernel
theorem dX0_exists_13 : decode cX0_exists 13 = .ok (.bipush 8, 2) := by decide +kernel
theorem dX0_exists_15 : decode cX0_exists 15 = .ok (.if_icmp .ge 7, 3) := by decide +kernel
theorem dX0_exists_18 : decode cX0_exists 18 = .ok (.iconst 1, 1) := by decide +kernel
theorem dX0_exists_19 : decode cX0_exists 19 = .ok (.goto 4, 3) := by decide +kernel
theorem dX0_exists_22 : decode cX0_exists 22 = .ok (.iconst 0, 1) := by decide +kernel
theorem dX0_exists_23 : decode cX0_exists 23 = .ok (.ireturn, 1) := by decide +kernel
theorem dX0_anyPutOn_0 : decode cX0_anyPutOn 0 = .ok (.iconst 0, 1) := by decide +kernel
theorem dX0_anyPutOn_1 : decode cX0_anyPutOn 1 = .ok (.istore_n 2, 1) := by decide +kernel
theorem dX0_anyPutOn_2 : decode cX0_anyPutOn 2 = .ok (.iload_n 2, 1) := by decide +kernel
theorem dX0_anyPutOn_3 : decode cX0_anyPutOn 3 = .ok (.aload_n 0, 1) := by decide +kernel
theorem dX0_anyPutOn_4 : decode cX0_anyPutOn 4 = .ok (.getfield 9, 3) := by decide +kernel
theorem dX0_anyPutOn_7 : decode cX0_anyPutOn 7 = .ok (.if_icmp .ge 37, 3) := by decide +kernel
theorem dX0_anyPutOn_10 : decode cX0_anyPutOn 10 = .ok (.iload_n 2, 1) := by decide +kernel
theorem dX0_anyPutOn_11 : decode cX0_anyPutOn 11 = .ok (.bipush 8, 2) := by decide +kernel
theorem dX0_anyPutOn_13 : decode cX0_anyPutOn 13 = .ok (.if_icmp .ge 31, 3) := by decide +kernel
theorem dX0_anyPutOn_16 : decode cX0_anyPutOn 16 = .ok (.bipush 9, 2) := by decide +kernel
theorem dX0_anyPutOn_18 : decode cX0_anyPutOn 18 = .ok (.aload_n 0, 1) := by decide +kernel
theorem dX0_anyPutOn_19 : decode cX0_anyPutOn 19 = .ok (.getfield 19, 3) := by decide +kernel
theorem dX0_anyPutOn_22 : decode cX0_anyPutOn 22 = .ok (.iload_n 2, 1) := by decide +kernel
theorem dX0_anyPutOn_23 : decode cX0_anyPutOn 23 = .ok (.iaload, 1) := by decide +kernel
theorem dX0_anyPutOn_24 : decode cX0_anyPutOn 24 = .ok (.imul, 1) := by decide +kernel
theorem dX0_anyPutOn_25 : decode cX0_anyPutOn 25 = .ok (.aload_n 0, 1) := by decide +kernel
theorem dX0_anyPutOn_26 : decode cX0_anyPutOn 26 = .ok (.getfield 15, 3) := by decide +kernel
theorem dX0_anyPutOn_29 : decode cX0_anyPutOn 29 = .ok (.iload_n 2, 1) := by decide +kernel
theorem dX0_anyPutOn_30 : decode cX0_anyPutOn 30 = .ok (.iaload, 1) := by decide +kernel
theorem dX0_anyPutOn_31 : decode cX0_anyPutOn 31 = .ok (.iadd, 1) := by decide +kernel
theorem dX0_anyPutOn_32 : decode cX0_anyPutOn 32 = .ok (.iload_n 1, 1) := by decide +kernel
theorem dX0_anyPutOn_33 : decode cX0_anyPutOn 33 = .ok (.if_icmp .ne 5, 3) := by decide +kernel
theorem dX0_anyPutOn_36 : decode cX0_anyPutOn 36 = .ok (.iconst 1, 1) := by decide +kernel
theorem dX0_anyPutOn_37 : decode cX0_anyPutOn 37 = .ok (.ireturn, 1) := by decide +kernel
theorem dX0_anyPutOn_38 : decode cX0_anyPutOn 38 = .ok (.iinc 2 1, 3) := by decide +kernel
theorem dX0_anyPutOn_41 : decode cX0_anyPutOn 41 = .ok (.goto (-39), 3) := by decide +kernel
theorem dX0_anyPutOn_44 : decode cX0_anyPutOn 44 = .ok (.iconst 0, 1) := by decide +kernel
theorem dX0_anyPutOn_45 : decode cX0_anyPutOn 45 = .ok (.ireturn, 1) := by decide +kernel
theorem dX0_cellIn_0 : decode cX0_cellIn 0 = .ok (.aload_n 0, 1) := by decide +kernel
theorem dX0_cellIn_1 : decode cX0_cellIn 1 = .ok (.iload_n 1, 1) := by decide +kernel
theorem dX0_cellIn_2 : decode cX0_cellIn 2 = .ok (.invokevirtual 37, 3) := by decide +kernel
theorem dX0_cellIn_5 : decode cX0_cellIn 5 = .ok (.ifCond .ne 6, 3) := by decide +kernel
theorem dX0_cellIn_8 : decode cX0_cellIn 8 = .ok (.bipush (-4), 2) := by decide +kernel
theorem dX0_cellIn_10 : decode cX0_cellIn 10 = .ok (.ireturn, 1) := by decide +kernel
theorem dX0_cellIn_11 : decode cX0_cellIn 11 = .ok (.aload_n 0, 1) := by decide +kernel
theorem dX0_cellIn_12 : decode cX0_cellIn 12 = .ok (.getfield 28, 3) := by decide +kernel
theorem dX0_cellIn_15 : decode cX0_cellIn 15 = .ok (.iload_n 1, 1) := by decide +kernel
theorem dX0_cellIn_16 : decode cX0_cellIn 16 = .ok (.iaload, 1) := by decide +kernel
theorem dX0_cellIn_17 : decode cX0_cellIn 17 = .ok (.iconst 2, 1) := by decide +kernel
theorem dX0_cellIn_18 : decode cX0_cellIn 18 = .ok (.if_icmp .ne 20, 3) := by decide +kernel
theorem dX0_cellIn_21 : decode cX0_cellIn 21 = .ok (.iload_n 3, 1) := by decide +kernel
theorem dX0_cellIn_22 : decode cX0_cellIn 22 = .ok (.ifCond .le 16, 3) := by decide +kernel
theorem dX0_cellIn_25 : decode cX0_cellIn 25 = .ok (.aload_n 0, 1) := by decide +kernel
theorem dX0_cellIn_26 : decode cX0_cellIn 26 = .ok (.getfield 15, 3) := by decide +kernel
theorem dX0_cellIn_29 : decode cX0_cellIn 29 = .ok (.iload_n 1, 1) := by decide +kernel
theorem dX0_cellIn_30 : decode cX0_cellIn 30 = .ok (.iaload, 1) := by decide +kernel
theorem dX0_cellIn_31 : decode cX0_cellIn 31 = .ok (.iload_n 2, 1) := by decide +kernel
theorem dX0_cellIn_32 : decode cX0_cellIn 32 = .ok (.iadd, 1) := by decide +kernel
theorem dX0_cellIn_33 : decode cX0_cellIn 33 = .ok (.iload_n 3, 1) := by decide +kernel
theorem dX0_cellIn_34 : decode cX0_cellIn 34 = .ok (.irem, 1) := by decide +kernel
theorem dX0_cellIn_35 : decode cX0_cellIn 35 = .ok (.goto 9, 3) := by decide +kernel
theorem dX0_cellIn_38 : decode cX0_cellIn 38 = .ok (.aload_n 0, 1) := by decide +kernel
theorem dX0_cellIn_39 : decode cX0_cellIn 39 = .ok (.getfield 15, 3) := by decide +kernel
theorem dX0_cellIn_42 : decode cX0_cellIn 42 = .ok (.iload_n 1, 1) := by decide +kernel
theorem dX0_cellIn_43 : decode cX0_cellIn 43 = .ok (.iaload, 1) := by decide +kernel
theorem dX0_cellIn_44 : decode cX0_cellIn 44 = .ok (.istore 4, 2) := by decide +kernel
theorem dX0_cellIn_46 : decode cX0_cellIn 46 = .ok (.bipush 9, 2) := by decide +kernel
theorem dX0_cellIn_48 : decode cX0_cellIn 48 = .ok (.aload_n 0, 1) := by decide +kernel
theorem dX0_cellIn_49 : decode cX0_cellIn 49 = .ok (.getfield 19, 3) := by decide +kernel
theorem dX0_cellIn_52 : decode cX0_cellIn 52 = .ok (.iload_n 1, 1) := by decide +kernel
theorem dX0_cellIn_53 : decode cX0_cellIn 53 = .ok (.iaload, 1) := by decide +kernel
theorem dX0_cellIn_54 : decode cX0_cellIn 54 = .ok (.imul, 1) := by decide +kernel
theorem dX0_cellIn_55 : decode cX0_cellIn 55 = .ok (.iload 4, 2) := by decide +kernel
theorem dX0_cellIn_57 : decode cX0_cellIn 57 = .ok (.iadd, 1) := by decide +kernel
theorem dX0_cellIn_58 : decode cX0_cellIn 58 = .ok (.ireturn, 1) := by decide +kernel
theorem dX0_facingIn_0 : decode cX0_facingIn 0 = .ok (.aload_n 0, 1) := by decide +kernel
theorem dX0_facingIn_1 : decode cX0_facingIn 1 = .ok (.iload_n 1, 1) := by decide +kernel
theorem dX0_facingIn_2 : decode cX0_facingIn 2 = .ok (.invokevirtual 37, 3) := by decide +kernel
theorem dX0_facingIn_5 : decode cX0_facingIn 5 = .ok (.ifCond .ne 6, 3) := by decide +kernel
theorem dX0_facingIn_8 : decode cX0_facingIn 8 = .ok (.bipush (-4), 2) := by decide +kernel
theorem dX0_facingIn_10 : decode cX0_facingIn 10 = .ok (.ireturn, 1) := by decide +kernel
theorem dX0_facingIn_11 : decode cX0_facingIn 11 = .ok (.aload_n 0, 1) := by decide +kernel
theorem dX0_facingIn_12 : decode cX0_facingIn 12 = .ok (.getfield 28, 3) := by decide +kernel
theorem dX0_facingIn_15 : decode cX0_facingIn 15 = .ok (.iload_n 1, 1) := by decide +kernel
theorem dX0_facingIn_16 : decode cX0_facingIn 16 = .ok (.iaload, 1) := by decide +kernel
theorem dX0_facingIn_17 : decode cX0_facingIn 17 = .ok (.iconst 1, 1) := by decide +kernel
theorem dX0_facingIn_18 : decode cX0_facingIn 18 = .ok (.if_icmp .eq 13, 3) := by decide +kernel
theorem dX0_facingIn_21 : decode cX0_facingIn 21 = .ok (.aload_n 0, 1) := by decide +kernel
theorem dX0_facingIn_22 : decode cX0_facingIn 22 = .ok (.getfield 28, 3) := by decide +kernel
theorem dX0_facingIn_25 : decode cX0_facingIn 25 = .ok (.iload_n 1, 1) := by decide +kernel
theorem dX0_facingIn_26 : decode cX0_facingIn 26 = .ok (.iaload, 1) := by decide +kernel
theorem dX0_facingIn_27 : decode cX0_facingIn 27 = .ok (.iconst 2, 1) := by decide +kernel
theorem dX0_facingIn_28 : decode cX0_facingIn 28 = .ok (.if_icmp .ne 7, 3) := by decide +kernel
theorem dX0_facingIn_31 : decode cX0_facingIn 31 = .ok (.iconst 1, 1) := by decide +kernel
theorem dX0_facingIn_32 : decode cX0_facingIn 32 = .ok (.goto 4, 3) := by decide +kernel
theorem dX0_facingIn_35 : decode cX0_facingIn 35 = .ok (.iconst 0, 1) := by decide +kernel
theorem dX0_facingIn_36 : decode cX0_facingIn 36 = .ok (.istore_n 3, 1) := by decide +kernel
theorem dX0_facingIn_37 : decode cX0_facingIn 37 = .ok (.iload_n 3, 1) := by decide +kernel
theorem dX0_facingIn_38 : decode cX0_facingIn 38 = .ok (.ifCond .eq 17, 3) := by decide +kernel
theorem dX0_facingIn_41 : decode cX0_facingIn 41 = .ok (.aload_n 0, 1) := by decide +kernel
theorem dX0_facingIn_42 : decode cX0_facingIn 42 = .ok (.getfield 22, 3) := by decide +kernel
theorem dX0_facingIn_45 : decode cX0_facingIn 45 = .ok (.iload_n 1, 1) := by decide +kernel
theorem dX0_facingIn_46 : decode cX0_facingIn 46 = .ok (.iaload, 1) := by decide +kernel
theorem dX0_facingIn_47 : decode cX0_facingIn 47 = .ok (.iload_n 2, 1) := by decide +kernel
theorem dX0_facingIn_48 : decode cX0_facingIn 48 = .ok (.iadd, 1) := by decide +kernel
theorem dX0_facingIn_49 : decode cX0_facingIn 49 = .ok (.bipush 8, 2) := by decide +kernel
theorem dX0_facingIn_51 : decode cX0_facingIn 51 = .ok (.irem, 1) := by decide +kernel
theorem dX0_facingIn_52 : decode cX0_facingIn 52 = .ok (.goto 9, 3) := by decide +kernel
theorem dX0_facingIn_55 : decode cX0_facingIn 55 = .ok (.aload_n 0, 1) := by decide +kernel
theorem dX0_facingIn_56 : decode cX0_facingIn 56 = .ok (.getfield 22, 3) := by decide +kernel
theorem dX0_facingIn_59 : decode cX0_facingIn 59 = .ok (.iload_n 1, 1) := by decide +kernel
theorem dX0_facingIn_60 : decode cX0_facingIn 60 = .ok (.iaload, 1) := by decide +kernel
theorem dX0_facingIn_61 : decode cX0_facingIn 61 = .ok (.ireturn, 1) := by decide +kernel
theorem dX0_earOf_0 : decode cX0_earOf 0 = .ok (.aload_n 0, 1) := by decide +kernel
theorem dX0_earOf_1 : decode cX0_earOf 1 = .ok (.iload_n 1, 1) := by decide +kernel
theorem dX0_earOf_2 : decode cX0_earOf 2 = .ok (.invokevirtual 37, 3) := by decide +kernel
theorem dX0_earOf_5 : decode cX0_earOf 5 = .ok (.ifCond .ne 6, 3) := by decide +kernel
theorem dX0_earOf_8 : decode cX0_earOf 8 = .ok (.bipush (-4), 2) := by decide +kernel
theorem dX0_earOf_10 : decode cX0_earOf 10 = .ok (.ireturn, 1) := by decide +kernel
theorem dX0_earOf_11 : decode cX0_earOf 11 = .ok (.aload_n 0, 1) := by decide +kernel
theorem dX0_earOf_12 : decode cX0_earOf 12 = .ok (.getfield 28, 3) := by decide +kernel
theorem dX0_earOf_15 : decode cX0_earOf 15 = .ok (.iload_n 1, 1) := by decide +kernel
theorem dX0_earOf_16 : decode cX0_earOf 16 = .ok (.iaload, 1) := by decide +kernel
theorem dX0_earOf_17 : decode cX0_earOf 17 = .ok (.iconst 4, 1) := by decide +kernel
theorem dX0_earOf_18 : decode cX0_earOf 18 = .ok (.if_icmp .ne 18, 3) := by decide +kernel
theorem dX0_earOf_21 : decode cX0_earOf 21 = .ok (.iconst 1, 1) := by decide +kernel
theorem dX0_earOf_22 : decode cX0_earOf 22 = .ok (.aload_n 0, 1) := by decide +kernel
theorem dX0_earOf_23 : decode cX0_earOf 23 = .ok (.getfield 25, 3) := by decide +kernel
theorem dX0_earOf_26 : decode cX0_earOf 26 = .ok (.iload_n 1, 1) := by decide +kernel
theorem dX0_earOf_27 : decode cX0_earOf 27 = .ok (.iaload, 1) := by decide +kernel
theorem dX0_earOf_28 : decode cX0_earOf 28 = .ok (.iconst 2, 1) := by decide +kernel
theorem dX0_earOf_29 : decode cX0_earOf 29 = .ok (.idiv, 1) := by decide +kernel
theorem dX0_earOf_30 : decode cX0_earOf 30 = .ok (.invokestatic 41, 3) := by decide +kernel
theorem dX0_earOf_33 : decode cX0_earOf 33 = .ok (.goto 9, 3) := by decide +kernel
theorem dX0_earOf_36 : decode cX0_earOf 36 = .ok (.aload_n 0, 1) := by decide +kernel
theorem dX0_earOf_37 : decode cX0_earOf 37 = .ok (.getfield 25, 3) := by decide +kernel
theorem dX0_earOf_40 : decode cX0_earOf 40 = .ok (.iload_n 1, 1) := by decide +kernel
theorem dX0_earOf_41 : decode cX0_earOf 41 = .ok (.iaload, 1) := by decide +kernel
theorem dX0_earOf_42 : decode cX0_earOf 42 = .ok (.ireturn, 1) := by decide +kernel
theorem dX0_kindOf_0 : decode cX0_kindOf 0 = .ok (.aload_n 0, 1) := by decide +kernel
theorem dX0_kindOf_1 : decode cX0_kindOf 1 = .ok (.iload_n 1, 1) := by decide +kernel
theorem dX0_kindOf_2 : decode cX0_kindOf 2 = .ok (.invokevirtual 37, 3) := by decide +kernel
theorem dX0_kindOf_5 : decode cX0_kindOf 5 = .ok (.ifCond .eq 12, 3) := by decide +kernel
theorem dX0_kindOf_8 : decode cX0_kindOf 8 = .ok (.aload_n 0, 1) := by decide +kernel
theorem dX0_kindOf_9 : decode cX0_kindOf 9 = .ok (.getfield 28, 3) := by decide +kernel
theorem dX0_kindOf_12 : decode cX0_kindOf 12 = .ok (.iload_n 1, 1) := by decide +kernel
theorem dX0_kindOf_13 : decode cX0_kindOf 13 = .ok (.iaload, 1) := by decide +kernel
theorem dX0_kindOf_14 : decode cX0_kindOf 14 = .ok (.goto 5, 3) := by decide +kernel
theorem dX0_kindOf_17 : decode cX0_kindOf 17 = .ok (.bipush (-4), 2) := by decide +kernel
theorem dX0_kindOf_19 : decode cX0_kindOf 19 = .ok (.ireturn, 1) := by decide +kernel
theorem dX1_init_0 : decode cX1_init 0 = .ok (.aload_n 0, 1) := by decide +kernel
theorem dX1_init_1 : decode cX1_init 1 = .ok (.invokespecial 3, 3) := by decide +kernel
theorem dX1_init_4 : decode cX1_init 4 = .ok (.aload_n 0, 1) := by decide +kernel
theorem dX1_init_5 : decode cX1_init 5 = .ok (.iconst 0, 1) := by decide +kernel
theorem dX1_init_6 : decode cX1_init 6 = .ok (.putfield 9, 3) := by decide +kernel
theorem dX1_init_9 : decode cX1_init 9 = .ok (.aload_n 0, 1) := by decide +kernel
theorem dX1_init_10 : decode cX1_init 10 = .ok (.bipush 41, 2) := by decide +kernel
theorem dX1_init_12 : decode cX1_init 12 = .ok (.newarray .int, 2) := by decide +kernel
theorem dX1_init_14 : decode cX1_init 14 = .ok (.putfield 15, 3) := by decide +kernel
theorem dX1_init_17 : decode cX1_init 17 = .ok (.aload_n 0, 1) := by decide +kernel
theorem dX1_init_18 : decode cX1_init 18 = .ok (.bipush 41, 2) := by decide +kernel
theorem dX1_init_20 : decode cX1_init 20 = .ok (.newarray .int, 2) := by decide +kernel
theorem dX1_init_22 : decode cX1_init 22 = .ok (.putfield 19, 3) := by decide +kernel
theorem dX1_init_25 : decode cX1_init 25 = .ok (.aload_n 0, 1) := by decide +kernel
theorem dX1_init_26 : decode cX1_init 26 = .ok (.bipush 41, 2) := by decide +kernel
theorem dX1_init_28 : decode cX1_init 28 = .ok (.newarray .int, 2) := by decide +kernel
theorem dX1_init_30 : decode cX1_init 30 = .ok (.putfield 22, 3) := by decide +kernel
theorem dX1_init_33 : decode cX1_init 33 = .ok (.return_, 1) := by decide +kernel
theorem dX1_run_0 : decode cX1_run 0 = .ok (.aload_n 0, 1) := by decide +kernel
theorem dX1_run_1 : decode cX1_run 1 = .ok (.iconst 0, 1) := by decide +kernel
theorem dX1_run_2 : decode cX1_run 2 = .ok (.putfield 9, 3) := by decide +kernel
theorem dX1_run_5 : decode cX1_run 5 = .ok (.aload_n 0, 1) := by decide +kernel
theorem dX1_run_6 : decode cX1_run 6 = .ok (.getfield 15, 3) := by decide +kernel
theorem dX1_run_9 : decode cX1_run 9 = .ok (.iconst 0, 1) := by decide +kernel
theorem dX1_run_10 : decode cX1_run 10 = .ok (.iload_n 2, 1) := by decide +kernel
theorem dX1_run_11 : decode cX1_run 11 = .ok (.iastore, 1) := by decide +kernel
theorem dX1_run_12 : decode cX1_run 12 = .ok (.aload_n 1, 1) := by decide +kernel
theorem dX1_run_13 : decode cX1_run 13 = .ok (.iload_n 2, 1) := by decide +kernel
theorem dX1_run_14 : decode cX1_run 14 = .ok (.invokevirtual 25, 3) := by decide +kernel
theorem dX1_run_17 : decode cX1_run 17 = .ok (.ifCond .eq 13, 3) := by decide +kernel
theorem dX1_run_20 : decode cX1_run 20 = .ok (.iload_n 3, 1) := by decide +kernel
theorem dX1_run_21 : decode cX1_run 21 = .ok (.iconst 0, 1) := by decide +kernel
theorem dX1_run_22 : decode cX1_run 22 = .ok (.bipush 7, 2) := by decide +kernel
theorem dX1_run_24 : decode cX1_run 24 = .ok (.invokestatic 31, 3) := by decide +kernel
theorem dX1_run_27 : decode cX1_run 27 = .ok (.ifCond .ne 4, 3) := by decide +kernel
theorem dX1_run_30 : decode cX1_run 30 = .ok (.return_, 1) := by decide +kernel
theorem dX1_run_31 : decode cX1_run 31 = .ok (.iload_n 2, 1) := by decide +kernel
theorem dX1_run_32 : decode cX1_run 32 = .ok (.bipush 9, 2) := by decide +kernel
theorem dX1_run_34 : decode cX1_run 34 = .ok (.irem, 1) := by decide +kernel
theorem dX1_run_35 : decode cX1_run 35 = .ok (.istore 5, 2) := by decide +kernel
theorem dX1_run_37 : decode cX1_run 37 = .ok (.iload_n 2, 1) := by decide +kernel
theorem dX1_run_38 : decode cX1_run 38 = .ok (.bipush 9, 2) := by decide +kernel
theorem dX1_run_40 : decode cX1_run 40 = .ok (.idiv, 1) := by decide +kernel
theorem dX1_run_41 : decode cX1_run 41 = .ok (.istore 6, 2) := by decide +kernel
theorem dX1_run_43 : decode cX1_run 43 = .ok (.getstatic 35, 3) := by decide +kernel
theorem dX1_run_46 : decode cX1_run 46 = .ok (.iload_n 3, 1) := by decide +kernel
theorem dX1_run_47 : decode cX1_run 47 = .ok (.iaload, 1) := by decide +kernel
theorem dX1_run_48 : decode cX1_run 48 = .ok (.istore 7, 2) := by decide +kernel
theorem dX1_run_50 : decode cX1_run 50 = .ok (.getstatic 38, 3) := by decide +kernel
theorem dX1_run_53 : decode cX1_run 53 = .ok (.iload_n 3, 1) := by decide +kernel
theorem dX1_run_54 : decode cX1_run 54 = .ok (.iaload, 1) := by decide +kernel
theorem dX1_run_55 : decode cX1_run 55 = .ok (.istore 8, 2) := by decide +kernel
theorem dX1_run_57 : decode cX1_run 57 = .ok (.iconst 0, 1) := by decide +kernel
theorem dX1_run_58 : decode cX1_run 58 = .ok (.istore 9, 2) := by decide +kernel
theorem dX1_run_60 : decode cX1_run 60 = .ok (.iconst 1, 1) := by decide +kernel
theorem dX1_run_61 : decode cX1_run 61 = .ok (.istore 10, 2) := by decide +kernel
theorem dX1_run_63 : decode cX1_run 63 = .ok (.iload 10, 2) := by decide +kernel
theorem dX1_run_65 : decode cX1_run 65 = .ok (.bipush 40, 2) := by decide +kernel
theorem dX1_run_67 : decode cX1_run 67 = .ok (.if_icmp .gt 206, 3) := by decide +kernel
theorem dX1_run_70 : decode cX1_run 70 = .ok (.iload 5, 2) := by decide +kernel
theorem dX1_run_72 : decode cX1_run 72 = .ok (.iload 7, 2) := by decide +kernel
theorem dX1_run_74 : decode cX1_run 74 = .ok (.iadd, 1) := by decide +kernel
theorem dX1_run_75 : decode cX1_run 75 = .ok (.ifCond .lt 15, 3) := by decide +kernel
theorem dX1_run_78 : decode cX1_run 78 = .ok (.iload 5, 2) := by decide +kernel
theorem dX1_run_80 : decode cX1_run 80 = .ok (.iload 7, 2) := by decide +kernel
theorem dX1_run_82 : decode cX1_run 82 = .ok (.iadd, 1) := by decide +kernel
theorem dX1_run_83 : decode cX1_run 83 = .ok (.aload_n 1, 1) := by decide +kernel
theorem dX1_run_84 : decode cX1_run 84 = .ok (.getfield 41, 3) := by decide +kernel
theorem dX1_run_87 : decode cX1_run 87 = .ok (.if_icmp .lt 11, 3) := by decide +kernel
theorem dX1_run_90 : decode cX1_run 90 = .ok (.iload 7, 2) := by decide +kernel
theorem dX1_run_92 : decode cX1_run 92 = .ok (.ineg, 1) := by decide +kernel
theorem dX1_run_93 : decode cX1_run 93 = .ok (.istore 7, 2) := by decide +kernel
theorem dX1_run_95 : decode cX1_run 95 = .ok (.iinc 9 1, 3) := by decide +kernel
theorem dX1_run_98 : decode cX1_run 98 = .ok (.iload 6, 2) := by decide +kernel
theorem dX1_run_100 : decode cX1_run 100 = .ok (.iload 8, 2) := by decide +kernel
theorem dX1_run_102 : decode cX1_run 102 = .ok (.iadd, 1) := by decide +kernel
theorem dX1_run_103 : decode cX1_run 103 = .ok (.ifCond .lt 15, 3) := by decide +kernel
theorem dX1_run_106 : decode cX1_run 106 = .ok (.iload 6, 2) := by decide +kernel
theorem dX1_run_108 : decode cX1_run 108 = .ok (.iload 8, 2) := by decide +kernel
theorem dX1_run_110 : decode cX1_run 110 = .ok (.iadd, 1) := by decide +kernel
theorem dX1_run_111 : decode cX1_run 111 = .ok (.aload_n 1, 1) := by decide +kernel
theorem dX1_run_112 : decode cX1_run 112 = .ok (.getfield 44, 3) := by decide +kernel
theorem dX1_run_115 : decode cX1_run 115 = .ok (.if_icmp .lt 11, 3) := by decide +kernel
theorem dX1_run_118 : decode cX1_run 118 = .ok (.iload 8, 2) := by decide +kernel
theorem dX1_run_120 : decode cX1_run 120 = .ok (.ineg, 1) := by decide +kernel
theorem dX1_run_121 : decode cX1_run 121 = .ok (.istore 8, 2) := by decide +kernel
theorem dX1_run_123 : decode cX1_run 123 = .ok (.iinc 9 1, 3) := by decide +kernel
theorem dX1_run_126 : decode cX1_run 126 = .ok (.iload 5, 2) := by decide +kernel
theorem dX1_run_128 : decode cX1_run 128 = .ok (.iload 7, 2) := by decide +kernel
theorem dX1_run_130 : decode cX1_run 130 = .ok (.iadd, 1) := by decide +kernel
theorem dX1_run_131 : decode cX1_run 131 = .ok (.istore 5, 2) := by decide +kernel
theorem dX1_run_133 : decode cX1_run 133 = .ok (.iload 6, 2) := by decide +kernel
theorem dX1_run_135 : decode cX1_run 135 = .ok (.iload 8, 2) := by decide +kernel
theorem dX1_run_137 : decode cX1_run 137 = .ok (.iadd, 1) := by decide +kernel
theorem dX1_run_138 : decode cX1_run 138 = .ok (.istore 6, 2) := by decide +kernel
theorem dX1_run_140 : decode cX1_run 140 = .ok (.aload_n 1, 1) := by decide +kernel
theorem dX1_run_141 : decode cX1_run 141 = .ok (.getfield 47, 3) := by decide +kernel
theorem dX1_run_144 : decode cX1_run 144 = .ok (.ifCond .le 27, 3) := by decide +kernel
theorem dX1_run_147 : decode cX1_run 147 = .ok (.iload 10, 2) := by decide +kernel
theorem dX1_run_149 : decode cX1_run 149 = .ok (.aload_n 1, 1) := by decide +kernel
theorem dX1_run_150 : decode cX1_run 150 = .ok (.getfield 47, 3) := by decide +kernel
theorem dX1_run_153 : decode cX1_run 153 = .ok (.irem, 1) := by decide +kernel
theorem dX1_run_154 : decode cX1_run 154 = .ok (.ifCond .ne 17, 3) := by decide +kernel
theorem dX1_run_157 : decode cX1_run 157 = .ok (.iload 6, 2) := by decide +kernel
theorem dX1_run_159 : decode cX1_run 159 = .ok (.iconst 1, 1) := by decide +kernel
theorem dX1_run_160 : decode cX1_run 160 = .ok (.iadd, 1) := by decide +kernel
theorem dX1_run_161 : decode cX1_run 161 = .ok (.aload_n 1, 1) := by decide +kernel
theorem dX1_run_162 : decode cX1_run 162 = .ok (.getfield 44, 3) := by decide +kernel
theorem dX1_run_165 : decode cX1_run 165 = .ok (.if_icmp .ge 6, 3) := by decide +kernel
theorem dX1_run_168 : decode cX1_run 168 = .ok (.iinc 6 1, 3) := by decide +kernel
theorem dX1_run_171 : decode cX1_run 171 = .ok (.aload_n 1, 1) := by decide +kernel
theorem dX1_run_172 : decode cX1_run 172 = .ok (.bipush 9, 2) := by decide +kernel
theorem dX1_run_174 : decode cX1_run 174 = .ok (.iload 6, 2) := by decide +kernel
theorem dX1_run_176 : decode cX1_run 176 = .ok (.imul, 1) := by decide +kernel
theorem dX1_run_177 : decode cX1_run 177 = .ok (.iload 5, 2) := by decide +kernel
theorem dX1_run_179 : decode cX1_run 179 = .ok (.iadd, 1) := by decide +kernel
theorem dX1_run_180 : decode cX1_run 180 = .ok (.invokevirtual 50, 3) := by decide +kernel
theorem dX1_run_183 : decode cX1_run 183 = .ok (.istore 11, 2) := by decide +kernel
theorem dX1_run_185 : decode cX1_run 185 = .ok (.bipush 100, 2) := by decide +kernel
theorem dX1_run_187 : decode cX1_run 187 = .ok (.aload_n 1, 1) := by decide +kernel
theorem dX1_run_188 : decode cX1_run 188 = .ok (.getfield 54, 3) := by decide +kernel
theorem dX1_run_191 : decode cX1_run 191 = .ok (.iload 10, 2) := by decide +kernel
theorem dX1_run_193 : decode cX1_run 193 = .ok (.imul, 1) := by decide +kernel
theorem dX1_run_194 : decode cX1_run 194 = .ok (.isub, 1) := by decide +kernel
theorem dX1_run_195 : decode cX1_run 195 = .ok (.aload_n 1, 1) := by decide +kernel
theorem dX1_run_196 : decode cX1_run 196 = .ok (.getfield 57, 3) := by decide +kernel
theorem dX1_run_199 : decode cX1_run 199 = .ok (.iload 9, 2) := by decide +kernel
theorem dX1_run_201 : decode cX1_run 201 = .ok (.imul, 1) := by decide +kernel
theorem dX1_run_202 : decode cX1_run 202 = .ok (.isub, 1) := by decide +kernel
theorem dX1_run_203 : decode cX1_run 203 = .ok (.istore 12, 2) := by decide +kernel
theorem dX1_run_205 : decode cX1_run 205 = .ok (.iload 12, 2) := by decide +kernel
theorem dX1_run_207 : decode cX1_run 207 = .ok (.ifCond .le 20, 3) := by decide +kernel
theorem dX1_run_210 : decode cX1_run 210 = .ok (.iload 11, 2) := by decide +kernel
theorem dX1_run_212 : decode cX1_run 212 = .ok (.iconst 1, 1) := by decide +kernel
theorem dX1_run_213 : decode cX1_run 213 = .ok (.if_icmp .eq 14, 3) := by decide +kernel
theorem dX1_run_216 : decode cX1_run 216 = .ok (.iload 11, 2) := by decide +kernel
theorem dX1_run_218 : decode cX1_run 218 = .ok (.iconst 2, 1) := by decide +kernel
theorem dX1_run_219 : decode cX1_run 219 = .ok (.if_icmp .ne 9, 3) := by decide +kernel
theorem dX1_run_222 : decode cX1_run 222 = .ok (.iload 4, 2) := by decide +kernel
theorem dX1_run_224 : decode cX1_run 224 = .ok (.ifCond .ne 4, 3) := by decide +kernel
theorem dX1_run_227 : decode cX1_run 227 = .ok (.return_, 1) := by decide +kernel
theorem dX1_run_228 : decode cX1_run 228 = .ok (.aload_n 0, 1) := by decide +kernel
theorem dX1_run_229 : decode cX1_run 229 = .ok (.getfield 15, 3) := by decide +kernel
theorem dX1_run_232 : decode cX1_run 232 = .ok (.iload 10, 2) := by decide +kernel
theorem dX1_run_234 : decode cX1_run 234 = .ok (.bipush 9, 2) := by decide +kernel
theorem dX1_run_236 : decode cX1_run 236 = .ok (.iload 6, 2) := by decide +kernel
theorem dX1_run_238 : decode cX1_run 238 = .ok (.imul, 1) := by decide +kernel
theorem dX1_run_239 : decode cX1_run 239 = .ok (.iload 5, 2) := by decide +kernel
theorem dX1_run_241 : decode cX1_run 241 = .ok (.iadd, 1) := by decide +kernel
theorem dX1_run_242 : decode cX1_run 242 = .ok (.iastore, 1) := by decide +kernel
theorem dX1_run_243 : decode cX1_run 243 = .ok (.aload_n 0, 1) := by decide +kernel
theorem dX1_run_244 : decode cX1_run 244 = .ok (.getfield 19, 3) := by decide +kernel
theorem dX1_run_247 : decode cX1_run 247 = .ok (.iload 10, 2) := by decide +kernel
theorem dX1_run_249 : decode cX1_run 249 = .ok (.iload 12, 2) := by decide +kernel
theorem dX1_run_251 : decode cX1_run 251 = .ok (.iastore, 1) := by decide +kernel
theorem dX1_run_252 : decode cX1_run 252 = .ok (.aload_n 0, 1) := by decide +kernel
theorem dX1_run_253 : decode cX1_run 253 = .ok (.getfield 22, 3) := by decide +kernel
theorem dX1_run_256 : decode cX1_run 256 = .ok (.iload 10, 2) := by decide +kernel
theorem dX1_run_258 : decode cX1_run 258 = .ok (.iload 9, 2) := by decide +kernel
theorem dX1_run_260 : decode cX1_run 260 = .ok (.iastore, 1) := by decide +kernel
theorem dX1_run_261 : decode cX1_run 261 = .ok (.aload_n 0, 1) := by decide +kernel
theorem dX1_run_262 : decode cX1_run 262 = .ok (.iload 10, 2) := by decide +kernel
theorem dX1_run_264 : decode cX1_run 264 = .ok (.putfield 9, 3) := by decide +kernel
theorem dX1_run_267 : decode cX1_run 267 = .ok (.iinc 10 1, 3) := by decide +kernel
theorem dX1_run_270 : decode cX1_run 270 = .ok (.goto (-207), 3) := by decide +kernel
theorem dX1_run_273 : decode cX1_run 273 = .ok (.return_, 1) := by decide +kernel
theorem dX1_reaches_0 : decode cX1_reaches 0 = .ok (.iload_n 1, 1) := by decide +kernel
theorem dX1_reaches_1 : decode cX1_reaches 1 = .ok (.ifCond .lt 21, 3) := by decide +kernel
theorem dX1_reaches_4 : decode cX1_reaches 4 = .ok (.iload_n 1, 1) := by decide +kernel
theorem dX1_reaches_5 : decode cX1_reaches 5 = .ok (.aload_n 0, 1) := by decide +kernel
theorem dX1_reaches_6 : decode cX1_reaches 6 = .ok (.getfield 9, 3) := by decide +kernel
theorem dX1_reaches_9 : decode cX1_reaches 9 = .ok (.if_icmp .gt 13, 3) := by decide +kernel
theorem dX1_reaches_12 : decode cX1_reaches 12 = .ok (.iload_n 1, 1) := by decide +kernel
theorem dX1_reaches_13 : decode cX1_reaches 13 = .ok (.bipush 40, 2) := by decide +kernel
theorem dX1_reaches_15 : decode cX1_reaches 15 = .ok (.if_icmp .gt 7, 3) := by decide +kernel
theorem dX1_reaches_18 : decode cX1_reaches 18 = .ok (.iconst 1, 1) := by decide +kernel
theorem dX1_reaches_19 : decode cX1_reaches 19 = .ok (.goto 4, 3) := by decide +kernel
theorem dX1_reaches_22 : decode cX1_reaches 22 = .ok (.iconst 0, 1) := by decide +kernel
theorem dX1_reaches_23 : decode cX1_reaches 23 = .ok (.ireturn, 1) := by decide +kernel
theorem dX1_cellAt_0 : decode cX1_cellAt 0 = .ok (.aload_n 0, 1) := by decide +kernel
theorem dX1_cellAt_1 : decode cX1_cellAt 1 = .ok (.iload_n 1, 1) := by decide +kernel
theorem dX1_cellAt_2 : decode cX1_cellAt 2 = .ok (.invokevirtual 60, 3) := by decide +kernel
theorem dX1_cellAt_5 : decode cX1_cellAt 5 = .ok (.ifCond .eq 12, 3) := by decide +kernel
theorem dX1_cellAt_8 : decode cX1_cellAt 8 = .ok (.aload_n 0, 1) := by decide +kernel
theorem dX1_cellAt_9 : decode cX1_cellAt 9 = .ok (.getfield 15, 3) := by decide +kernel
theorem dX1_cellAt_12 : decode cX1_cellAt 12 = .ok (.iload_n 1, 1) := by decide +kernel
theorem dX1_cellAt_13 : decode cX1_cellAt 13 = .ok (.iaload, 1) := by decide +kernel
theorem dX1_cellAt_14 : decode cX1_cellAt 14 = .ok (.goto 5, 3) := by decide +kernel
theorem dX1_cellAt_17 : decode cX1_cellAt 17 = .ok (.bipush (-4), 2) := by decide +kernel
theorem dX1_cellAt_19 : decode cX1_cellAt 19 = .ok (.ireturn, 1) := by decide +kernel
theorem dX1_loudAt_0 : decode cX1_loudAt 0 = .ok (.aload_n 0, 1) := by decide +kernel
theorem dX1_loudAt_1 : decode cX1_loudAt 1 = .ok (.iload_n 1, 1) := by decide +kernel
theorem dX1_loudAt_2 : decode cX1_loudAt 2 = .ok (.invokevirtual 60, 3) := by decide +kernel
theorem dX1_loudAt_5 : decode cX1_loudAt 5 = .ok (.ifCond .eq 12, 3) := by decide +kernel
theorem dX1_loudAt_8 : decode cX1_loudAt 8 = .ok (.aload_n 0, 1) := by decide +kernel
theorem dX1_loudAt_9 : decode cX1_loudAt 9 = .ok (.getfield 19, 3) := by decide +kernel
theorem dX1_loudAt_12 : decode cX1_loudAt 12 = .ok (.iload_n 1, 1) := by decide +kernel
theorem dX1_loudAt_13 : decode cX1_loudAt 13 = .ok (.iaload, 1) := by decide +kernel
theorem dX1_loudAt_14 : decode cX1_loudAt 14 = .ok (.goto 5, 3) := by decide +kernel
theorem dX1_loudAt_17 : decode cX1_loudAt 17 = .ok (.bipush (-4), 2) := by decide +kernel
theorem dX1_loudAt_19 : decode cX1_loudAt 19 = .ok (.ireturn, 1) := by decide +kernel
theorem dX1_bouncesAt_0 : decode cX1_bouncesAt 0 = .ok (.aload_n 0, 1) := by decide +kernel
theorem dX1_bouncesAt_1 : decode cX1_bouncesAt 1 = .ok (.iload_n 1, 1) := by decide +kernel
theorem dX1_bouncesAt_2 : decode cX1_bouncesAt 2 = .ok (.invokevirtual 60, 3) := by decide +kernel
theorem dX1_bouncesAt_5 : decode cX1_bouncesAt 5 = .ok (.ifCond .eq 12, 3) := by decide +kernel
theorem dX1_bouncesAt_8 : decode cX1_bouncesAt 8 = .ok (.aload_n 0, 1) := by decide +kernel
theorem dX1_bouncesAt_9 : decode cX1_bouncesAt 9 = .ok (.getfield 22, 3) := by decide +kernel
theorem dX1_bouncesAt_12 : decode cX1_bouncesAt 12 = .ok (.iload_n 1, 1) := by decide +kernel
theorem dX1_bouncesAt_13 : decode cX1_bouncesAt 13 = .ok (.iaload, 1) := by decide +kernel
theorem dX1_bouncesAt_14 : decode cX1_bouncesAt 14 = .ok (.goto 5, 3) := by decide +kernel
theorem dX1_bouncesAt_17 : decode cX1_bouncesAt 17 = .ok (.bipush (-4), 2) := by decide +kernel
theorem dX1_bouncesAt_19 : decode cX1_bouncesAt 19 = .ok (.ireturn, 1) := by decide +kernel
theorem dX1_stepHeardOn_0 : decode cX1_stepHeardOn 0 = .ok (.iconst 1, 1) := by decide +kernel
theorem dX1_stepHeardOn_1 : decode cX1_stepHeardOn 1 = .ok (.istore_n 3, 1) := by decide +kernel
theorem dX1_stepHeardOn_2 : decode cX1_stepHeardOn 2 = .ok (.iload_n 3, 1) := by decide +kernel
theorem dX1_stepHeardOn_3 : decode cX1_stepHeardOn 3 = .ok (.aload_n 0, 1) := by decide +kernel
theorem dX1_stepHeardOn_4 : decode cX1_stepHeardOn 4 = .ok (.getfield 9, 3) := by decide +kernel
theorem dX1_stepHeardOn_7 : decode cX1_stepHeardOn 7 = .ok (.if_icmp .gt 41, 3) := by decide +kernel
theorem dX1_stepHeardOn_10 : decode cX1_stepHeardOn 10 = .ok (.iload_n 3, 1) := by decide +kernel
theorem dX1_stepHeardOn_11 : decode cX1_stepHeardOn 11 = .ok (.bipush 40, 2) := by decide +kernel
theorem dX1_stepHeardOn_13 : decode cX1_stepHeardOn 13 = .ok (.if_icmp .gt 35, 3) := by decide +kernel
theorem dX1_stepHeardOn_16 : decode cX1_stepHeardOn 16 = .ok (.aload_n 0, 1) := by decide +kernel
theorem dX1_stepHeardOn_17 : decode cX1_stepHeardOn 17 = .ok (.getfield 15, 3) := by decide +kernel
theorem dX1_stepHeardOn_20 : decode cX1_stepHeardOn 20 = .ok (.iload_n 3, 1) := by decide +kernel
theorem dX1_stepHeardOn_21 : decode cX1_stepHeardOn 21 = .ok (.iaload, 1) := by decide +kernel
theorem dX1_stepHeardOn_22 : decode cX1_stepHeardOn 22 = .ok (.iload_n 1, 1) := by decide +kernel
theorem dX1_stepHeardOn_23 : decode cX1_stepHeardOn 23 = .ok (.if_icmp .ne 19, 3) := by decide +kernel
theorem dX1_stepHeardOn_26 : decode cX1_stepHeardOn 26 = .ok (.aload_n 0, 1) := by decide +kernel
theorem dX1_stepHeardOn_27 : decode cX1_stepHeardOn 27 = .ok (.getfield 19, 3) := by decide +kernel
theorem dX1_stepHeardOn_30 : decode cX1_stepHeardOn 30 = .ok (.iload_n 3, 1) := by decide +kernel
theorem dX1_stepHeardOn_31 : decode cX1_stepHeardOn 31 = .ok (.iaload, 1) := by decide +kernel
theorem dX1_stepHeardOn_32 : decode cX1_stepHeardOn 32 = .ok (.iload_n 2, 1) := by decide +kernel
theorem dX1_stepHeardOn_33 : decode cX1_stepHeardOn 33 = .ok (.if_icmp .lt 7, 3) := by decide +kernel
theorem dX1_stepHeardOn_36 : decode cX1_stepHeardOn 36 = .ok (.iload_n 3, 1) := by decide +kernel
theorem dX1_stepHeardOn_37 : decode cX1_stepHeardOn 37 = .ok (.goto 4, 3) := by decide +kernel
theorem dX1_stepHeardOn_40 : decode cX1_stepHeardOn 40 = .ok (.iconst 0, 1) := by decide +kernel
theorem dX1_stepHeardOn_41 : decode cX1_stepHeardOn 41 = .ok (.ireturn, 1) := by decide +kernel
theorem dX1_stepHeardOn_42 : decode cX1_stepHeardOn 42 = .ok (.iinc 3 1, 3) := by decide +kernel
theorem dX1_stepHeardOn_45 : decode cX1_stepHeardOn 45 = .ok (.goto (-43), 3) := by decide +kernel
theorem dX1_stepHeardOn_48 : decode cX1_stepHeardOn 48 = .ok (.iconst 0, 1) := by decide +kernel
theorem dX1_stepHeardOn_49 : decode cX1_stepHeardOn 49 = .ok (.ireturn, 1) := by decide +kernel
theorem dX2_init_0 : decode cX2_init 0 = .ok (.aload_n 0, 1) := by decide +kernel
theorem dX2_init_1 : decode cX2_init 1 = .ok (.invokespecial 3, 3) := by decide +kernel
theorem dX2_init_4 : decode cX2_init 4 = .ok (.aload_n 0, 1) := by decide +kernel
theorem dX2_init_5 : decode cX2_init 5 = .ok (.new 9, 3) := by decide +kernel
theorem dX2_init_8 : decode cX2_init 8 = .ok (.dup, 1) := by decide +kernel
theorem dX2_init_9 : decode cX2_init 9 = .ok (.invokespecial 11, 3) := by decide +kernel
theorem dX2_init_12 : decode cX2_init 12 = .ok (.putfield 12, 3) := by decide +kernel
theorem dX2_init_15 : decode cX2_init 15 = .ok (.aload_n 0, 1) := by decide +kernel
theorem dX2_init_16 : decode cX2_init 16 = .ok (.bipush 8, 2) := by decide +kernel
theorem dX2_init_18 : decode cX2_init 18 = .ok (.newarray .int, 2) := by decide +kernel
theorem dX2_init_20 : decode cX2_init 20 = .ok (.putfield 18, 3) := by decide +kernel
theorem dX2_init_23 : decode cX2_init 23 = .ok (.return_, 1) := by decide +kernel
theorem dX2_tellFirst_0 : decode cX2_tellFirst 0 = .ok (.aload_n 0, 1) := by decide +kernel
theorem dX2_tellFirst_1 : decode cX2_tellFirst 1 = .ok (.getfield 18, 3) := by decide +kernel
theorem dX2_tellFirst_4 : decode cX2_tellFirst 4 = .ok (.iconst 0, 1) := by decide +kernel
theorem dX2_tellFirst_5 : decode cX2_tellFirst 5 = .ok (.invokestatic 22, 3) := by decide +kernel
theorem dX2_tellFirst_8 : decode cX2_tellFirst 8 = .ok (.iconst 0, 1) := by decide +kernel
theorem dX2_tellFirst_9 : decode cX2_tellFirst 9 = .ok (.istore_n 3, 1) := by decide +kernel
theorem dX2_tellFirst_10 : decode cX2_tellFirst 10 = .ok (.iconst 0, 1) := by decide +kernel
theorem dX2_tellFirst_11 : decode cX2_tellFirst 11 = .ok (.istore 4, 2) := by decide +kernel
theorem dX2_tellFirst_13 : decode cX2_tellFirst 13 = .ok (.iload 4, 2) := by decide +kernel
theorem dX2_tellFirst_15 : decode cX2_tellFirst 15 = .ok (.iload_n 2, 1) := by decide +kernel
theorem dX2_tellFirst_16 : decode cX2_tellFirst 16 = .ok (.if_icmp .ge 19, 3) := by decide +kernel
theorem dX2_tellFirst_19 : decode cX2_tellFirst 19 = .ok (.iload_n 3, 1) := by decide +kernel
theorem dX2_tellFirst_20 : decode cX2_tellFirst 20 = .ok (.aload_n 0, 1) := by decide +kernel
theorem dX2_tellFirst_21 : decode cX2_tellFirst 21 = .ok (.aload_n 1, 1) := by decide +kernel
theorem dX2_tellFirst_22 : decode cX2_tellFirst 22 = .ok (.iload 4, 2) := by decide +kernel
theorem dX2_tellFirst_24 : decode cX2_tellFirst 24 = .ok (.invokevirtual 28, 3) := by decide +kernel
theorem dX2_tellFirst_27 : decode cX2_tellFirst 27 = .ok (.iadd, 1) := by decide +kernel
theorem dX2_tellFirst_28 : decode cX2_tellFirst 28 = .ok (.istore_n 3, 1) := by decide +kernel
theorem dX2_tellFirst_29 : decode cX2_tellFirst 29 = .ok (.iinc 4 1, 3) := by decide +kernel
theorem dX2_tellFirst_32 : decode cX2_tellFirst 32 = .ok (.goto (-19), 3) := by decide +kernel
theorem dX2_tellFirst_35 : decode cX2_tellFirst 35 = .ok (.iload_n 3, 1) := by decide +kernel
theorem dX2_tellFirst_36 : decode cX2_tellFirst 36 = .ok (.ireturn, 1) := by decide +kernel
theorem dX2_tellAllBut_0 : decode cX2_tellAllBut 0 = .ok (.aload_n 0, 1) := by decide +kernel
theorem dX2_tellAllBut_1 : decode cX2_tellAllBut 1 = .ok (.getfield 18, 3) := by decide +kernel
theorem dX2_tellAllBut_4 : decode cX2_tellAllBut 4 = .ok (.iconst 0, 1) := by decide +kernel
theorem dX2_tellAllBut_5 : decode cX2_tellAllBut 5 = .ok (.invokestatic 22, 3) := by decide +kernel
theorem dX2_tellAllBut_8 : decode cX2_tellAllBut 8 = .ok (.iconst 0, 1) := by decide +kernel
theorem dX2_tellAllBut_9 : decode cX2_tellAllBut 9 = .ok (.istore_n 3, 1) := by decide +kernel
theorem dX2_tellAllBut_10 : decode cX2_tellAllBut 10 = .ok (.iload_n 3, 1) := by decide +kernel
theorem dX2_tellAllBut_11 : decode cX2_tellAllBut 11 = .ok (.aload_n 1, 1) := by decide +kernel
theorem dX2_tellAllBut_12 : decode cX2_tellAllBut 12 = .ok (.getfield 32, 3) := by decide +kernel
theorem dX2_tellAllBut_15 : decode cX2_tellAllBut 15 = .ok (.getfield 38, 3) := by decide +kernel
theorem dX2_tellAllBut_18 : decode cX2_tellAllBut 18 = .ok (.if_icmp .ge 21, 3) := by decide +kernel
theorem dX2_tellAllBut_21 : decode cX2_tellAllBut 21 = .ok (.iload_n 3, 1) := by decide +kernel
theorem dX2_tellAllBut_22 : decode cX2_tellAllBut 22 = .ok (.iload_n 2, 1) := by decide +kernel
theorem dX2_tellAllBut_23 : decode cX2_tellAllBut 23 = .ok (.if_icmp .eq 10, 3) := by decide +kernel
theorem dX2_tellAllBut_26 : decode cX2_tellAllBut 26 = .ok (.aload_n 0, 1) := by decide +kernel
theorem dX2_tellAllBut_27 : decode cX2_tellAllBut 27 = .ok (.aload_n 1, 1) := by decide +kernel
theorem dX2_tellAllBut_28 : decode cX2_tellAllBut 28 = .ok (.iload_n 3, 1) := by decide +kernel
theorem dX2_tellAllBut_29 : decode cX2_tellAllBut 29 = .ok (.invokevirtual 28, 3) := by decide +kernel
theorem dX2_tellAllBut_32 : decode cX2_tellAllBut 32 = .ok (.pop, 1) := by decide +kernel
theorem dX2_tellAllBut_33 : decode cX2_tellAllBut 33 = .ok (.iinc 3 1, 3) := by decide +kernel
theorem dX2_tellAllBut_36 : decode cX2_tellAllBut 36 = .ok (.goto (-26), 3) := by decide +kernel
theorem dX2_tellAllBut_39 : decode cX2_tellAllBut 39 = .ok (.return_, 1) := by decide +kernel
theorem dX2_firstKnownOutside_0 : decode cX2_firstKnownOutside 0 = .ok (.aload_n 0, 1) := by decide +kernel
theorem dX2_firstKnownOutside_1 : decode cX2_firstKnownOutside 1 = .ok (.getfield 18, 3) := by decide +kernel
theorem dX2_firstKnownOutside_4 : decode cX2_firstKnownOutside 4 = .ok (.iconst 0, 1) := by decide +kernel
theorem dX2_firstKnownOutside_5 : decode cX2_firstKnownOutside 5 = .ok (.invokestatic 22, 3) := by decide +kernel
theorem dX2_firstKnownOutside_8 : decode cX2_firstKnownOutside 8 = .ok (.iconst 0, 1) := by decide +kernel
theorem dX2_firstKnownOutside_9 : decode cX2_firstKnownOutside 9 = .ok (.istore 4, 2) := by decide +kernel
theorem dX2_firstKnownOutside_11 : decode cX2_firstKnownOutside 11 = .ok (.iload 4, 2) := by decide +kernel
theorem dX2_firstKnownOutside_13 : decode cX2_firstKnownOutside 13 = .ok (.aload_n 1, 1) := by decide +kernel
theorem dX2_firstKnownOutside_14 : decode cX2_firstKnownOutside 14 = .ok (.getfield 32, 3) := by decide +kernel
theorem dX2_firstKnownOutside_17 : decode cX2_firstKnownOutside 17 = .ok (.getfield 38, 3) := by decide +kernel
theorem dX2_firstKnownOutside_20 : decode cX2_firstKnownOutside 20 = .ok (.if_icmp .ge 32, 3) := by decide +kernel
theorem dX2_firstKnownOutside_23 : decode cX2_firstKnownOutside 23 = .ok (.aload_n 0, 1) := by decide +kernel
theorem dX2_firstKnownOutside_24 : decode cX2_firstKnownOutside 24 = .ok (.aload_n 1, 1) := by decide +kernel
theorem dX2_firstKnownOutside_25 : decode cX2_firstKnownOutside 25 = .ok (.iload 4, 2) := by decide +kernel
theorem dX2_firstKnownOutside_27 : decode cX2_firstKnownOutside 27 = .ok (.invokevirtual 28, 3) := by decide +kernel
theorem dX2_firstKnownOutside_30 : decode cX2_firstKnownOutside 30 = .ok (.pop, 1) := by decide +kernel
theorem dX2_firstKnownOutside_31 : decode cX2_firstKnownOutside 31 = .ok (.aload_n 0, 1) := by decide +kernel
theorem dX2_firstKnownOutside_32 : decode cX2_firstKnownOutside 32 = .ok (.iload_n 2, 1) := by decide +kernel
theorem dX2_firstKnownOutside_33 : decode cX2_firstKnownOutside 33 = .ok (.invokevirtual 44, 3) := by decide +kernel
theorem dX2_firstKnownOutside_36 : decode cX2_firstKnownOutside 36 = .ok (.iload_n 3, 1) := by decide +kernel
theorem dX2_firstKnownOutside_37 : decode cX2_firstKnownOutside 37 = .ok (.iconst (-1), 1) := by decide +kernel
theorem dX2_firstKnownOutside_38 : decode cX2_firstKnownOutside 38 = .ok (.ixor, 1) := by decide +kernel
theorem dX2_firstKnownOutside_39 : decode cX2_firstKnownOutside 39 = .ok (.iand, 1) := by decide +kernel
theorem dX2_firstKnownOutside_40 : decode cX2_firstKnownOutside 40 = .ok (.ifCond .eq 6, 3) := by decide +kernel
theorem dX2_firstKnownOutside_43 : decode cX2_firstKnownOutside 43 = .ok (.iload 4, 2) := by decide +kernel
theorem dX2_firstKnownOutside_45 : decode cX2_firstKnownOutside 45 = .ok (.ireturn, 1) := by decide +kernel
theorem dX2_firstKnownOutside_46 : decode cX2_firstKnownOutside 46 = .ok (.iinc 4 1, 3) := by decide +kernel
theorem dX2_firstKnownOutside_49 : decode cX2_firstKnownOutside 49 = .ok (.goto (-38), 3) := by decide +kernel
theorem dX2_firstKnownOutside_52 : decode cX2_firstKnownOutside 52 = .ok (.bipush (-4), 2) := by decide +kernel
theorem dX2_firstKnownOutside_54 : decode cX2_firstKnownOutside 54 = .ok (.ireturn, 1) := by decide +kernel
theorem dX2_knowersOf_0 : decode cX2_knowersOf 0 = .ok (.iload_n 1, 1) := by decide +kernel
theorem dX2_knowersOf_1 : decode cX2_knowersOf 1 = .ok (.invokestatic 48, 3) := by decide +kernel
theorem dX2_knowersOf_4 : decode cX2_knowersOf 4 = .ok (.ifCond .eq 12, 3) := by decide +kernel
theorem dX2_knowersOf_7 : decode cX2_knowersOf 7 = .ok (.aload_n 0, 1) := by decide +kernel
theorem dX2_knowersOf_8 : decode cX2_knowersOf 8 = .ok (.getfield 18, 3) := by decide +kernel
theorem dX2_knowersOf_11 : decode cX2_knowersOf 11 = .ok (.iload_n 1, 1) := by decide +kernel
theorem dX2_knowersOf_12 : decode cX2_knowersOf 12 = .ok (.iaload, 1) := by decide +kernel
theorem dX2_knowersOf_13 : decode cX2_knowersOf 13 = .ok (.goto 4, 3) := by decide +kernel
theorem dX2_knowersOf_16 : decode cX2_knowersOf 16 = .ok (.iconst 0, 1) := by decide +kernel
theorem dX2_knowersOf_17 : decode cX2_knowersOf 17 = .ok (.ireturn, 1) := by decide +kernel
theorem dX2_secretsOf_0 : decode cX2_secretsOf 0 = .ok (.iconst 0, 1) := by decide +kernel
theorem dX2_secretsOf_1 : decode cX2_secretsOf 1 = .ok (.istore_n 2, 1) := by decide +kernel
theorem dX2_secretsOf_2 : decode cX2_secretsOf 2 = .ok (.iconst 0, 1) := by decide +kernel
theorem dX2_secretsOf_3 : decode cX2_secretsOf 3 = .ok (.istore_n 3, 1) := by decide +kernel
theorem dX2_secretsOf_4 : decode cX2_secretsOf 4 = .ok (.iload_n 3, 1) := by decide +kernel
theorem dX2_secretsOf_5 : decode cX2_secretsOf 5 = .ok (.bipush 8, 2) := by decide +kernel
theorem dX2_secretsOf_7 : decode cX2_secretsOf 7 = .ok (.if_icmp .ge 23, 3) := by decide +kernel
theorem dX2_secretsOf_10 : decode cX2_secretsOf 10 = .ok (.iload_n 2, 1) := by decide +kernel
theorem dX2_secretsOf_11 : decode cX2_secretsOf 11 = .ok (.aload_n 0, 1) := by decide +kernel
theorem dX2_secretsOf_12 : decode cX2_secretsOf 12 = .ok (.iload_n 3, 1) := by decide +kernel
theorem dX2_secretsOf_13 : decode cX2_secretsOf 13 = .ok (.invokevirtual 44, 3) := by decide +kernel
theorem dX2_secretsOf_16 : decode cX2_secretsOf 16 = .ok (.iload_n 1, 1) := by decide +kernel
theorem dX2_secretsOf_17 : decode cX2_secretsOf 17 = .ok (.invokestatic 52, 3) := by decide +kernel
theorem dX2_secretsOf_20 : decode cX2_secretsOf 20 = .ok (.iload_n 3, 1) := by decide +kernel
theorem dX2_secretsOf_21 : decode cX2_secretsOf 21 = .ok (.ishl, 1) := by decide +kernel
theorem dX2_secretsOf_22 : decode cX2_secretsOf 22 = .ok (.ior, 1) := by decide +kernel
theorem dX2_secretsOf_23 : decode cX2_secretsOf 23 = .ok (.istore_n 2, 1) := by decide +kernel
theorem dX2_secretsOf_24 : decode cX2_secretsOf 24 = .ok (.iinc 3 1, 3) := by decide +kernel
theorem dX2_secretsOf_27 : decode cX2_secretsOf 27 = .ok (.goto (-23), 3) := by decide +kernel
theorem dX2_secretsOf_30 : decode cX2_secretsOf 30 = .ok (.iload_n 2, 1) := by decide +kernel
theorem dX2_secretsOf_31 : decode cX2_secretsOf 31 = .ok (.ireturn, 1) := by decide +kernel
theorem dX2_tellOne_0 : decode cX2_tellOne 0 = .ok (.aload_n 1, 1) := by decide +kernel
theorem dX2_tellOne_1 : decode cX2_tellOne 1 = .ok (.getfield 32, 3) := by decide +kernel
theorem dX2_tellOne_4 : decode cX2_tellOne 4 = .ok (.iload_n 2, 1) := by decide +kernel
theorem dX2_tellOne_5 : decode cX2_tellOne 5 = .ok (.iconst 1, 1) := by decide +kernel
theorem dX2_tellOne_6 : decode cX2_tellOne 6 = .ok (.invokevirtual 56, 3) := by decide +kernel
theorem dX2_tellOne_9 : decode cX2_tellOne 9 = .ok (.istore_n 3, 1) := by decide +kernel
theorem dX2_tellOne_10 : decode cX2_tellOne 10 = .ok (.aload_n 1, 1) := by decide +kernel
theorem dX2_tellOne_11 : decode cX2_tellOne 11 = .ok (.getfield 32, 3) := by decide +kernel
theorem dX2_tellOne_14 : decode cX2_tellOne 14 = .ok (.iload_n 2, 1) := by decide +kernel
theorem dX2_tellOne_15 : decode cX2_tellOne 15 = .ok (.iconst 2, 1) := by decide +kernel
theorem dX2_tellOne_16 : decode cX2_tellOne 16 = .ok (.invokevirtual 56, 3) := by decide +kernel
theorem dX2_tellOne_19 : decode cX2_tellOne 19 = .ok (.istore 4, 2) := by decide +kernel
theorem dX2_tellOne_21 : decode cX2_tellOne 21 = .ok (.aload_n 0, 1) := by decide +kernel
theorem dX2_tellOne_22 : decode cX2_tellOne 22 = .ok (.iload 4, 2) := by decide +kernel
theorem dX2_tellOne_24 : decode cX2_tellOne 24 = .ok (.invokevirtual 44, 3) := by decide +kernel
theorem dX2_tellOne_27 : decode cX2_tellOne 27 = .ok (.istore 5, 2) := by decide +kernel
theorem dX2_tellOne_29 : decode cX2_tellOne 29 = .ok (.iload_n 3, 1) := by decide +kernel
theorem dX2_tellOne_30 : decode cX2_tellOne 30 = .ok (.iconst 0, 1) := by decide +kernel
theorem dX2_tellOne_31 : decode cX2_tellOne 31 = .ok (.aload_n 1, 1) := by decide +kernel
theorem dX2_tellOne_32 : decode cX2_tellOne 32 = .ok (.getfield 59, 3) := by decide +kernel
theorem dX2_tellOne_35 : decode cX2_tellOne 35 = .ok (.iconst 1, 1) := by decide +kernel
theorem dX2_tellOne_36 : decode cX2_tellOne 36 = .ok (.isub, 1) := by decide +kernel
theorem dX2_tellOne_37 : decode cX2_tellOne 37 = .ok (.invokestatic 62, 3) := by decide +kernel
theorem dX2_tellOne_40 : decode cX2_tellOne 40 = .ok (.ifCond .eq 25, 3) := by decide +kernel
theorem dX2_tellOne_43 : decode cX2_tellOne 43 = .ok (.iload 4, 2) := by decide +kernel
theorem dX2_tellOne_45 : decode cX2_tellOne 45 = .ok (.invokestatic 48, 3) := by decide +kernel
theorem dX2_tellOne_48 : decode cX2_tellOne 48 = .ok (.ifCond .eq 17, 3) := by decide +kernel
theorem dX2_tellOne_51 : decode cX2_tellOne 51 = .ok (.iload 5, 2) := by decide +kernel
theorem dX2_tellOne_53 : decode cX2_tellOne 53 = .ok (.ifCond .eq 14, 3) := by decide +kernel
theorem dX2_tellOne_56 : decode cX2_tellOne 56 = .ok (.iload 5, 2) := by decide +kernel
theorem dX2_tellOne_58 : decode cX2_tellOne 58 = .ok (.iload_n 3, 1) := by decide +kernel
theorem dX2_tellOne_59 : decode cX2_tellOne 59 = .ok (.invokestatic 52, 3) := by decide +kernel
theorem dX2_tellOne_62 : decode cX2_tellOne 62 = .ok (.ifCond .ne 5, 3) := by decide +kernel
theorem dX2_tellOne_65 : decode cX2_tellOne 65 = .ok (.iconst 0, 1) := by decide +kernel
theorem dX2_tellOne_66 : decode cX2_tellOne 66 = .ok (.ireturn, 1) := by decide +kernel
theorem dX2_tellOne_67 : decode cX2_tellOne 67 = .ok (.aload_n 0, 1) := by decide +kernel
theorem dX2_tellOne_68 : decode cX2_tellOne 68 = .ok (.getfield 18, 3) := by decide +kernel
theorem dX2_tellOne_71 : decode cX2_tellOne 71 = .ok (.iload 4, 2) := by decide +kernel
theorem dX2_tellOne_73 : decode cX2_tellOne 73 = .ok (.iload 5, 2) := by decide +kernel
theorem dX2_tellOne_75 : decode cX2_tellOne 75 = .ok (.iconst 1, 1) := by decide +kernel
theorem dX2_tellOne_76 : decode cX2_tellOne 76 = .ok (.iload_n 3, 1) := by decide +kernel
theorem dX2_tellOne_77 : decode cX2_tellOne 77 = .ok (.ishl, 1) := by decide +kernel
theorem dX2_tellOne_78 : decode cX2_tellOne 78 = .ok (.ior, 1) := by decide +kernel
theorem dX2_tellOne_79 : decode cX2_tellOne 79 = .ok (.aload_n 0, 1) := by decide +kernel
theorem dX2_tellOne_80 : decode cX2_tellOne 80 = .ok (.getfield 12, 3) := by decide +kernel
theorem dX2_tellOne_83 : decode cX2_tellOne 83 = .ok (.aload_n 1, 1) := by decide +kernel
theorem dX2_tellOne_84 : decode cX2_tellOne 84 = .ok (.iload_n 3, 1) := by decide +kernel
theorem dX2_tellOne_85 : decode cX2_tellOne 85 = .ok (.aload_n 1, 1) := by decide +kernel
theorem dX2_tellOne_86 : decode cX2_tellOne 86 = .ok (.getfield 32, 3) := by decide +kernel
theorem dX2_tellOne_89 : decode cX2_tellOne 89 = .ok (.iload_n 2, 1) := by decide +kernel
theorem dX2_tellOne_90 : decode cX2_tellOne 90 = .ok (.iconst 0, 1) := by decide +kernel
theorem dX2_tellOne_91 : decode cX2_tellOne 91 = .ok (.invokevirtual 56, 3) := by decide +kernel
theorem dX2_tellOne_94 : decode cX2_tellOne 94 = .ok (.invokevirtual 66, 3) := by decide +kernel
theorem dX2_tellOne_97 : decode cX2_tellOne 97 = .ok (.ior, 1) := by decide +kernel
theorem dX2_tellOne_98 : decode cX2_tellOne 98 = .ok (.iastore, 1) := by decide +kernel
theorem dX2_tellOne_99 : decode cX2_tellOne 99 = .ok (.iconst 1, 1) := by decide +kernel
theorem dX2_tellOne_100 : decode cX2_tellOne 100 = .ok (.ireturn, 1) := by decide +kernel
theorem dX3_init_0 : decode cX3_init 0 = .ok (.aload_n 0, 1) := by decide +kernel
theorem dX3_init_1 : decode cX3_init 1 = .ok (.invokespecial 3, 3) := by decide +kernel
theorem dX3_init_4 : decode cX3_init 4 = .ok (.aload_n 0, 1) := by decide +kernel
theorem dX3_init_5 : decode cX3_init 5 = .ok (.new 9, 3) := by decide +kernel
theorem dX3_init_8 : decode cX3_init 8 = .ok (.dup, 1) := by decide +kernel
theorem dX3_init_9 : decode cX3_init 9 = .ok (.invokespecial 11, 3) := by decide +kernel
theorem dX3_init_12 : decode cX3_init 12 = .ok (.putfield 12, 3) := by decide +kernel
theorem dX3_init_15 : decode cX3_init 15 = .ok (.aload_n 0, 1) := by decide +kernel
theorem dX3_init_16 : decode cX3_init 16 = .ok (.bipush 8, 2) := by decide +kernel
theorem dX3_init_18 : decode cX3_init 18 = .ok (.newarray .int, 2) := by decide +kernel
theorem dX3_init_20 : decode cX3_init 20 = .ok (.putfield 18, 3) := by decide +kernel
theorem dX3_init_23 : decode cX3_init 23 = .ok (.return_, 1) := by decide +kernel
theorem dX3_whisperFromBench_0 : decode cX3_whisperFromBench 0 = .ok (.aload_n 1, 1) := by decide +kernel
theorem dX3_whisperFromBench_1 : decode cX3_whisperFromBench 1 = .ok (.getfield 22, 3) := by decide +kernel
theorem dX3_whisperFromBench_4 : decode cX3_whisperFromBench 4 = .ok (.iload_n 2, 1) := by decide +kernel
theorem dX3_whisperFromBench_5 : decode cX3_whisperFromBench 5 = .ok (.invokevirtual 28, 3) := by decide +kernel
theorem dX3_whisperFromBench_8 : decode cX3_whisperFromBench 8 = .ok (.iconst 3, 1) := by decide +kernel
theorem dX3_whisperFromBench_9 : decode cX3_whisperFromBench 9 = .ok (.if_icmp .ne 7, 3) := by decide +kernel
theorem dX3_whisperFromBench_12 : decode cX3_whisperFromBench 12 = .ok (.iconst 1, 1) := by decide +kernel
theorem dX3_whisperFromBench_13 : decode cX3_whisperFromBench 13 = .ok (.goto 4, 3) := by decide +kernel
theorem dX3_whisperFromBench_16 : decode cX3_whisperFromBench 16 = .ok (.iconst 0, 1) := by decide +kernel
theorem dX3_whisperFromBench_17 : decode cX3_whisperFromBench 17 = .ok (.istore 4, 2) := by decide +kernel
theorem dX3_whisperFromBench_19 : decode cX3_whisperFromBench 19 = .ok (.aload_n 0, 1) := by decide +kernel
theorem dX3_whisperFromBench_20 : decode cX3_whisperFromBench 20 = .ok (.getfield 12, 3) := by decide +kernel
theorem dX3_whisperFromBench_23 : decode cX3_whisperFromBench 23 = .ok (.aload_n 1, 1) := by decide +kernel
theorem dX3_whisperFromBench_24 : decode cX3_whisperFromBench 24 = .ok (.aload_n 1, 1) := by decide +kernel
theorem dX3_whisperFromBench_25 : decode cX3_whisperFromBench 25 = .ok (.getfield 22, 3) := by decide +kernel
theorem dX3_whisperFromBench_28 : decode cX3_whisperFromBench 28 = .ok (.iload_n 2, 1) := by decide +kernel
theorem dX3_whisperFromBench_29 : decode cX3_whisperFromBench 29 = .ok (.iload_n 3, 1) := by decide +kernel
theorem dX3_whisperFromBench_30 : decode cX3_whisperFromBench 30 = .ok (.aload_n 1, 1) := by decide +kernel
theorem dX3_whisperFromBench_31 : decode cX3_whisperFromBench 31 = .ok (.getfield 34, 3) := by decide +kernel
theorem dX3_whisperFromBench_34 : decode cX3_whisperFromBench 34 = .ok (.invokevirtual 38, 3) := by decide +kernel
theorem dX3_whisperFromBench_37 : decode cX3_whisperFromBench 37 = .ok (.aload_n 1, 1) := by decide +kernel
theorem dX3_whisperFromBench_38 : decode cX3_whisperFromBench 38 = .ok (.getfield 22, 3) := by decide +kernel
theorem dX3_whisperFromBench_41 : decode cX3_whisperFromBench 41 = .ok (.iload_n 2, 1) := by decide +kernel
theorem dX3_whisperFromBench_42 : decode cX3_whisperFromBench 42 = .ok (.iload_n 3, 1) := by decide +kernel
theorem dX3_whisperFromBench_43 : decode cX3_whisperFromBench 43 = .ok (.invokevirtual 42, 3) := by decide +kernel
theorem dX3_whisperFromBench_46 : decode cX3_whisperFromBench 46 = .ok (.iload 4, 2) := by decide +kernel
theorem dX3_whisperFromBench_48 : decode cX3_whisperFromBench 48 = .ok (.invokevirtual 46, 3) := by decide +kernel
theorem dX3_whisperFromBench_51 : decode cX3_whisperFromBench 51 = .ok (.return_, 1) := by decide +kernel
theorem dX3_stepOfHearing_0 : decode cX3_stepOfHearing 0 = .ok (.aload_n 0, 1) := by decide +kernel
theorem dX3_stepOfHearing_1 : decode cX3_stepOfHearing 1 = .ok (.getfield 12, 3) := by decide +kernel
theorem dX3_stepOfHearing_4 : decode cX3_stepOfHearing 4 = .ok (.aload_n 1, 1) := by decide +kernel
theorem dX3_stepOfHearing_5 : decode cX3_stepOfHearing 5 = .ok (.getfield 22, 3) := by decide +kernel
theorem dX3_stepOfHearing_8 : decode cX3_stepOfHearing 8 = .ok (.iload_n 2, 1) := by decide +kernel
theorem dX3_stepOfHearing_9 : decode cX3_stepOfHearing 9 = .ok (.iload_n 3, 1) := by decide +kernel
theorem dX3_stepOfHearing_10 : decode cX3_stepOfHearing 10 = .ok (.aload_n 1, 1) := by decide +kernel
theorem dX3_stepOfHearing_11 : decode cX3_stepOfHearing 11 = .ok (.getfield 34, 3) := by decide +kernel
theorem dX3_stepOfHearing_14 : decode cX3_stepOfHearing 14 = .ok (.invokevirtual 38, 3) := by decide +kernel
theorem dX3_stepOfHearing_17 : decode cX3_stepOfHearing 17 = .ok (.aload_n 1, 1) := by decide +kernel
theorem dX3_stepOfHearing_18 : decode cX3_stepOfHearing 18 = .ok (.getfield 22, 3) := by decide +kernel
theorem dX3_stepOfHearing_21 : decode cX3_stepOfHearing 21 = .ok (.iload_n 2, 1) := by decide +kernel
theorem dX3_stepOfHearing_22 : decode cX3_stepOfHearing 22 = .ok (.invokevirtual 50, 3) := by decide +kernel
theorem dX3_stepOfHearing_25 : decode cX3_stepOfHearing 25 = .ok (.invokevirtual 53, 3) := by decide +kernel
theorem dX3_stepOfHearing_28 : decode cX3_stepOfHearing 28 = .ok (.ireturn, 1) := by decide +kernel
theorem dX3_hearersOfLatest_0 : decode cX3_hearersOfLatest 0 = .ok (.iconst 0, 1) := by decide +kernel
theorem dX3_hearersOfLatest_1 : decode cX3_hearersOfLatest 1 = .ok (.istore_n 3, 1) := by decide +kernel
theorem dX3_hearersOfLatest_2 : decode cX3_hearersOfLatest 2 = .ok (.iconst 0, 1) := by decide +kernel
theorem dX3_hearersOfLatest_3 : decode cX3_hearersOfLatest 3 = .ok (.istore 4, 2) := by decide +kernel
theorem dX3_hearersOfLatest_5 : decode cX3_hearersOfLatest 5 = .ok (.iload 4, 2) := by decide +kernel
theorem dX3_hearersOfLatest_7 : decode cX3_hearersOfLatest 7 = .ok (.aload_n 1, 1) := by decide +kernel
theorem dX3_hearersOfLatest_8 : decode cX3_hearersOfLatest 8 = .ok (.getfield 22, 3) := by decide +kernel
theorem dX3_hearersOfLatest_11 : decode cX3_hearersOfLatest 11 = .ok (.getfield 56, 3) := by decide +kernel
theorem dX3_hearersOfLatest_14 : decode cX3_hearersOfLatest 14 = .ok (.if_icmp .ge 53, 3) := by decide +kernel
theorem dX3_hearersOfLatest_17 : decode cX3_hearersOfLatest 17 = .ok (.aload_n 1, 1) := by decide +kernel
theorem dX3_hearersOfLatest_18 : decode cX3_hearersOfLatest 18 = .ok (.getfield 22, 3) := by decide +kernel
theorem dX3_hearersOfLatest_21 : decode cX3_hearersOfLatest 21 = .ok (.iload 4, 2) := by decide +kernel
theorem dX3_hearersOfLatest_23 : decode cX3_hearersOfLatest 23 = .ok (.iload_n 2, 1) := by decide +kernel
theorem dX3_hearersOfLatest_24 : decode cX3_hearersOfLatest 24 = .ok (.aload_n 1, 1) := by decide +kernel
theorem dX3_hearersOfLatest_25 : decode cX3_hearersOfLatest 25 = .ok (.getfield 34, 3) := by decide +kernel
theorem dX3_hearersOfLatest_28 : decode cX3_hearersOfLatest 28 = .ok (.invokevirtual 38, 3) := by decide +kernel
theorem dX3_hearersOfLatest_31 : decode cX3_hearersOfLatest 31 = .ok (.istore 5, 2) := by decide +kernel
theorem dX3_hearersOfLatest_33 : decode cX3_hearersOfLatest 33 = .ok (.aload_n 0, 1) := by decide +kernel
theorem dX3_hearersOfLatest_34 : decode cX3_hearersOfLatest 34 = .ok (.getfield 12, 3) := by decide +kernel
theorem dX3_hearersOfLatest_37 : decode cX3_hearersOfLatest 37 = .ok (.iload 5, 2) := by decide +kernel
theorem dX3_hearersOfLatest_39 : decode cX3_hearersOfLatest 39 = .ok (.aload_n 1, 1) := by decide +kernel
theorem dX3_hearersOfLatest_40 : decode cX3_hearersOfLatest 40 = .ok (.getfield 22, 3) := by decide +kernel
theorem dX3_hearersOfLatest_43 : decode cX3_hearersOfLatest 43 = .ok (.iload 4, 2) := by decide +kernel
theorem dX3_hearersOfLatest_45 : decode cX3_hearersOfLatest 45 = .ok (.invokevirtual 50, 3) := by decide +kernel
theorem dX3_hearersOfLatest_48 : decode cX3_hearersOfLatest 48 = .ok (.invokevirtual 53, 3) := by decide +kernel
theorem dX3_hearersOfLatest_51 : decode cX3_hearersOfLatest 51 = .ok (.ifCond .le 10, 3) := by decide +kernel
theorem dX3_hearersOfLatest_54 : decode cX3_hearersOfLatest 54 = .ok (.iload_n 3, 1) := by decide +kernel
theorem dX3_hearersOfLatest_55 : decode cX3_hearersOfLatest 55 = .ok (.iconst 1, 1) := by decide +kernel
theorem dX3_hearersOfLatest_56 : decode cX3_hearersOfLatest 56 = .ok (.iload 4, 2) := by decide +kernel
theorem dX3_hearersOfLatest_58 : decode cX3_hearersOfLatest 58 = .ok (.ishl, 1) := by decide +kernel
theorem dX3_hearersOfLatest_59 : decode cX3_hearersOfLatest 59 = .ok (.ior, 1) := by decide +kernel
theorem dX3_hearersOfLatest_60 : decode cX3_hearersOfLatest 60 = .ok (.istore_n 3, 1) := by decide +kernel
theorem dX3_hearersOfLatest_61 : decode cX3_hearersOfLatest 61 = .ok (.iinc 4 1, 3) := by decide +kernel
theorem dX3_hearersOfLatest_64 : decode cX3_hearersOfLatest 64 = .ok (.goto (-59), 3) := by decide +kernel
theorem dX3_hearersOfLatest_67 : decode cX3_hearersOfLatest 67 = .ok (.iload_n 3, 1) := by decide +kernel
theorem dX3_hearersOfLatest_68 : decode cX3_hearersOfLatest 68 = .ok (.ireturn, 1) := by decide +kernel
theorem dX3_hearersOf_0 : decode cX3_hearersOf 0 = .ok (.aload_n 0, 1) := by decide +kernel
theorem dX3_hearersOf_1 : decode cX3_hearersOf 1 = .ok (.aload_n 1, 1) := by decide +kernel
theorem dX3_hearersOf_2 : decode cX3_hearersOf 2 = .ok (.iload_n 2, 1) := by decide +kernel
theorem dX3_hearersOf_3 : decode cX3_hearersOf 3 = .ok (.iload_n 3, 1) := by decide +kernel
theorem dX3_hearersOf_4 : decode cX3_hearersOf 4 = .ok (.invokevirtual 59, 3) := by decide +kernel
theorem dX3_hearersOf_7 : decode cX3_hearersOf 7 = .ok (.aload_n 0, 1) := by decide +kernel
theorem dX3_hearersOf_8 : decode cX3_hearersOf 8 = .ok (.aload_n 1, 1) := by decide +kernel
theorem dX3_hearersOf_9 : decode cX3_hearersOf 9 = .ok (.iload_n 3, 1) := by decide +kernel
theorem dX3_hearersOf_10 : decode cX3_hearersOf 10 = .ok (.invokevirtual 63, 3) := by decide +kernel
theorem dX3_hearersOf_13 : decode cX3_hearersOf 13 = .ok (.iconst 1, 1) := by decide +kernel
theorem dX3_hearersOf_14 : decode cX3_hearersOf 14 = .ok (.iload_n 2, 1) := by decide +kernel
theorem dX3_hearersOf_15 : decode cX3_hearersOf 15 = .ok (.ishl, 1) := by decide +kernel
theorem dX3_hearersOf_16 : decode cX3_hearersOf 16 = .ok (.iconst (-1), 1) := by decide +kernel
theorem dX3_hearersOf_17 : decode cX3_hearersOf 17 = .ok (.ixor, 1) := by decide +kernel
theorem dX3_hearersOf_18 : decode cX3_hearersOf 18 = .ok (.iand, 1) := by decide +kernel
theorem dX3_hearersOf_19 : decode cX3_hearersOf 19 = .ok (.ireturn, 1) := by decide +kernel
theorem dX3_listenToAll_0 : decode cX3_listenToAll 0 = .ok (.iconst 0, 1) := by decide +kernel
theorem dX3_listenToAll_1 : decode cX3_listenToAll 1 = .ok (.istore_n 3, 1) := by decide +kernel
theorem dX3_listenToAll_2 : decode cX3_listenToAll 2 = .ok (.iload_n 3, 1) := by decide +kernel
theorem dX3_listenToAll_3 : decode cX3_listenToAll 3 = .ok (.aload_n 1, 1) := by decide +kernel
theorem dX3_listenToAll_4 : decode cX3_listenToAll 4 = .ok (.getfield 22, 3) := by decide +kernel
theorem dX3_listenToAll_7 : decode cX3_listenToAll 7 = .ok (.getfield 56, 3) := by decide +kernel
theorem dX3_listenToAll_10 : decode cX3_listenToAll 10 = .ok (.if_icmp .ge 28, 3) := by decide +kernel
theorem dX3_listenToAll_13 : decode cX3_listenToAll 13 = .ok (.iload_n 3, 1) := by decide +kernel
theorem dX3_listenToAll_14 : decode cX3_listenToAll 14 = .ok (.bipush 8, 2) := by decide +kernel
theorem dX3_listenToAll_16 : decode cX3_listenToAll 16 = .ok (.if_icmp .ge 22, 3) := by decide +kernel
theorem dX3_listenToAll_19 : decode cX3_listenToAll 19 = .ok (.aload_n 0, 1) := by decide +kernel
theorem dX3_listenToAll_20 : decode cX3_listenToAll 20 = .ok (.getfield 18, 3) := by decide +kernel
theorem dX3_listenToAll_23 : decode cX3_listenToAll 23 = .ok (.iload_n 3, 1) := by decide +kernel
theorem dX3_listenToAll_24 : decode cX3_listenToAll 24 = .ok (.aload_n 0, 1) := by decide +kernel
theorem dX3_listenToAll_25 : decode cX3_listenToAll 25 = .ok (.aload_n 1, 1) := by decide +kernel
theorem dX3_listenToAll_26 : decode cX3_listenToAll 26 = .ok (.iload_n 3, 1) := by decide +kernel
theorem dX3_listenToAll_27 : decode cX3_listenToAll 27 = .ok (.iload_n 2, 1) := by decide +kernel
theorem dX3_listenToAll_28 : decode cX3_listenToAll 28 = .ok (.invokevirtual 67, 3) := by decide +kernel
theorem dX3_listenToAll_31 : decode cX3_listenToAll 31 = .ok (.iastore, 1) := by decide +kernel
theorem dX3_listenToAll_32 : decode cX3_listenToAll 32 = .ok (.iinc 3 1, 3) := by decide +kernel
theorem dX3_listenToAll_35 : decode cX3_listenToAll 35 = .ok (.goto (-33), 3) := by decide +kernel
theorem dX3_listenToAll_38 : decode cX3_listenToAll 38 = .ok (.return_, 1) := by decide +kernel
theorem dX3_isHeardBy_0 : decode cX3_isHeardBy 0 = .ok (.iload_n 1, 1) := by decide +kernel
theorem dX3_isHeardBy_1 : decode cX3_isHeardBy 1 = .ok (.iconst 0, 1) := by decide +kernel
theorem dX3_isHeardBy_2 : decode cX3_isHeardBy 2 = .ok (.bipush 7, 2) := by decide +kernel
theorem dX3_isHeardBy_4 : decode cX3_isHeardBy 4 = .ok (.invokestatic 71, 3) := by decide +kernel
theorem dX3_isHeardBy_7 : decode cX3_isHeardBy 7 = .ok (.ifCond .eq 26, 3) := by decide +kernel
theorem dX3_isHeardBy_10 : decode cX3_isHeardBy 10 = .ok (.iload_n 2, 1) := by decide +kernel
theorem dX3_isHeardBy_11 : decode cX3_isHeardBy 11 = .ok (.iconst 0, 1) := by decide +kernel
theorem dX3_isHeardBy_12 : decode cX3_isHeardBy 12 = .ok (.bipush 7, 2) := by decide +kernel
theorem dX3_isHeardBy_14 : decode cX3_isHeardBy 14 = .ok (.invokestatic 71, 3) := by decide +kernel
theorem dX3_isHeardBy_17 : decode cX3_isHeardBy 17 = .ok (.ifCond .eq 16, 3) := by decide +kernel
theorem dX3_isHeardBy_20 : decode cX3_isHeardBy 20 = .ok (.aload_n 0, 1) := by decide +kernel
theorem dX3_isHeardBy_21 : decode cX3_isHeardBy 21 = .ok (.getfield 18, 3) := by decide +kernel
theorem dX3_isHeardBy_24 : decode cX3_isHeardBy 24 = .ok (.iload_n 1, 1) := by decide +kernel
theorem dX3_isHeardBy_25 : decode cX3_isHeardBy 25 = .ok (.iaload, 1) := by decide +kernel
theorem dX3_isHeardBy_26 : decode cX3_isHeardBy 26 = .ok (.iload_n 2, 1) := by decide +kernel
theorem dX3_isHeardBy_27 : decode cX3_isHeardBy 27 = .ok (.invokestatic 75, 3) := by decide +kernel
theorem dX3_isHeardBy_30 : decode cX3_isHeardBy 30 = .ok (.goto 4, 3) := by decide +kernel
theorem dX3_isHeardBy_33 : decode cX3_isHeardBy 33 = .ok (.iconst 0, 1) := by decide +kernel
theorem dX3_isHeardBy_34 : decode cX3_isHeardBy 34 = .ok (.ireturn, 1) := by decide +kernel
theorem dX3_brokenWants_0 : decode cX3_brokenWants 0 = .ok (.aload_n 0, 1) := by decide +kernel
theorem dX3_brokenWants_1 : decode cX3_brokenWants 1 = .ok (.aload_n 1, 1) := by decide +kernel
theorem dX3_brokenWants_2 : decode cX3_brokenWants 2 = .ok (.iload_n 2, 1) := by decide +kernel
theorem dX3_brokenWants_3 : decode cX3_brokenWants 3 = .ok (.invokevirtual 78, 3) := by decide +kernel
theorem dX3_brokenWants_6 : decode cX3_brokenWants 6 = .ok (.iconst 0, 1) := by decide +kernel
theorem dX3_brokenWants_7 : decode cX3_brokenWants 7 = .ok (.istore_n 3, 1) := by decide +kernel
theorem dX3_brokenWants_8 : decode cX3_brokenWants 8 = .ok (.iconst 0, 1) := by decide +kernel
theorem dX3_brokenWants_9 : decode cX3_brokenWants 9 = .ok (.istore 4, 2) := by decide +kernel
theorem dX3_brokenWants_11 : decode cX3_brokenWants 11 = .ok (.iload 4, 2) := by decide +kernel
theorem dX3_brokenWants_13 : decode cX3_brokenWants 13 = .ok (.aload_n 1, 1) := by decide +kernel
theorem dX3_brokenWants_14 : decode cX3_brokenWants 14 = .ok (.getfield 82, 3) := by decide +kernel
theorem dX3_brokenWants_17 : decode cX3_brokenWants 17 = .ok (.getfield 86, 3) := by decide +kernel
theorem dX3_brokenWants_20 : decode cX3_brokenWants 20 = .ok (.if_icmp .ge 69, 3) := by decide +kernel
theorem dX3_brokenWants_23 : decode cX3_brokenWants 23 = .ok (.aload_n 1, 1) := by decide +kernel
theorem dX3_brokenWants_24 : decode cX3_brokenWants 24 = .ok (.aload_n 1, 1) := by decide +kernel
theorem dX3_brokenWants_25 : decode cX3_brokenWants 25 = .ok (.getfield 82, 3) := by decide +kernel
theorem dX3_brokenWants_28 : decode cX3_brokenWants 28 = .ok (.iload 4, 2) := by decide +kernel
theorem dX3_brokenWants_30 : decode cX3_brokenWants 30 = .ok (.iconst 0, 1) := by decide +kernel
theorem dX3_brokenWants_31 : decode cX3_brokenWants 31 = .ok (.invokevirtual 89, 3) := by decide +kernel
theorem dX3_brokenWants_34 : decode cX3_brokenWants 34 = .ok (.invokevirtual 92, 3) := by decide +kernel
theorem dX3_brokenWants_37 : decode cX3_brokenWants 37 = .ok (.istore 5, 2) := by decide +kernel
theorem dX3_brokenWants_39 : decode cX3_brokenWants 39 = .ok (.aload_n 1, 1) := by decide +kernel
theorem dX3_brokenWants_40 : decode cX3_brokenWants 40 = .ok (.aload_n 1, 1) := by decide +kernel
theorem dX3_brokenWants_41 : decode cX3_brokenWants 41 = .ok (.getfield 82, 3) := by decide +kernel
theorem dX3_brokenWants_44 : decode cX3_brokenWants 44 = .ok (.iload 4, 2) := by decide +kernel
theorem dX3_brokenWants_46 : decode cX3_brokenWants 46 = .ok (.iconst 1, 1) := by decide +kernel
theorem dX3_brokenWants_47 : decode cX3_brokenWants 47 = .ok (.invokevirtual 89, 3) := by decide +kernel
theorem dX3_brokenWants_50 : decode cX3_brokenWants 50 = .ok (.invokevirtual 92, 3) := by decide +kernel
theorem dX3_brokenWants_53 : decode cX3_brokenWants 53 = .ok (.istore 6, 2) := by decide +kernel
theorem dX3_brokenWants_55 : decode cX3_brokenWants 55 = .ok (.aload_n 0, 1) := by decide +kernel
theorem dX3_brokenWants_56 : decode cX3_brokenWants 56 = .ok (.iload 5, 2) := by decide +kernel
theorem dX3_brokenWants_58 : decode cX3_brokenWants 58 = .ok (.iload 6, 2) := by decide +kernel
theorem dX3_brokenWants_60 : decode cX3_brokenWants 60 = .ok (.invokevirtual 95, 3) := by decide +kernel
theorem dX3_brokenWants_63 : decode cX3_brokenWants 63 = .ok (.aload_n 1, 1) := by decide +kernel
theorem dX3_brokenWants_64 : decode cX3_brokenWants 64 = .ok (.getfield 82, 3) := by decide +kernel
theorem dX3_brokenWants_67 : decode cX3_brokenWants 67 = .ok (.iload 4, 2) := by decide +kernel
theorem dX3_brokenWants_69 : decode cX3_brokenWants 69 = .ok (.iconst 2, 1) := by decide +kernel
theorem dX3_brokenWants_70 : decode cX3_brokenWants 70 = .ok (.invokevirtual 89, 3) := by decide +kernel
theorem dX3_brokenWants_73 : decode cX3_brokenWants 73 = .ok (.if_icmp .eq 10, 3) := by decide +kernel
theorem dX3_brokenWants_76 : decode cX3_brokenWants 76 = .ok (.iload_n 3, 1) := by decide +kernel
theorem dX3_brokenWants_77 : decode cX3_brokenWants 77 = .ok (.iconst 1, 1) := by decide +kernel
theorem dX3_brokenWants_78 : decode cX3_brokenWants 78 = .ok (.iload 4, 2) := by decide +kernel
theorem dX3_brokenWants_80 : decode cX3_brokenWants 80 = .ok (.ishl, 1) := by decide +kernel
theorem dX3_brokenWants_81 : decode cX3_brokenWants 81 = .ok (.ior, 1) := by decide +kernel
theorem dX3_brokenWants_82 : decode cX3_brokenWants 82 = .ok (.istore_n 3, 1) := by decide +kernel
theorem dX3_brokenWants_83 : decode cX3_brokenWants 83 = .ok (.iinc 4 1, 3) := by decide +kernel
theorem dX3_brokenWants_86 : decode cX3_brokenWants 86 = .ok (.goto (-75), 3) := by decide +kernel
theorem dX3_brokenWants_89 : decode cX3_brokenWants 89 = .ok (.iload_n 3, 1) := by decide +kernel
theorem dX3_brokenWants_90 : decode cX3_brokenWants 90 = .ok (.ireturn, 1) := by decide +kernel
theorem dX3_peopleHearing_0 : decode cX3_peopleHearing 0 = .ok (.aload_n 1, 1) := by decide +kernel
theorem dX3_peopleHearing_1 : decode cX3_peopleHearing 1 = .ok (.iload_n 2, 1) := by decide +kernel
theorem dX3_peopleHearing_2 : decode cX3_peopleHearing 2 = .ok (.invokevirtual 92, 3) := by decide +kernel
theorem dX3_peopleHearing_5 : decode cX3_peopleHearing 5 = .ok (.istore 4, 2) := by decide +kernel
theorem dX3_peopleHearing_7 : decode cX3_peopleHearing 7 = .ok (.iload 4, 2) := by decide +kernel
theorem dX3_peopleHearing_9 : decode cX3_peopleHearing 9 = .ok (.bipush (-4), 2) := by decide +kernel
theorem dX3_peopleHearing_11 : decode cX3_peopleHearing 11 = .ok (.if_icmp .ne 7, 3) := by decide +kernel
theorem dX3_peopleHearing_14 : decode cX3_peopleHearing 14 = .ok (.iconst 0, 1) := by decide +kernel
theorem dX3_peopleHearing_15 : decode cX3_peopleHearing 15 = .ok (.goto 11, 3) := by decide +kernel
theorem dX3_peopleHearing_18 : decode cX3_peopleHearing 18 = .ok (.aload_n 0, 1) := by decide +kernel
theorem dX3_peopleHearing_19 : decode cX3_peopleHearing 19 = .ok (.aload_n 1, 1) := by decide +kernel
theorem dX3_peopleHearing_20 : decode cX3_peopleHearing 20 = .ok (.iload 4, 2) := by decide +kernel
theorem dX3_peopleHearing_22 : decode cX3_peopleHearing 22 = .ok (.iload_n 3, 1) := by decide +kernel
theorem dX3_peopleHearing_23 : decode cX3_peopleHearing 23 = .ok (.invokevirtual 67, 3) := by decide +kernel
theorem dX3_peopleHearing_26 : decode cX3_peopleHearing 26 = .ok (.istore 5, 2) := by decide +kernel
theorem dX3_peopleHearing_28 : decode cX3_peopleHearing 28 = .ok (.iconst 0, 1) := by decide +kernel
theorem dX3_peopleHearing_29 : decode cX3_peopleHearing 29 = .ok (.istore 6, 2) := by decide +kernel
theorem dX3_peopleHearing_31 : decode cX3_peopleHearing 31 = .ok (.iconst 0, 1) := by decide +kernel
theorem dX3_peopleHearing_32 : decode cX3_peopleHearing 32 = .ok (.istore 7, 2) := by decide +kernel
theorem dX3_peopleHearing_34 : decode cX3_peopleHearing 34 = .ok (.iload 7, 2) := by decide +kernel
theorem dX3_peopleHearing_36 : decode cX3_peopleHearing 36 = .ok (.aload_n 1, 1) := by decide +kernel
theorem dX3_peopleHearing_37 : decode cX3_peopleHearing 37 = .ok (.getfield 98, 3) := by decide +kernel
theorem dX3_peopleHearing_40 : decode cX3_peopleHearing 40 = .ok (.if_icmp .ge 44, 3) := by decide +kernel
theorem dX3_peopleHearing_43 : decode cX3_peopleHearing 43 = .ok (.aload_n 1, 1) := by decide +kernel
theorem dX3_peopleHearing_44 : decode cX3_peopleHearing 44 = .ok (.iload 7, 2) := by decide +kernel
theorem dX3_peopleHearing_46 : decode cX3_peopleHearing 46 = .ok (.invokevirtual 92, 3) := by decide +kernel
theorem dX3_peopleHearing_49 : decode cX3_peopleHearing 49 = .ok (.istore 8, 2) := by decide +kernel
theorem dX3_peopleHearing_51 : decode cX3_peopleHearing 51 = .ok (.iload 8, 2) := by decide +kernel
theorem dX3_peopleHearing_53 : decode cX3_peopleHearing 53 = .ok (.bipush (-4), 2) := by decide +kernel
theorem dX3_peopleHearing_55 : decode cX3_peopleHearing 55 = .ok (.if_icmp .eq 23, 3) := by decide +kernel
theorem dX3_peopleHearing_58 : decode cX3_peopleHearing 58 = .ok (.iload 5, 2) := by decide +kernel
theorem dX3_peopleHearing_60 : decode cX3_peopleHearing 60 = .ok (.iload 8, 2) := by decide +kernel
theorem dX3_peopleHearing_62 : decode cX3_peopleHearing 62 = .ok (.invokestatic 75, 3) := by decide +kernel
theorem dX3_peopleHearing_65 : decode cX3_peopleHearing 65 = .ok (.iconst 1, 1) := by decide +kernel
theorem dX3_peopleHearing_66 : decode cX3_peopleHearing 66 = .ok (.if_icmp .ne 12, 3) := by decide +kernel
theorem dX3_peopleHearing_69 : decode cX3_peopleHearing 69 = .ok (.iload 6, 2) := by decide +kernel
theorem dX3_peopleHearing_71 : decode cX3_peopleHearing 71 = .ok (.iconst 1, 1) := by decide +kernel
theorem dX3_peopleHearing_72 : decode cX3_peopleHearing 72 = .ok (.iload 7, 2) := by decide +kernel
theorem dX3_peopleHearing_74 : decode cX3_peopleHearing 74 = .ok (.ishl, 1) := by decide +kernel
theorem dX3_peopleHearing_75 : decode cX3_peopleHearing 75 = .ok (.ior, 1) := by decide +kernel
theorem dX3_peopleHearing_76 : decode cX3_peopleHearing 76 = .ok (.istore 6, 2) := by decide +kernel
theorem dX3_peopleHearing_78 : decode cX3_peopleHearing 78 = .ok (.iinc 7 1, 3) := by decide +kernel
theorem dX3_peopleHearing_81 : decode cX3_peopleHearing 81 = .ok (.goto (-47), 3) := by decide +kernel
theorem dX3_peopleHearing_84 : decode cX3_peopleHearing 84 = .ok (.iload 6, 2) := by decide +kernel
theorem dX3_peopleHearing_86 : decode cX3_peopleHearing 86 = .ok (.ireturn, 1) := by decide +kernel
theorem dX4_init_0 : decode cX4_init 0 = .ok (.aload_n 0, 1) := by decide +kernel
theorem dX4_init_1 : decode cX4_init 1 = .ok (.invokespecial 3, 3) := by decide +kernel
theorem dX4_init_4 : decode cX4_init 4 = .ok (.aload_n 0, 1) := by decide +kernel
theorem dX4_init_5 : decode cX4_init 5 = .ok (.iconst 0, 1) := by decide +kernel
theorem dX4_init_6 : decode cX4_init 6 = .ok (.putfield 9, 3) := by decide +kernel
theorem dX4_init_9 : decode cX4_init 9 = .ok (.aload_n 0, 1) := by decide +kernel
theorem dX4_init_10 : decode cX4_init 10 = .ok (.iconst 0, 1) := by decide +kernel
theorem dX4_init_11 : decode cX4_init 11 = .ok (.putfield 15, 3) := by decide +kernel
theorem dX4_init_14 : decode cX4_init 14 = .ok (.aload_n 0, 1) := by decide +kernel
theorem dX4_init_15 : decode cX4_init 15 = .ok (.new 18, 3) := by decide +kernel
theorem dX4_init_18 : decode cX4_init 18 = .ok (.dup, 1) := by decide +kernel
theorem dX4_init_19 : decode cX4_init 19 = .ok (.invokespecial 20, 3) := by decide +kernel
theorem dX4_init_22 : decode cX4_init 22 = .ok (.putfield 21, 3) := by decide +kernel
theorem dX4_init_25 : decode cX4_init 25 = .ok (.aload_n 0, 1) := by decide +kernel
theorem dX4_init_26 : decode cX4_init 26 = .ok (.bipush 6, 2) := by decide +kernel
theorem dX4_init_28 : decode cX4_init 28 = .ok (.newarray .int, 2) := by decide +kernel
theorem dX4_init_30 : decode cX4_init 30 = .ok (.putfield 25, 3) := by decide +kernel
theorem dX4_init_33 : decode cX4_init 33 = .ok (.aload_n 0, 1) := by decide +kernel
theorem dX4_init_34 : decode cX4_init 34 = .ok (.bipush 6, 2) := by decide +kernel
theorem dX4_init_36 : decode cX4_init 36 = .ok (.newarray .int, 2) := by decide +kernel
theorem dX4_init_38 : decode cX4_init 38 = .ok (.putfield 29, 3) := by decide +kernel
theorem dX4_init_41 : decode cX4_init 41 = .ok (.return_, 1) := by decide +kernel
theorem dX4_search_0 : decode cX4_search 0 = .ok (.aload_n 0, 1) := by decide +kernel
theorem dX4_search_1 : decode cX4_search 1 = .ok (.getfield 21, 3) := by decide +kernel
theorem dX4_search_4 : decode cX4_search 4 = .ok (.aload_n 1, 1) := by decide +kernel
theorem dX4_search_5 : decode cX4_search 5 = .ok (.iload_n 2, 1) := by decide +kernel
theorem dX4_search_6 : decode cX4_search 6 = .ok (.invokevirtual 32, 3) := by decide +kernel
theorem dX4_search_9 : decode cX4_search 9 = .ok (.aload_n 0, 1) := by decide +kernel
theorem dX4_search_10 : decode cX4_search 10 = .ok (.bipush 9, 2) := by decide +kernel
theorem dX4_search_12 : decode cX4_search 12 = .ok (.putfield 9, 3) := by decide +kernel
theorem dX4_search_15 : decode cX4_search 15 = .ok (.aload_n 0, 1) := by decide +kernel
theorem dX4_search_16 : decode cX4_search 16 = .ok (.iconst 0, 1) := by decide +kernel
theorem dX4_search_17 : decode cX4_search 17 = .ok (.putfield 15, 3) := by decide +kernel
theorem dX4_search_20 : decode cX4_search 20 = .ok (.aload_n 0, 1) := by decide +kernel
theorem dX4_search_21 : decode cX4_search 21 = .ok (.aload_n 1, 1) := by decide +kernel
theorem dX4_search_22 : decode cX4_search 22 = .ok (.iconst 0, 1) := by decide +kernel
theorem dX4_search_23 : decode cX4_search 23 = .ok (.iconst 0, 1) := by decide +kernel
theorem dX4_search_24 : decode cX4_search 24 = .ok (.iconst 0, 1) := by decide +kernel
theorem dX4_search_25 : decode cX4_search 25 = .ok (.invokestatic 36, 3) := by decide +kernel
theorem dX4_search_28 : decode cX4_search 28 = .ok (.return_, 1) := by decide +kernel
theorem dX4_benchInFirst_0 : decode cX4_benchInFirst 0 = .ok (.iload_n 1, 1) := by decide +kernel
theorem dX4_benchInFirst_1 : decode cX4_benchInFirst 1 = .ok (.iconst 0, 1) := by decide +kernel
theorem dX4_benchInFirst_2 : decode cX4_benchInFirst 2 = .ok (.iconst 5, 1) := by decide +kernel
theorem dX4_benchInFirst_3 : decode cX4_benchInFirst 3 = .ok (.invokestatic 40, 3) := by decide +kernel
theorem dX4_benchInFirst_6 : decode cX4_benchInFirst 6 = .ok (.ifCond .eq 12, 3) := by decide +kernel
theorem dX4_benchInFirst_9 : decode cX4_benchInFirst 9 = .ok (.aload_n 0, 1) := by decide +kernel
theorem dX4_benchInFirst_10 : decode cX4_benchInFirst 10 = .ok (.getfield 25, 3) := by decide +kernel
theorem dX4_benchInFirst_13 : decode cX4_benchInFirst 13 = .ok (.iload_n 1, 1) := by decide +kernel
theorem dX4_benchInFirst_14 : decode cX4_benchInFirst 14 = .ok (.iaload, 1) := by decide +kernel
theorem dX4_benchInFirst_15 : decode cX4_benchInFirst 15 = .ok (.goto 5, 3) := by decide +kernel
theorem dX4_benchInFirst_18 : decode cX4_benchInFirst 18 = .ok (.bipush (-4), 2) := by decide +kernel
theorem dX4_benchInFirst_20 : decode cX4_benchInFirst 20 = .ok (.ireturn, 1) := by decide +kernel
theorem dX4_seatNext_0 : decode cX4_seatNext 0 = .ok (.iload 4, 2) := by decide +kernel
theorem dX4_seatNext_2 : decode cX4_seatNext 2 = .ok (.aload_n 0, 1) := by decide +kernel
theorem dX4_seatNext_3 : decode cX4_seatNext 3 = .ok (.getfield 9, 3) := by decide +kernel
theorem dX4_seatNext_6 : decode cX4_seatNext 6 = .ok (.if_icmp .le 4, 3) := by decide +kernel
theorem dX4_seatNext_9 : decode cX4_seatNext 9 = .ok (.return_, 1) := by decide +kernel
theorem dX4_seatNext_10 : decode cX4_seatNext 10 = .ok (.iload_n 2, 1) := by decide +kernel
theorem dX4_seatNext_11 : decode cX4_seatNext 11 = .ok (.ifCond .lt 17, 3) := by decide +kernel
theorem dX4_seatNext_14 : decode cX4_seatNext 14 = .ok (.iload_n 2, 1) := by decide +kernel
theorem dX4_seatNext_15 : decode cX4_seatNext 15 = .ok (.aload_n 1, 1) := by decide +kernel
theorem dX4_seatNext_16 : decode cX4_seatNext 16 = .ok (.getfield 44, 3) := by decide +kernel
theorem dX4_seatNext_19 : decode cX4_seatNext 19 = .ok (.if_icmp .ge 9, 3) := by decide +kernel
theorem dX4_seatNext_22 : decode cX4_seatNext 22 = .ok (.iload_n 2, 1) := by decide +kernel
theorem dX4_seatNext_23 : decode cX4_seatNext 23 = .ok (.bipush 6, 2) := by decide +kernel
theorem dX4_seatNext_25 : decode cX4_seatNext 25 = .ok (.if_icmp .lt 10, 3) := by decide +kernel
theorem dX4_seatNext_28 : decode cX4_seatNext 28 = .ok (.aload_n 0, 1) := by decide +kernel
theorem dX4_seatNext_29 : decode cX4_seatNext 29 = .ok (.iload 4, 2) := by decide +kernel
theorem dX4_seatNext_31 : decode cX4_seatNext 31 = .ok (.invokevirtual 49, 3) := by decide +kernel
theorem dX4_seatNext_34 : decode cX4_seatNext 34 = .ok (.return_, 1) := by decide +kernel
theorem dX4_seatNext_35 : decode cX4_seatNext 35 = .ok (.iconst 0, 1) := by decide +kernel
theorem dX4_seatNext_36 : decode cX4_seatNext 36 = .ok (.istore 5, 2) := by decide +kernel
theorem dX4_seatNext_38 : decode cX4_seatNext 38 = .ok (.iload 5, 2) := by decide +kernel
theorem dX4_seatNext_40 : decode cX4_seatNext 40 = .ok (.aload_n 1, 1) := by decide +kernel
theorem dX4_seatNext_41 : decode cX4_seatNext 41 = .ok (.getfield 53, 3) := by decide +kernel
theorem dX4_seatNext_44 : decode cX4_seatNext 44 = .ok (.getfield 57, 3) := by decide +kernel
theorem dX4_seatNext_47 : decode cX4_seatNext 47 = .ok (.if_icmp .ge 49, 3) := by decide +kernel
theorem dX4_seatNext_50 : decode cX4_seatNext 50 = .ok (.iload_n 3, 1) := by decide +kernel
theorem dX4_seatNext_51 : decode cX4_seatNext 51 = .ok (.iload 5, 2) := by decide +kernel
theorem dX4_seatNext_53 : decode cX4_seatNext 53 = .ok (.invokestatic 62, 3) := by decide +kernel
theorem dX4_seatNext_56 : decode cX4_seatNext 56 = .ok (.ifCond .ne 34, 3) := by decide +kernel
theorem dX4_seatNext_59 : decode cX4_seatNext 59 = .ok (.aload_n 0, 1) := by decide +kernel
theorem dX4_seatNext_60 : decode cX4_seatNext 60 = .ok (.getfield 29, 3) := by decide +kernel
theorem dX4_seatNext_63 : decode cX4_seatNext 63 = .ok (.iload_n 2, 1) := by decide +kernel
theorem dX4_seatNext_64 : decode cX4_seatNext 64 = .ok (.iload 5, 2) := by decide +kernel
theorem dX4_seatNext_66 : decode cX4_seatNext 66 = .ok (.iastore, 1) := by decide +kernel
theorem dX4_seatNext_67 : decode cX4_seatNext 67 = .ok (.aload_n 0, 1) := by decide +kernel
theorem dX4_seatNext_68 : decode cX4_seatNext 68 = .ok (.aload_n 1, 1) := by decide +kernel
theorem dX4_seatNext_69 : decode cX4_seatNext 69 = .ok (.iload_n 2, 1) := by decide +kernel
theorem dX4_seatNext_70 : decode cX4_seatNext 70 = .ok (.iconst 1, 1) := by decide +kernel
theorem dX4_seatNext_71 : decode cX4_seatNext 71 = .ok (.iadd, 1) := by decide +kernel
theorem dX4_seatNext_72 : decode cX4_seatNext 72 = .ok (.iload_n 3, 1) := by decide +kernel
theorem dX4_seatNext_73 : decode cX4_seatNext 73 = .ok (.iconst 1, 1) := by decide +kernel
theorem dX4_seatNext_74 : decode cX4_seatNext 74 = .ok (.iload 5, 2) := by decide +kernel
theorem dX4_seatNext_76 : decode cX4_seatNext 76 = .ok (.ishl, 1) := by decide +kernel
theorem dX4_seatNext_77 : decode cX4_seatNext 77 = .ok (.ior, 1) := by decide +kernel
theorem dX4_seatNext_78 : decode cX4_seatNext 78 = .ok (.iload 4, 2) := by decide +kernel
theorem dX4_seatNext_80 : decode cX4_seatNext 80 = .ok (.aload_n 0, 1) := by decide +kernel
theorem dX4_seatNext_81 : decode cX4_seatNext 81 = .ok (.aload_n 1, 1) := by decide +kernel
theorem dX4_seatNext_82 : decode cX4_seatNext 82 = .ok (.iload_n 2, 1) := by decide +kernel
theorem dX4_seatNext_83 : decode cX4_seatNext 83 = .ok (.invokevirtual 66, 3) := by decide +kernel
theorem dX4_seatNext_86 : decode cX4_seatNext 86 = .ok (.iadd, 1) := by decide +kernel
theorem dX4_seatNext_87 : decode cX4_seatNext 87 = .ok (.invokestatic 36, 3) := by decide +kernel
theorem dX4_seatNext_90 : decode cX4_seatNext 90 = .ok (.iinc 5 1, 3) := by decide +kernel
theorem dX4_seatNext_93 : decode cX4_seatNext 93 = .ok (.goto (-55), 3) := by decide +kernel
theorem dX4_seatNext_96 : decode cX4_seatNext 96 = .ok (.return_, 1) := by decide +kernel
theorem dX4_takeSeating_0 : decode cX4_takeSeating 0 = .ok (.iload_n 1, 1) := by decide +kernel
theorem dX4_takeSeating_1 : decode cX4_takeSeating 1 = .ok (.aload_n 0, 1) := by decide +kernel
theorem dX4_takeSeating_2 : decode cX4_takeSeating 2 = .ok (.getfield 9, 3) := by decide +kernel
theorem dX4_takeSeating_5 : decode cX4_takeSeating 5 = .ok (.if_icmp .ge 28, 3) := by decide +kernel
theorem dX4_takeSeating_8 : decode cX4_takeSeating 8 = .ok (.aload_n 0, 1) := by decide +kernel
theorem dX4_takeSeating_9 : decode cX4_takeSeating 9 = .ok (.iload_n 1, 1) := by decide +kernel
theorem dX4_takeSeating_10 : decode cX4_takeSeating 10 = .ok (.putfield 9, 3) := by decide +kernel
theorem dX4_takeSeating_13 : decode cX4_takeSeating 13 = .ok (.aload_n 0, 1) := by decide +kernel
theorem dX4_takeSeating_14 : decode cX4_takeSeating 14 = .ok (.iconst 0, 1) := by decide +kernel
theorem dX4_takeSeating_15 : decode cX4_takeSeating 15 = .ok (.putfield 15, 3) := by decide +kernel
theorem dX4_takeSeating_18 : decode cX4_takeSeating 18 = .ok (.aload_n 0, 1) := by decide +kernel
theorem dX4_takeSeating_19 : decode cX4_takeSeating 19 = .ok (.getfield 29, 3) := by decide +kernel
theorem dX4_takeSeating_22 : decode cX4_takeSeating 22 = .ok (.iconst 0, 1) := by decide +kernel
theorem dX4_takeSeating_23 : decode cX4_takeSeating 23 = .ok (.aload_n 0, 1) := by decide +kernel
theorem dX4_takeSeating_24 : decode cX4_takeSeating 24 = .ok (.getfield 25, 3) := by decide +kernel
theorem dX4_takeSeating_27 : decode cX4_takeSeating 27 = .ok (.iconst 0, 1) := by decide +kernel
theorem dX4_takeSeating_28 : decode cX4_takeSeating 28 = .ok (.bipush 6, 2) := by decide +kernel
theorem dX4_takeSeating_30 : decode cX4_takeSeating 30 = .ok (.invokestatic 70, 3) := by decide +kernel
theorem dX4_takeSeating_33 : decode cX4_takeSeating 33 = .ok (.aload_n 0, 1) := by decide +kernel
theorem dX4_takeSeating_34 : decode cX4_takeSeating 34 = .ok (.dup, 1) := by decide +kernel
theorem dX4_takeSeating_35 : decode cX4_takeSeating 35 = .ok (.getfield 15, 3) := by decide +kernel
theorem dX4_takeSeating_38 : decode cX4_takeSeating 38 = .ok (.iconst 1, 1) := by decide +kernel
theorem dX4_takeSeating_39 : decode cX4_takeSeating 39 = .ok (.iadd, 1) := by decide +kernel
theorem dX4_takeSeating_40 : decode cX4_takeSeating 40 = .ok (.putfield 15, 3) := by decide +kernel
theorem dX4_takeSeating_43 : decode cX4_takeSeating 43 = .ok (.return_, 1) := by decide +kernel
theorem dX4_brokenBy_0 : decode cX4_brokenBy 0 = .ok (.iconst 0, 1) := by decide +kernel
theorem dX4_brokenBy_1 : decode cX4_brokenBy 1 = .ok (.istore_n 3, 1) := by decide +kernel
theorem dX4_brokenBy_2 : decode cX4_brokenBy 2 = .ok (.iconst 0, 1) := by decide +kernel
theorem dX4_brokenBy_3 : decode cX4_brokenBy 3 = .ok (.istore 4, 2) := by decide +kernel
theorem dX4_brokenBy_5 : decode cX4_brokenBy 5 = .ok (.iload 4, 2) := by decide +kernel
theorem dX4_brokenBy_7 : decode cX4_brokenBy 7 = .ok (.aload_n 1, 1) := by decide +kernel
theorem dX4_brokenBy_8 : decode cX4_brokenBy 8 = .ok (.getfield 76, 3) := by decide +kernel
theorem dX4_brokenBy_11 : decode cX4_brokenBy 11 = .ok (.getfield 80, 3) := by decide +kernel
theorem dX4_brokenBy_14 : decode cX4_brokenBy 14 = .ok (.if_icmp .ge 79, 3) := by decide +kernel
theorem dX4_brokenBy_17 : decode cX4_brokenBy 17 = .ok (.aload_n 1, 1) := by decide +kernel
theorem dX4_brokenBy_18 : decode cX4_brokenBy 18 = .ok (.getfield 76, 3) := by decide +kernel
theorem dX4_brokenBy_21 : decode cX4_brokenBy 21 = .ok (.iload 4, 2) := by decide +kernel
theorem dX4_brokenBy_23 : decode cX4_brokenBy 23 = .ok (.iconst 0, 1) := by decide +kernel
theorem dX4_brokenBy_24 : decode cX4_brokenBy 24 = .ok (.invokevirtual 83, 3) := by decide +kernel
theorem dX4_brokenBy_27 : decode cX4_brokenBy 27 = .ok (.istore 5, 2) := by decide +kernel
theorem dX4_brokenBy_29 : decode cX4_brokenBy 29 = .ok (.aload_n 1, 1) := by decide +kernel
theorem dX4_brokenBy_30 : decode cX4_brokenBy 30 = .ok (.getfield 76, 3) := by decide +kernel
theorem dX4_brokenBy_33 : decode cX4_brokenBy 33 = .ok (.iload 4, 2) := by decide +kernel
theorem dX4_brokenBy_35 : decode cX4_brokenBy 35 = .ok (.iconst 1, 1) := by decide +kernel
theorem dX4_brokenBy_36 : decode cX4_brokenBy 36 = .ok (.invokevirtual 83, 3) := by decide +kernel
theorem dX4_brokenBy_39 : decode cX4_brokenBy 39 = .ok (.istore 6, 2) := by decide +kernel
theorem dX4_brokenBy_41 : decode cX4_brokenBy 41 = .ok (.iload 5, 2) := by decide +kernel
theorem dX4_brokenBy_43 : decode cX4_brokenBy 43 = .ok (.iload 6, 2) := by decide +kernel
theorem dX4_brokenBy_45 : decode cX4_brokenBy 45 = .ok (.invokestatic 86, 3) := by decide +kernel
theorem dX4_brokenBy_48 : decode cX4_brokenBy 48 = .ok (.iload_n 2, 1) := by decide +kernel
theorem dX4_brokenBy_49 : decode cX4_brokenBy 49 = .ok (.if_icmp .ne 38, 3) := by decide +kernel
theorem dX4_brokenBy_52 : decode cX4_brokenBy 52 = .ok (.aload_n 0, 1) := by decide +kernel
theorem dX4_brokenBy_53 : decode cX4_brokenBy 53 = .ok (.getfield 21, 3) := by decide +kernel
theorem dX4_brokenBy_56 : decode cX4_brokenBy 56 = .ok (.aload_n 0, 1) := by decide +kernel
theorem dX4_brokenBy_57 : decode cX4_brokenBy 57 = .ok (.iload 5, 2) := by decide +kernel
theorem dX4_brokenBy_59 : decode cX4_brokenBy 59 = .ok (.invokevirtual 91, 3) := by decide +kernel
theorem dX4_brokenBy_62 : decode cX4_brokenBy 62 = .ok (.aload_n 0, 1) := by decide +kernel
theorem dX4_brokenBy_63 : decode cX4_brokenBy 63 = .ok (.iload 6, 2) := by decide +kernel
theorem dX4_brokenBy_65 : decode cX4_brokenBy 65 = .ok (.invokevirtual 91, 3) := by decide +kernel
theorem dX4_brokenBy_68 : decode cX4_brokenBy 68 = .ok (.invokevirtual 95, 3) := by decide +kernel
theorem dX4_brokenBy_71 : decode cX4_brokenBy 71 = .ok (.aload_n 1, 1) := by decide +kernel
theorem dX4_brokenBy_72 : decode cX4_brokenBy 72 = .ok (.getfield 76, 3) := by decide +kernel
theorem dX4_brokenBy_75 : decode cX4_brokenBy 75 = .ok (.iload 4, 2) := by decide +kernel
theorem dX4_brokenBy_77 : decode cX4_brokenBy 77 = .ok (.iconst 2, 1) := by decide +kernel
theorem dX4_brokenBy_78 : decode cX4_brokenBy 78 = .ok (.invokevirtual 83, 3) := by decide +kernel
theorem dX4_brokenBy_81 : decode cX4_brokenBy 81 = .ok (.if_icmp .eq 6, 3) := by decide +kernel
theorem dX4_brokenBy_84 : decode cX4_brokenBy 84 = .ok (.iinc 3 1, 3) := by decide +kernel
theorem dX4_brokenBy_87 : decode cX4_brokenBy 87 = .ok (.iinc 4 1, 3) := by decide +kernel
theorem dX4_brokenBy_90 : decode cX4_brokenBy 90 = .ok (.goto (-85), 3) := by decide +kernel
theorem dX4_brokenBy_93 : decode cX4_brokenBy 93 = .ok (.iload_n 3, 1) := by decide +kernel
theorem dX4_brokenBy_94 : decode cX4_brokenBy 94 = .ok (.ireturn, 1) := by decide +kernel
theorem dX4_benchTried_0 : decode cX4_benchTried 0 = .ok (.iload_n 1, 1) := by decide +kernel
theorem dX4_benchTried_1 : decode cX4_benchTried 1 = .ok (.iconst 0, 1) := by decide +kernel
theorem dX4_benchTried_2 : decode cX4_benchTried 2 = .ok (.iconst 5, 1) := by decide +kernel
theorem dX4_benchTried_3 : decode cX4_benchTried 3 = .ok (.invokestatic 40, 3) := by decide +kernel
theorem dX4_benchTried_6 : decode cX4_benchTried 6 = .ok (.ifCond .eq 12, 3) := by decide +kernel
theorem dX4_benchTried_9 : decode cX4_benchTried 9 = .ok (.aload_n 0, 1) := by decide +kernel
theorem dX4_benchTried_10 : decode cX4_benchTried 10 = .ok (.getfield 29, 3) := by decide +kernel
theorem dX4_benchTried_13 : decode cX4_benchTried 13 = .ok (.iload_n 1, 1) := by decide +kernel
theorem dX4_benchTried_14 : decode cX4_benchTried 14 = .ok (.iaload, 1) := by decide +kernel
theorem dX4_benchTried_15 : decode cX4_benchTried 15 = .ok (.goto 5, 3) := by decide +kernel
theorem dX4_benchTried_18 : decode cX4_benchTried 18 = .ok (.bipush (-4), 2) := by decide +kernel
theorem dX4_benchTried_20 : decode cX4_benchTried 20 = .ok (.ireturn, 1) := by decide +kernel
theorem dX5_init_0 : decode cX5_init 0 = .ok (.aload_n 0, 1) := by decide +kernel
theorem dX5_init_1 : decode cX5_init 1 = .ok (.invokespecial 3, 3) := by decide +kernel
theorem dX5_init_4 : decode cX5_init 4 = .ok (.aload_n 0, 1) := by decide +kernel
theorem dX5_init_5 : decode cX5_init 5 = .ok (.iconst 4, 1) := by decide +kernel
theorem dX5_init_6 : decode cX5_init 6 = .ok (.bipush 40, 2) := by decide +kernel
theorem dX5_init_8 : decode cX5_init 8 = .ok (.multianewarray 9 2, 4) := by decide +kernel
theorem dX5_init_12 : decode cX5_init 12 = .ok (.putfield 11, 3) := by decide +kernel
theorem dX5_init_15 : decode cX5_init 15 = .ok (.aload_n 0, 1) := by decide +kernel
theorem dX5_init_16 : decode cX5_init 16 = .ok (.iconst 4, 1) := by decide +kernel
theorem dX5_init_17 : decode cX5_init 17 = .ok (.newarray .int, 2) := by decide +kernel
theorem dX5_init_19 : decode cX5_init 19 = .ok (.putfield 16, 3) := by decide +kernel
theorem dX5_init_22 : decode cX5_init 22 = .ok (.aload_n 0, 1) := by decide +kernel
theorem dX5_init_23 : decode cX5_init 23 = .ok (.iconst 4, 1) := by decide +kernel
theorem dX5_init_24 : decode cX5_init 24 = .ok (.newarray .int, 2) := by decide +kernel
theorem dX5_init_26 : decode cX5_init 26 = .ok (.putfield 20, 3) := by decide +kernel
theorem dX5_init_29 : decode cX5_init 29 = .ok (.aload_n 0, 1) := by decide +kernel
theorem dX5_init_30 : decode cX5_init 30 = .ok (.getfield 16, 3) := by decide +kernel
theorem dX5_init_33 : decode cX5_init 33 = .ok (.iconst (-1), 1) := by decide +kernel
theorem dX5_init_34 : decode cX5_init 34 = .ok (.invokestatic 23, 3) := by decide +kernel
theorem dX5_init_37 : decode cX5_init 37 = .ok (.return_, 1) := by decide +kernel
theorem dX5_isSheet_0 : decode cX5_isSheet 0 = .ok (.iload_n 0, 1) := by decide +kernel
theorem dX5_isSheet_1 : decode cX5_isSheet 1 = .ok (.iconst 0, 1) := by decide +kernel
theorem dX5_isSheet_2 : decode cX5_isSheet 2 = .ok (.iconst 3, 1) := by decide +kernel
theorem dX5_isSheet_3 : decode cX5_isSheet 3 = .ok (.invokestatic 29, 3) := by decide +kernel
theorem dX5_isSheet_6 : decode cX5_isSheet 6 = .ok (.ireturn, 1) := by decide +kernel
theorem dX5_renew_0 : decode cX5_renew 0 = .ok (.iload_n 1, 1) := by decide +kernel
theorem dX5_renew_1 : decode cX5_renew 1 = .ok (.invokestatic 33, 3) := by decide +kernel
theorem dX5_renew_4 : decode cX5_renew 4 = .ok (.ifCond .eq 37, 3) := by decide +kernel
theorem dX5_renew_7 : decode cX5_renew 7 = .ok (.iload_n 3, 1) := by decide +kernel
theorem dX5_renew_8 : decode cX5_renew 8 = .ok (.iconst 0, 1) := by decide +kernel
theorem dX5_renew_9 : decode cX5_renew 9 = .ok (.bipush 40, 2) := by decide +kernel
theorem dX5_renew_11 : decode cX5_renew 11 = .ok (.invokestatic 29, 3) := by decide +kernel
theorem dX5_renew_14 : decode cX5_renew 14 = .ok (.ifCond .eq 27, 3) := by decide +kernel
theorem dX5_renew_17 : decode cX5_renew 17 = .ok (.aload_n 0, 1) := by decide +kernel
theorem dX5_renew_18 : decode cX5_renew 18 = .ok (.getfield 11, 3) := by decide +kernel
theorem dX5_renew_21 : decode cX5_renew 21 = .ok (.iload_n 1, 1) := by decide +kernel
theorem dX5_renew_22 : decode cX5_renew 22 = .ok (.aaload, 1) := by decide +kernel
theorem dX5_renew_23 : decode cX5_renew 23 = .ok (.iconst 0, 1) := by decide +kernel
theorem dX5_renew_24 : decode cX5_renew 24 = .ok (.invokestatic 23, 3) := by decide +kernel
theorem dX5_renew_27 : decode cX5_renew 27 = .ok (.aload_n 0, 1) := by decide +kernel
theorem dX5_renew_28 : decode cX5_renew 28 = .ok (.getfield 16, 3) := by decide +kernel
theorem dX5_renew_31 : decode cX5_renew 31 = .ok (.iload_n 1, 1) := by decide +kernel
theorem dX5_renew_32 : decode cX5_renew 32 = .ok (.iload_n 2, 1) := by decide +kernel
theorem dX5_renew_33 : decode cX5_renew 33 = .ok (.iastore, 1) := by decide +kernel
theorem dX5_renew_34 : decode cX5_renew 34 = .ok (.aload_n 0, 1) := by decide +kernel
theorem dX5_renew_35 : decode cX5_renew 35 = .ok (.getfield 20, 3) := by decide +kernel
theorem dX5_renew_38 : decode cX5_renew 38 = .ok (.iload_n 1, 1) := by decide +kernel
theorem dX5_renew_39 : decode cX5_renew 39 = .ok (.iload_n 3, 1) := by decide +kernel
theorem dX5_renew_40 : decode cX5_renew 40 = .ok (.iastore, 1) := by decide +kernel
theorem dX5_renew_41 : decode cX5_renew 41 = .ok (.return_, 1) := by decide +kernel
theorem dX5_cellsOf_0 : decode cX5_cellsOf 0 = .ok (.iload_n 1, 1) := by decide +kernel
theorem dX5_cellsOf_1 : decode cX5_cellsOf 1 = .ok (.invokestatic 33, 3) := by decide +kernel
theorem dX5_cellsOf_4 : decode cX5_cellsOf 4 = .ok (.ifCond .eq 22, 3) := by decide +kernel
theorem dX5_cellsOf_7 : decode cX5_cellsOf 7 = .ok (.aload_n 0, 1) := by decide +kernel
theorem dX5_cellsOf_8 : decode cX5_cellsOf 8 = .ok (.getfield 16, 3) := by decide +kernel
theorem dX5_cellsOf_11 : decode cX5_cellsOf 11 = .ok (.iload_n 1, 1) := by decide +kernel
theorem dX5_cellsOf_12 : decode cX5_cellsOf 12 = .ok (.iaload, 1) := by decide +kernel
theorem dX5_cellsOf_13 : decode cX5_cellsOf 13 = .ok (.iconst (-1), 1) := by decide +kernel
theorem dX5_cellsOf_14 : decode cX5_cellsOf 14 = .ok (.if_icmp .eq 12, 3) := by decide +kernel
theorem dX5_cellsOf_17 : decode cX5_cellsOf 17 = .ok (.aload_n 0, 1) := by decide +kernel
theorem dX5_cellsOf_18 : decode cX5_cellsOf 18 = .ok (.getfield 20, 3) := by decide +kernel
theorem dX5_cellsOf_21 : decode cX5_cellsOf 21 = .ok (.iload_n 1, 1) := by decide +kernel
theorem dX5_cellsOf_22 : decode cX5_cellsOf 22 = .ok (.iaload, 1) := by decide +kernel
theorem dX5_cellsOf_23 : decode cX5_cellsOf 23 = .ok (.goto 5, 3) := by decide +kernel
theorem dX5_cellsOf_26 : decode cX5_cellsOf 26 = .ok (.bipush (-4), 2) := by decide +kernel
theorem dX5_cellsOf_28 : decode cX5_cellsOf 28 = .ok (.ireturn, 1) := by decide +kernel
theorem dX5_faultOfLane_0 : decode cX5_faultOfLane 0 = .ok (.iload_n 1, 1) := by decide +kernel
theorem dX5_faultOfLane_1 : decode cX5_faultOfLane 1 = .ok (.invokestatic 33, 3) := by decide +kernel
theorem dX5_faultOfLane_4 : decode cX5_faultOfLane 4 = .ok (.ifCond .eq 13, 3) := by decide +kernel
theorem dX5_faultOfLane_7 : decode cX5_faultOfLane 7 = .ok (.aload_n 0, 1) := by decide +kernel
theorem dX5_faultOfLane_8 : decode cX5_faultOfLane 8 = .ok (.getfield 16, 3) := by decide +kernel
theorem dX5_faultOfLane_11 : decode cX5_faultOfLane 11 = .ok (.iload_n 1, 1) := by decide +kernel
theorem dX5_faultOfLane_12 : decode cX5_faultOfLane 12 = .ok (.iaload, 1) := by decide +kernel
theorem dX5_faultOfLane_13 : decode cX5_faultOfLane 13 = .ok (.iconst (-1), 1) := by decide +kernel
theorem dX5_faultOfLane_14 : decode cX5_faultOfLane 14 = .ok (.if_icmp .ne 5, 3) := by decide +kernel
theorem dX5_faultOfLane_17 : decode cX5_faultOfLane 17 = .ok (.iconst 1, 1) := by decide +kernel
theorem dX5_faultOfLane_18 : decode cX5_faultOfLane 18 = .ok (.ireturn, 1) := by decide +kernel
theorem dX5_faultOfLane_19 : decode cX5_faultOfLane 19 = .ok (.aload_n 0, 1) := by decide +kernel
theorem dX5_faultOfLane_20 : decode cX5_faultOfLane 20 = .ok (.getfield 16, 3) := by decide +kernel
theorem dX5_faultOfLane_23 : decode cX5_faultOfLane 23 = .ok (.iload_n 1, 1) := by decide +kernel
theorem dX5_faultOfLane_24 : decode cX5_faultOfLane 24 = .ok (.iaload, 1) := by decide +kernel
theorem dX5_faultOfLane_25 : decode cX5_faultOfLane 25 = .ok (.iload_n 2, 1) := by decide +kernel
theorem dX5_faultOfLane_26 : decode cX5_faultOfLane 26 = .ok (.if_icmp .ne 7, 3) := by decide +kernel
theorem dX5_faultOfLane_29 : decode cX5_faultOfLane 29 = .ok (.iconst 0, 1) := by decide +kernel
theorem dX5_faultOfLane_30 : decode cX5_faultOfLane 30 = .ok (.goto 4, 3) := by decide +kernel
theorem dX5_faultOfLane_33 : decode cX5_faultOfLane 33 = .ok (.iconst 3, 1) := by decide +kernel
theorem dX5_faultOfLane_34 : decode cX5_faultOfLane 34 = .ok (.ireturn, 1) := by decide +kernel
theorem dX5_faultOfCells_0 : decode cX5_faultOfCells 0 = .ok (.iload_n 1, 1) := by decide +kernel
theorem dX5_faultOfCells_1 : decode cX5_faultOfCells 1 = .ok (.invokestatic 33, 3) := by decide +kernel
theorem dX5_faultOfCells_4 : decode cX5_faultOfCells 4 = .ok (.ifCond .eq 13, 3) := by decide +kernel
theorem dX5_faultOfCells_7 : decode cX5_faultOfCells 7 = .ok (.aload_n 0, 1) := by decide +kernel
theorem dX5_faultOfCells_8 : decode cX5_faultOfCells 8 = .ok (.getfield 16, 3) := by decide +kernel
theorem dX5_faultOfCells_11 : decode cX5_faultOfCells 11 = .ok (.iload_n 1, 1) := by decide +kernel
theorem dX5_faultOfCells_12 : decode cX5_faultOfCells 12 = .ok (.iaload, 1) := by decide +kernel
theorem dX5_faultOfCells_13 : decode cX5_faultOfCells 13 = .ok (.iconst (-1), 1) := by decide +kernel
theorem dX5_faultOfCells_14 : decode cX5_faultOfCells 14 = .ok (.if_icmp .ne 5, 3) := by decide +kernel
theorem dX5_faultOfCells_17 : decode cX5_faultOfCells 17 = .ok (.iconst 1, 1) := by decide +kernel
theorem dX5_faultOfCells_18 : decode cX5_faultOfCells 18 = .ok (.ireturn, 1) := by decide +kernel
theorem dX5_faultOfCells_19 : decode cX5_faultOfCells 19 = .ok (.iload_n 2, 1) := by decide +kernel
theorem dX5_faultOfCells_20 : decode cX5_faultOfCells 20 = .ok (.iconst 0, 1) := by decide +kernel
theorem dX5_faultOfCells_21 : decode cX5_faultOfCells 21 = .ok (.aload_n 0, 1) := by decide +kernel
theorem dX5_faultOfCells_22 : decode cX5_faultOfCells 22 = .ok (.getfield 20, 3) := by decide +kernel
theorem dX5_faultOfCells_25 : decode cX5_faultOfCells 25 = .ok (.iload_n 1, 1) := by decide +kernel
theorem dX5_faultOfCells_26 : decode cX5_faultOfCells 26 = .ok (.iaload, 1) := by decide +kernel
theorem dX5_faultOfCells_27 : decode cX5_faultOfCells 27 = .ok (.iload_n 3, 1) := by decide +kernel
theorem dX5_faultOfCells_28 : decode cX5_faultOfCells 28 = .ok (.isub, 1) := by decide +kernel
theorem dX5_faultOfCells_29 : decode cX5_faultOfCells 29 = .ok (.invokestatic 29, 3) := by decide +kernel
theorem dX5_faultOfCells_32 : decode cX5_faultOfCells 32 = .ok (.ifCond .eq 7, 3) := by decide +kernel
theorem dX5_faultOfCells_35 : decode cX5_faultOfCells 35 = .ok (.iconst 0, 1) := by decide +kernel
theorem dX5_faultOfCells_36 : decode cX5_faultOfCells 36 = .ok (.goto 4, 3) := by decide +kernel
theorem dX5_faultOfCells_39 : decode cX5_faultOfCells 39 = .ok (.iconst 2, 1) := by decide +kernel
theorem dX5_faultOfCells_40 : decode cX5_faultOfCells 40 = .ok (.ireturn, 1) := by decide +kernel
theorem dX5_put_0 : decode cX5_put 0 = .ok (.aload_n 0, 1) := by decide +kernel
theorem dX5_put_1 : decode cX5_put 1 = .ok (.iload_n 1, 1) := by decide +kernel
theorem dX5_put_2 : decode cX5_put 2 = .ok (.iload_n 2, 1) := by decide +kernel
theorem dX5_put_3 : decode cX5_put 3 = .ok (.iconst 1, 1) := by decide +kernel
theorem dX5_put_4 : decode cX5_put 4 = .ok (.invokevirtual 37, 3) := by decide +kernel
theorem dX5_put_7 : decode cX5_put 7 = .ok (.ifCond .ne 9, 3) := by decide +kernel
theorem dX5_put_10 : decode cX5_put 10 = .ok (.iload_n 2, 1) := by decide +kernel
theorem dX5_put_11 : decode cX5_put 11 = .ok (.bipush 40, 2) := by decide +kernel
theorem dX5_put_13 : decode cX5_put 13 = .ok (.if_icmp .lt 4, 3) := by decide +kernel
theorem dX5_put_16 : decode cX5_put 16 = .ok (.return_, 1) := by decide +kernel
theorem dX5_put_17 : decode cX5_put 17 = .ok (.aload_n 0, 1) := by decide +kernel
theorem dX5_put_18 : decode cX5_put 18 = .ok (.getfield 16, 3) := by decide +kernel
theorem dX5_put_21 : decode cX5_put 21 = .ok (.iload_n 1, 1) := by decide +kernel
theorem dX5_put_22 : decode cX5_put 22 = .ok (.iaload, 1) := by decide +kernel
theorem dX5_put_23 : decode cX5_put 23 = .ok (.lookupswitch 51 #[(0, 25), (1, 38)], 25) := by decide +kernel
theorem dX5_put_48 : decode cX5_put 48 = .ok (.aload_n 0, 1) := by decide +kernel
theorem dX5_put_49 : decode cX5_put 49 = .ok (.getfield 11, 3) := by decide +kernel
theorem dX5_put_52 : decode cX5_put 52 = .ok (.iload_n 1, 1) := by decide +kernel
theorem dX5_put_53 : decode cX5_put 53 = .ok (.aaload, 1) := by decide +kernel
theorem dX5_put_54 : decode cX5_put 54 = .ok (.iload_n 2, 1) := by decide +kernel
theorem dX5_put_55 : decode cX5_put 55 = .ok (.iload_n 3, 1) := by decide +kernel
theorem dX5_put_56 : decode cX5_put 56 = .ok (.i2b, 1) := by decide +kernel
theorem dX5_put_57 : decode cX5_put 57 = .ok (.iastore, 1) := by decide +kernel
theorem dX5_put_58 : decode cX5_put 58 = .ok (.goto 25, 3) := by decide +kernel
theorem dX5_put_61 : decode cX5_put 61 = .ok (.aload_n 0, 1) := by decide +kernel
theorem dX5_put_62 : decode cX5_put 62 = .ok (.getfield 11, 3) := by decide +kernel
theorem dX5_put_65 : decode cX5_put 65 = .ok (.iload_n 1, 1) := by decide +kernel
theorem dX5_put_66 : decode cX5_put 66 = .ok (.aaload, 1) := by decide +kernel
theorem dX5_put_67 : decode cX5_put 67 = .ok (.iload_n 2, 1) := by decide +kernel
theorem dX5_put_68 : decode cX5_put 68 = .ok (.iload_n 3, 1) := by decide +kernel
theorem dX5_put_69 : decode cX5_put 69 = .ok (.i2s, 1) := by decide +kernel
theorem dX5_put_70 : decode cX5_put 70 = .ok (.iastore, 1) := by decide +kernel
theorem dX5_put_71 : decode cX5_put 71 = .ok (.goto 12, 3) := by decide +kernel
theorem dX5_put_74 : decode cX5_put 74 = .ok (.aload_n 0, 1) := by decide +kernel
theorem dX5_put_75 : decode cX5_put 75 = .ok (.getfield 11, 3) := by decide +kernel
theorem dX5_put_78 : decode cX5_put 78 = .ok (.iload_n 1, 1) := by decide +kernel
theorem dX5_put_79 : decode cX5_put 79 = .ok (.aaload, 1) := by decide +kernel
theorem dX5_put_80 : decode cX5_put 80 = .ok (.iload_n 2, 1) := by decide +kernel
theorem dX5_put_81 : decode cX5_put 81 = .ok (.iload_n 3, 1) := by decide +kernel
theorem dX5_put_82 : decode cX5_put 82 = .ok (.iastore, 1) := by decide +kernel
theorem dX5_put_83 : decode cX5_put 83 = .ok (.return_, 1) := by decide +kernel
theorem dX5_valueAt_0 : decode cX5_valueAt 0 = .ok (.aload_n 0, 1) := by decide +kernel
theorem dX5_valueAt_1 : decode cX5_valueAt 1 = .ok (.iload_n 1, 1) := by decide +kernel
theorem dX5_valueAt_2 : decode cX5_valueAt 2 = .ok (.iload_n 2, 1) := by decide +kernel
theorem dX5_valueAt_3 : decode cX5_valueAt 3 = .ok (.iconst 1, 1) := by decide +kernel
theorem dX5_valueAt_4 : decode cX5_valueAt 4 = .ok (.invokevirtual 37, 3) := by decide +kernel
theorem dX5_valueAt_7 : decode cX5_valueAt 7 = .ok (.ifCond .ne 20, 3) := by decide +kernel
theorem dX5_valueAt_10 : decode cX5_valueAt 10 = .ok (.iload_n 2, 1) := by decide +kernel
theorem dX5_valueAt_11 : decode cX5_valueAt 11 = .ok (.bipush 40, 2) := by decide +kernel
theorem dX5_valueAt_13 : decode cX5_valueAt 13 = .ok (.if_icmp .ge 14, 3) := by decide +kernel
theorem dX5_valueAt_16 : decode cX5_valueAt 16 = .ok (.aload_n 0, 1) := by decide +kernel
theorem dX5_valueAt_17 : decode cX5_valueAt 17 = .ok (.getfield 11, 3) := by decide +kernel
theorem dX5_valueAt_20 : decode cX5_valueAt 20 = .ok (.iload_n 1, 1) := by decide +kernel
theorem dX5_valueAt_21 : decode cX5_valueAt 21 = .ok (.aaload, 1) := by decide +kernel
theorem dX5_valueAt_22 : decode cX5_valueAt 22 = .ok (.iload_n 2, 1) := by decide +kernel
theorem dX5_valueAt_23 : decode cX5_valueAt 23 = .ok (.iaload, 1) := by decide +kernel
theorem dX5_valueAt_24 : decode cX5_valueAt 24 = .ok (.goto 4, 3) := by decide +kernel
theorem dX5_valueAt_27 : decode cX5_valueAt 27 = .ok (.iconst 0, 1) := by decide +kernel
theorem dX5_valueAt_28 : decode cX5_valueAt 28 = .ok (.ireturn, 1) := by decide +kernel
theorem dX6_init_0 : decode cX6_init 0 = .ok (.aload_n 0, 1) := by decide +kernel
theorem dX6_init_1 : decode cX6_init 1 = .ok (.invokespecial 3, 3) := by decide +kernel
theorem dX6_init_4 : decode cX6_init 4 = .ok (.aload_n 0, 1) := by decide +kernel
theorem dX6_init_5 : decode cX6_init 5 = .ok (.iconst 0, 1) := by decide +kernel
theorem dX6_init_6 : decode cX6_init 6 = .ok (.putfield 9, 3) := by decide +kernel
theorem dX6_init_9 : decode cX6_init 9 = .ok (.aload_n 0, 1) := by decide +kernel
theorem dX6_init_10 : decode cX6_init 10 = .ok (.iconst 4, 1) := by decide +kernel
theorem dX6_init_11 : decode cX6_init 11 = .ok (.putfield 15, 3) := by decide +kernel
theorem dX6_init_14 : decode cX6_init 14 = .ok (.aload_n 0, 1) := by decide +kernel
theorem dX6_init_15 : decode cX6_init 15 = .ok (.iconst 0, 1) := by decide +kernel
theorem dX6_init_16 : decode cX6_init 16 = .ok (.putfield 18, 3) := by decide +kernel
theorem dX6_init_19 : decode cX6_init 19 = .ok (.aload_n 0, 1) := by decide +kernel
theorem dX6_init_20 : decode cX6_init 20 = .ok (.iconst 0, 1) := by decide +kernel
theorem dX6_init_21 : decode cX6_init 21 = .ok (.putfield 21, 3) := by decide +kernel
theorem dX6_init_24 : decode cX6_init 24 = .ok (.aload_n 0, 1) := by decide +kernel
theorem dX6_init_25 : decode cX6_init 25 = .ok (.iconst 0, 1) := by decide +kernel
theorem dX6_init_26 : decode cX6_init 26 = .ok (.putfield 24, 3) := by decide +kernel
theorem dX6_init_29 : decode cX6_init 29 = .ok (.aload_n 0, 1) := by decide +kernel
theorem dX6_init_30 : decode cX6_init 30 = .ok (.iconst 0, 1) := by decide +kernel
theorem dX6_init_31 : decode cX6_init 31 = .ok (.putfield 27, 3) := by decide +kernel
theorem dX6_init_34 : decode cX6_init 34 = .ok (.aload_n 0, 1) := by decide +kernel
theorem dX6_init_35 : decode cX6_init 35 = .ok (.iconst 0, 1) := by decide +kernel
theorem dX6_init_36 : decode cX6_init 36 = .ok (.putfield 30, 3) := by decide +kernel
theorem dX6_init_39 : decode cX6_init 39 = .ok (.aload_n 0, 1) := by decide +kernel
theorem dX6_init_40 : decode cX6_init 40 = .ok (.sipush 320, 3) := by decide +kernel
theorem dX6_init_43 : decode cX6_init 43 = .ok (.newarray .byte, 2) := by decide +kernel
theorem dX6_init_45 : decode cX6_init 45 = .ok (.putfield 33, 3) := by decide +kernel
theorem dX6_init_48 : decode cX6_init 48 = .ok (.return_, 1) := by decide +kernel
theorem dX6_append_0 : decode cX6_append 0 = .ok (.aload_n 0, 1) := by decide +kernel
theorem dX6_append_1 : decode cX6_append 1 = .ok (.getfield 9, 3) := by decide +kernel
theorem dX6_append_4 : decode cX6_append 4 = .ok (.ifCond .lt 13, 3) := by decide +kernel
theorem dX6_append_7 : decode cX6_append 7 = .ok (.aload_n 0, 1) := by decide +kernel
theorem dX6_append_8 : decode cX6_append 8 = .ok (.getfield 9, 3) := by decide +kernel
theorem dX6_append_11 : decode cX6_append 11 = .ok (.sipush 312, 3) := by decide +kernel
theorem dX6_append_14 : decode cX6_append 14 = .ok (.if_icmp .le 6, 3) := by decide +kernel
theorem dX6_append_17 : decode cX6_append 17 = .ok (.bipush (-3), 2) := by decide +kernel
theorem dX6_append_19 : decode cX6_append 19 = .ok (.ireturn, 1) := by decide +kernel
theorem dX6_append_20 : decode cX6_append 20 = .ok (.iconst 0, 1) := by decide +kernel
theorem dX6_append_21 : decode cX6_append 21 = .ok (.istore_n 3, 1) := by decide +kernel
theorem dX6_append_22 : decode cX6_append 22 = .ok (.iload_n 3, 1) := by decide +kernel
theorem dX6_append_23 : decode cX6_append 23 = .ok (.bipush 8, 2) := by decide +kernel
theorem dX6_append_25 : decode cX6_append 25 = .ok (.if_icmp .ge 31, 3) := by decide +kernel
theorem dX6_append_28 : decode cX6_append 28 = .ok (.aload_n 0, 1) := by decide +kernel
theorem dX6_append_29 : decode cX6_append 29 = .ok (.getfield 33, 3) := by decide +kernel
theorem dX6_append_32 : decode cX6_append 32 = .ok (.aload_n 0, 1) := by decide +kernel
theorem dX6_append_33 : decode cX6_append 33 = .ok (.getfield 9, 3) := by decide +kernel
theorem dX6_append_36 : decode cX6_append 36 = .ok (.iload_n 3, 1) := by decide +kernel
theorem dX6_append_37 : decode cX6_append 37 = .ok (.iadd, 1) := by decide +kernel
theorem dX6_append_38 : decode cX6_append 38 = .ok (.lload_n 1, 1) := by decide +kernel
theorem dX6_append_39 : decode cX6_append 39 = .ok (.bipush 56, 2) := by decide +kernel
theorem dX6_append_41 : decode cX6_append 41 = .ok (.bipush 8, 2) := by decide +kernel
theorem dX6_append_43 : decode cX6_append 43 = .ok (.iload_n 3, 1) := by decide +kernel
theorem dX6_append_44 : decode cX6_append 44 = .ok (.imul, 1) := by decide +kernel
theorem dX6_append_45 : decode cX6_append 45 = .ok (.isub, 1) := by decide +kernel
theorem dX6_append_46 : decode cX6_append 46 = .ok (.lshr, 1) := by decide +kernel
theorem dX6_append_47 : decode cX6_append 47 = .ok (.l2i, 1) := by decide +kernel
theorem dX6_append_48 : decode cX6_append 48 = .ok (.i2b, 1) := by decide +kernel
theorem dX6_append_49 : decode cX6_append 49 = .ok (.bastore, 1) := by decide +kernel
theorem dX6_append_50 : decode cX6_append 50 = .ok (.iinc 3 1, 3) := by decide +kernel
theorem dX6_append_53 : decode cX6_append 53 = .ok (.goto (-31), 3) := by decide +kernel
theorem dX6_append_56 : decode cX6_append 56 = .ok (.aload_n 0, 1) := by decide +kernel
theorem dX6_append_57 : decode cX6_append 57 = .ok (.dup, 1) := by decide +kernel
theorem dX6_append_58 : decode cX6_append 58 = .ok (.getfield 9, 3) := by decide +kernel
theorem dX6_append_61 : decode cX6_append 61 = .ok (.bipush 8, 2) := by decide +kernel
theorem dX6_append_63 : decode cX6_append 63 = .ok (.iadd, 1) := by decide +kernel
theorem dX6_append_64 : decode cX6_append 64 = .ok (.putfield 9, 3) := by decide +kernel
theorem dX6_append_67 : decode cX6_append 67 = .ok (.aload_n 0, 1) := by decide +kernel
theorem dX6_append_68 : decode cX6_append 68 = .ok (.getfield 9, 3) := by decide +kernel
theorem dX6_append_71 : decode cX6_append 71 = .ok (.ireturn, 1) := by decide +kernel
theorem dX6_rewind_0 : decode cX6_rewind 0 = .ok (.aload_n 0, 1) := by decide +kernel
theorem dX6_rewind_1 : decode cX6_rewind 1 = .ok (.iconst 0, 1) := by decide +kernel
theorem dX6_rewind_2 : decode cX6_rewind 2 = .ok (.putfield 30, 3) := by decide +kernel
theorem dX6_rewind_5 : decode cX6_rewind 5 = .ok (.aload_n 0, 1) := by decide +kernel
theorem dX6_rewind_6 : decode cX6_rewind 6 = .ok (.iconst 0, 1) := by decide +kernel
theorem dX6_rewind_7 : decode cX6_rewind 7 = .ok (.putfield 24, 3) := by decide +kernel
theorem dX6_rewind_10 : decode cX6_rewind 10 = .ok (.return_, 1) := by decide +kernel
theorem dX6_fail_0 : decode cX6_fail 0 = .ok (.aload_n 0, 1) := by decide +kernel
theorem dX6_fail_1 : decode cX6_fail 1 = .ok (.getfield 24, 3) := by decide +kernel
theorem dX6_fail_4 : decode cX6_fail 4 = .ok (.ifCond .ne 13, 3) := by decide +kernel
theorem dX6_fail_7 : decode cX6_fail 7 = .ok (.aload_n 0, 1) := by decide +kernel
theorem dX6_fail_8 : decode cX6_fail 8 = .ok (.iload_n 1, 1) := by decide +kernel
theorem dX6_fail_9 : decode cX6_fail 9 = .ok (.putfield 24, 3) := by decide +kernel
theorem dX6_fail_12 : decode cX6_fail 12 = .ok (.aload_n 0, 1) := by decide +kernel
theorem dX6_fail_13 : decode cX6_fail 13 = .ok (.iload_n 2, 1) := by decide +kernel
theorem dX6_fail_14 : decode cX6_fail 14 = .ok (.putfield 27, 3) := by decide +kernel
theorem dX6_fail_17 : decode cX6_fail 17 = .ok (.return_, 1) := by decide +kernel
theorem dX6_nextToken_0 : decode cX6_nextToken 0 = .ok (.aload_n 0, 1) := by decide +kernel
theorem dX6_nextToken_1 : decode cX6_nextToken 1 = .ok (.getfield 24, 3) := by decide +kernel
theorem dX6_nextToken_4 : decode cX6_nextToken 4 = .ok (.ifCond .eq 4, 3) := by decide +kernel
theorem dX6_nextToken_7 : decode cX6_nextToken 7 = .ok (.return_, 1) := by decide +kernel
theorem dX6_nextToken_8 : decode cX6_nextToken 8 = .ok (.aload_n 0, 1) := by decide +kernel
theorem dX6_nextToken_9 : decode cX6_nextToken 9 = .ok (.getfield 30, 3) := by decide +kernel
theorem dX6_nextToken_12 : decode cX6_nextToken 12 = .ok (.aload_n 0, 1) := by decide +kernel
theorem dX6_nextToken_13 : decode cX6_nextToken 13 = .ok (.getfield 9, 3) := by decide +kernel
theorem dX6_nextToken_16 : decode cX6_nextToken 16 = .ok (.if_icmp .ge 40, 3) := by decide +kernel
theorem dX6_nextToken_19 : decode cX6_nextToken 19 = .ok (.aload_n 0, 1) := by decide +kernel
theorem dX6_nextToken_20 : decode cX6_nextToken 20 = .ok (.getfield 30, 3) := by decide +kernel
theorem dX6_nextToken_23 : decode cX6_nextToken 23 = .ok (.sipush 320, 3) := by decide +kernel
theorem dX6_nextToken_26 : decode cX6_nextToken 26 = .ok (.if_icmp .ge 30, 3) := by decide +kernel
theorem dX6_nextToken_29 : decode cX6_nextToken 29 = .ok (.aload_n 0, 1) := by decide +kernel
theorem dX6_nextToken_30 : decode cX6_nextToken 30 = .ok (.getfield 33, 3) := by decide +kernel
theorem dX6_nextToken_33 : decode cX6_nextToken 33 = .ok (.aload_n 0, 1) := by decide +kernel
theorem dX6_nextToken_34 : decode cX6_nextToken 34 = .ok (.getfield 30, 3) := by decide +kernel
theorem dX6_nextToken_37 : decode cX6_nextToken 37 = .ok (.baload, 1) := by decide +kernel
theorem dX6_nextToken_38 : decode cX6_nextToken 38 = .ok (.bipush 32, 2) := by decide +kernel
theorem dX6_nextToken_40 : decode cX6_nextToken 40 = .ok (.if_icmp .ne 16, 3) := by decide +kernel
theorem dX6_nextToken_43 : decode cX6_nextToken 43 = .ok (.aload_n 0, 1) := by decide +kernel
theorem dX6_nextToken_44 : decode cX6_nextToken 44 = .ok (.dup, 1) := by decide +kernel
theorem dX6_nextToken_45 : decode cX6_nextToken 45 = .ok (.getfield 30, 3) := by decide +kernel
theorem dX6_nextToken_48 : decode cX6_nextToken 48 = .ok (.iconst 1, 1) := by decide +kernel
theorem dX6_nextToken_49 : decode cX6_nextToken 49 = .ok (.iadd, 1) := by decide +kernel
theorem dX6_nextToken_50 : decode cX6_nextToken 50 = .ok (.putfield 30, 3) := by decide +kernel
theorem dX6_nextToken_53 : decode cX6_nextToken 53 = .ok (.goto (-45), 3) := by decide +kernel
theorem dX6_nextToken_56 : decode cX6_nextToken 56 = .ok (.aload_n 0, 1) := by decide +kernel
theorem dX6_nextToken_57 : decode cX6_nextToken 57 = .ok (.aload_n 0, 1) := by decide +kernel
theorem dX6_nextToken_58 : decode cX6_nextToken 58 = .ok (.getfield 30, 3) := by decide +kernel
theorem dX6_nextToken_61 : decode cX6_nextToken 61 = .ok (.putfield 18, 3) := by decide +kernel
theorem dX6_nextToken_64 : decode cX6_nextToken 64 = .ok (.aload_n 0, 1) := by decide +kernel
theorem dX6_nextToken_65 : decode cX6_nextToken 65 = .ok (.aload_n 0, 1) := by decide +kernel
theorem dX6_nextToken_66 : decode cX6_nextToken 66 = .ok (.getfield 30, 3) := by decide +kernel
theorem dX6_nextToken_69 : decode cX6_nextToken 69 = .ok (.aload_n 0, 1) := by decide +kernel
theorem dX6_nextToken_70 : decode cX6_nextToken 70 = .ok (.getfield 9, 3) := by decide +kernel
theorem dX6_nextToken_73 : decode cX6_nextToken 73 = .ok (.if_icmp .ge 28, 3) := by decide +kernel
theorem dX6_nextToken_76 : decode cX6_nextToken 76 = .ok (.aload_n 0, 1) := by decide +kernel
theorem dX6_nextToken_77 : decode cX6_nextToken 77 = .ok (.getfield 30, 3) := by decide +kernel
theorem dX6_nextToken_80 : decode cX6_nextToken 80 = .ok (.sipush 320, 3) := by decide +kernel
theorem dX6_nextToken_83 : decode cX6_nextToken 83 = .ok (.if_icmp .ge 18, 3) := by decide +kernel
theorem dX6_nextToken_86 : decode cX6_nextToken 86 = .ok (.aload_n 0, 1) := by decide +kernel
theorem dX6_nextToken_87 : decode cX6_nextToken 87 = .ok (.getfield 33, 3) := by decide +kernel
theorem dX6_nextToken_90 : decode cX6_nextToken 90 = .ok (.aload_n 0, 1) := by decide +kernel
theorem dX6_nextToken_91 : decode cX6_nextToken 91 = .ok (.getfield 30, 3) := by decide +kernel
theorem dX6_nextToken_94 : decode cX6_nextToken 94 = .ok (.baload, 1) := by decide +kernel
theorem dX6_nextToken_95 : decode cX6_nextToken 95 = .ok (.invokestatic 37, 3) := by decide +kernel
theorem dX6_nextToken_98 : decode cX6_nextToken 98 = .ok (.goto 4, 3) := by decide +kernel
theorem dX6_nextToken_101 : decode cX6_nextToken 101 = .ok (.iconst 4, 1) := by decide +kernel
theorem dX6_nextToken_102 : decode cX6_nextToken 102 = .ok (.putfield 15, 3) := by decide +kernel
theorem dX6_nextToken_105 : decode cX6_nextToken 105 = .ok (.aload_n 0, 1) := by decide +kernel
theorem dX6_nextToken_106 : decode cX6_nextToken 106 = .ok (.iconst 0, 1) := by decide +kernel
theorem dX6_nextToken_107 : decode cX6_nextToken 107 = .ok (.putfield 21, 3) := by decide +kernel
theorem dX6_nextToken_110 : decode cX6_nextToken 110 = .ok (.aload_n 0, 1) := by decide +kernel
theorem dX6_nextToken_111 : decode cX6_nextToken 111 = .ok (.getfield 15, 3) := by decide +kernel
theorem dX6_nextToken_114 : decode cX6_nextToken 114 = .ok (.iconst 1, 1) := by decide +kernel
theorem dX6_nextToken_115 : decode cX6_nextToken 115 = .ok (.if_icmp .eq 11, 3) := by decide +kernel
theorem dX6_nextToken_118 : decode cX6_nextToken 118 = .ok (.aload_n 0, 1) := by decide +kernel
theorem dX6_nextToken_119 : decode cX6_nextToken 119 = .ok (.getfield 15, 3) := by decide +kernel
theorem dX6_nextToken_122 : decode cX6_nextToken 122 = .ok (.iconst 2, 1) := by decide +kernel
theorem dX6_nextToken_123 : decode cX6_nextToken 123 = .ok (.if_icmp .ne 7, 3) := by decide +kernel
theorem dX6_nextToken_126 : decode cX6_nextToken 126 = .ok (.iconst 1, 1) := by decide +kernel
theorem dX6_nextToken_127 : decode cX6_nextToken 127 = .ok (.goto 4, 3) := by decide +kernel
theorem dX6_nextToken_130 : decode cX6_nextToken 130 = .ok (.iconst 0, 1) := by decide +kernel
theorem dX6_nextToken_131 : decode cX6_nextToken 131 = .ok (.istore_n 1, 1) := by decide +kernel
theorem dX6_nextToken_132 : decode cX6_nextToken 132 = .ok (.iload_n 1, 1) := by decide +kernel
theorem dX6_nextToken_133 : decode cX6_nextToken 133 = .ok (.ifCond .eq 80, 3) := by decide +kernel
theorem dX6_nextToken_136 : decode cX6_nextToken 136 = .ok (.aload_n 0, 1) := by decide +kernel
theorem dX6_nextToken_137 : decode cX6_nextToken 137 = .ok (.getfield 30, 3) := by decide +kernel
theorem dX6_nextToken_140 : decode cX6_nextToken 140 = .ok (.aload_n 0, 1) := by decide +kernel
theorem dX6_nextToken_141 : decode cX6_nextToken 141 = .ok (.getfield 9, 3) := by decide +kernel
theorem dX6_nextToken_144 : decode cX6_nextToken 144 = .ok (.if_icmp .ge 69, 3) := by decide +kernel
theorem dX6_nextToken_147 : decode cX6_nextToken 147 = .ok (.aload_n 0, 1) := by decide +kernel
theorem dX6_nextToken_148 : decode cX6_nextToken 148 = .ok (.getfield 30, 3) := by decide +kernel
theorem dX6_nextToken_151 : decode cX6_nextToken 151 = .ok (.sipush 320, 3) := by decide +kernel
theorem dX6_nextToken_154 : decode cX6_nextToken 154 = .ok (.if_icmp .ge 59, 3) := by decide +kernel
theorem dX6_nextToken_157 : decode cX6_nextToken 157 = .ok (.aload_n 0, 1) := by decide +kernel
theorem dX6_nextToken_158 : decode cX6_nextToken 158 = .ok (.getfield 33, 3) := by decide +kernel
theorem dX6_nextToken_161 : decode cX6_nextToken 161 = .ok (.aload_n 0, 1) := by decide +kernel
theorem dX6_nextToken_162 : decode cX6_nextToken 162 = .ok (.getfield 30, 3) := by decide +kernel
theorem dX6_nextToken_165 : decode cX6_nextToken 165 = .ok (.baload, 1) := by decide +kernel
theorem dX6_nextToken_166 : decode cX6_nextToken 166 = .ok (.invokestatic 37, 3) := by decide +kernel
theorem dX6_nextToken_169 : decode cX6_nextToken 169 = .ok (.aload_n 0, 1) := by decide +kernel
theorem dX6_nextToken_170 : decode cX6_nextToken 170 = .ok (.getfield 15, 3) := by decide +kernel
theorem dX6_nextToken_173 : decode cX6_nextToken 173 = .ok (.if_icmp .ne 40, 3) := by decide +kernel
theorem dX6_nextToken_176 : decode cX6_nextToken 176 = .ok (.aload_n 0, 1) := by decide +kernel
theorem dX6_nextToken_177 : decode cX6_nextToken 177 = .ok (.bipush 10, 2) := by decide +kernel
theorem dX6_nextToken_179 : decode cX6_nextToken 179 = .ok (.aload_n 0, 1) := by decide +kernel
theorem dX6_nextToken_180 : decode cX6_nextToken 180 = .ok (.getfield 21, 3) := by decide +kernel
theorem dX6_nextToken_183 : decode cX6_nextToken 183 = .ok (.imul, 1) := by decide +kernel
theorem dX6_nextToken_184 : decode cX6_nextToken 184 = .ok (.aload_n 0, 1) := by decide +kernel
theorem dX6_nextToken_185 : decode cX6_nextToken 185 = .ok (.getfield 33, 3) := by decide +kernel
theorem dX6_nextToken_188 : decode cX6_nextToken 188 = .ok (.aload_n 0, 1) := by decide +kernel
theorem dX6_nextToken_189 : decode cX6_nextToken 189 = .ok (.getfield 30, 3) := by decide +kernel
theorem dX6_nextToken_192 : decode cX6_nextToken 192 = .ok (.baload, 1) := by decide +kernel
theorem dX6_nextToken_193 : decode cX6_nextToken 193 = .ok (.iadd, 1) := by decide +kernel
theorem dX6_nextToken_194 : decode cX6_nextToken 194 = .ok (.bipush 48, 2) := by decide +kernel
theorem dX6_nextToken_196 : decode cX6_nextToken 196 = .ok (.isub, 1) := by decide +kernel
theorem dX6_nextToken_197 : decode cX6_nextToken 197 = .ok (.putfield 21, 3) := by decide +kernel
theorem dX6_nextToken_200 : decode cX6_nextToken 200 = .ok (.aload_n 0, 1) := by decide +kernel
theorem dX6_nextToken_201 : decode cX6_nextToken 201 = .ok (.dup, 1) := by decide +kernel
theorem dX6_nextToken_202 : decode cX6_nextToken 202 = .ok (.getfield 30, 3) := by decide +kernel
theorem dX6_nextToken_205 : decode cX6_nextToken 205 = .ok (.iconst 1, 1) := by decide +kernel
theorem dX6_nextToken_206 : decode cX6_nextToken 206 = .ok (.iadd, 1) := by decide +kernel
theorem dX6_nextToken_207 : decode cX6_nextToken 207 = .ok (.putfield 30, 3) := by decide +kernel
theorem dX6_nextToken_210 : decode cX6_nextToken 210 = .ok (.goto (-78), 3) := by decide +kernel
theorem dX6_nextToken_213 : decode cX6_nextToken 213 = .ok (.aload_n 0, 1) := by decide +kernel
theorem dX6_nextToken_214 : decode cX6_nextToken 214 = .ok (.getfield 15, 3) := by decide +kernel
theorem dX6_nextToken_217 : decode cX6_nextToken 217 = .ok (.iconst 3, 1) := by decide +kernel
theorem dX6_nextToken_218 : decode cX6_nextToken 218 = .ok (.if_icmp .ne 13, 3) := by decide +kernel
theorem dX6_nextToken_221 : decode cX6_nextToken 221 = .ok (.aload_n 0, 1) := by decide +kernel
theorem dX6_nextToken_222 : decode cX6_nextToken 222 = .ok (.dup, 1) := by decide +kernel
theorem dX6_nextToken_223 : decode cX6_nextToken 223 = .ok (.getfield 30, 3) := by decide +kernel
theorem dX6_nextToken_226 : decode cX6_nextToken 226 = .ok (.iconst 1, 1) := by decide +kernel
theorem dX6_nextToken_227 : decode cX6_nextToken 227 = .ok (.iadd, 1) := by decide +kernel
theorem dX6_nextToken_228 : decode cX6_nextToken 228 = .ok (.putfield 30, 3) := by decide +kernel
theorem dX6_nextToken_231 : decode cX6_nextToken 231 = .ok (.aload_n 0, 1) := by decide +kernel
theorem dX6_nextToken_232 : decode cX6_nextToken 232 = .ok (.getfield 15, 3) := by decide +kernel
theorem dX6_nextToken_235 : decode cX6_nextToken 235 = .ok (.ifCond .eq 24, 3) := by decide +kernel
theorem dX6_nextToken_238 : decode cX6_nextToken 238 = .ok (.aload_n 0, 1) := by decide +kernel
theorem dX6_nextToken_239 : decode cX6_nextToken 239 = .ok (.getfield 15, 3) := by decide +kernel
theorem dX6_nextToken_242 : decode cX6_nextToken 242 = .ok (.iconst 2, 1) := by decide +kernel
theorem dX6_nextToken_243 : decode cX6_nextToken 243 = .ok (.if_icmp .ne 25, 3) := by decide +kernel
theorem dX6_nextToken_246 : decode cX6_nextToken 246 = .ok (.aload_n 0, 1) := by decide +kernel
theorem dX6_nextToken_247 : decode cX6_nextToken 247 = .ok (.getfield 30, 3) := by decide +kernel
theorem dX6_nextToken_250 : decode cX6_nextToken 250 = .ok (.aload_n 0, 1) := by decide +kernel
theorem dX6_nextToken_251 : decode cX6_nextToken 251 = .ok (.getfield 18, 3) := by decide +kernel
theorem dX6_nextToken_254 : decode cX6_nextToken 254 = .ok (.isub, 1) := by decide +kernel
theorem dX6_nextToken_255 : decode cX6_nextToken 255 = .ok (.iconst 3, 1) := by decide +kernel
theorem dX6_nextToken_256 : decode cX6_nextToken 256 = .ok (.if_icmp .le 12, 3) := by decide +kernel
theorem dX6_nextToken_259 : decode cX6_nextToken 259 = .ok (.aload_n 0, 1) := by decide +kernel
theorem dX6_nextToken_260 : decode cX6_nextToken 260 = .ok (.iconst 1, 1) := by decide +kernel
theorem dX6_nextToken_261 : decode cX6_nextToken 261 = .ok (.aload_n 0, 1) := by decide +kernel
theorem dX6_nextToken_262 : decode cX6_nextToken 262 = .ok (.getfield 18, 3) := by decide +kernel
theorem dX6_nextToken_265 : decode cX6_nextToken 265 = .ok (.invokevirtual 43, 3) := by decide +kernel
theorem dX6_nextToken_268 : decode cX6_nextToken 268 = .ok (.return_, 1) := by decide +kernel
theorem dX6_isName_0 : decode cX6_isName 0 = .ok (.aload_n 0, 1) := by decide +kernel
theorem dX6_isName_1 : decode cX6_isName 1 = .ok (.getfield 15, 3) := by decide +kernel
theorem dX6_isName_4 : decode cX6_isName 4 = .ok (.iconst 1, 1) := by decide +kernel
theorem dX6_isName_5 : decode cX6_isName 5 = .ok (.if_icmp .ne 19, 3) := by decide +kernel
theorem dX6_isName_8 : decode cX6_isName 8 = .ok (.aload_n 0, 1) := by decide +kernel
theorem dX6_isName_9 : decode cX6_isName 9 = .ok (.getfield 30, 3) := by decide +kernel
theorem dX6_isName_12 : decode cX6_isName 12 = .ok (.aload_n 0, 1) := by decide +kernel
theorem dX6_isName_13 : decode cX6_isName 13 = .ok (.getfield 18, 3) := by decide +kernel
theorem dX6_isName_16 : decode cX6_isName 16 = .ok (.isub, 1) := by decide +kernel
theorem dX6_isName_17 : decode cX6_isName 17 = .ok (.aload_n 1, 1) := by decide +kernel
theorem dX6_isName_18 : decode cX6_isName 18 = .ok (.invokevirtual 47, 3) := by decide +kernel
theorem dX6_isName_21 : decode cX6_isName 21 = .ok (.if_icmp .eq 5, 3) := by decide +kernel
theorem dX6_isName_24 : decode cX6_isName 24 = .ok (.iconst 0, 1) := by decide +kernel
theorem dX6_isName_25 : decode cX6_isName 25 = .ok (.ireturn, 1) := by decide +kernel
theorem dX6_isName_26 : decode cX6_isName 26 = .ok (.iconst 0, 1) := by decide +kernel
theorem dX6_isName_27 : decode cX6_isName 27 = .ok (.istore_n 2, 1) := by decide +kernel
theorem dX6_isName_28 : decode cX6_isName 28 = .ok (.iload_n 2, 1) := by decide +kernel
theorem dX6_isName_29 : decode cX6_isName 29 = .ok (.aload_n 1, 1) := by decide +kernel
theorem dX6_isName_30 : decode cX6_isName 30 = .ok (.invokevirtual 47, 3) := by decide +kernel
theorem dX6_isName_33 : decode cX6_isName 33 = .ok (.if_icmp .ge 42, 3) := by decide +kernel
theorem dX6_isName_36 : decode cX6_isName 36 = .ok (.aload_n 0, 1) := by decide +kernel
theorem dX6_isName_37 : decode cX6_isName 37 = .ok (.getfield 18, 3) := by decide +kernel
theorem dX6_isName_40 : decode cX6_isName 40 = .ok (.iload_n 2, 1) := by decide +kernel
theorem dX6_isName_41 : decode cX6_isName 41 = .ok (.iadd, 1) := by decide +kernel
theorem dX6_isName_42 : decode cX6_isName 42 = .ok (.sipush 320, 3) := by decide +kernel
theorem dX6_isName_45 : decode cX6_isName 45 = .ok (.if_icmp .ge 30, 3) := by decide +kernel
theorem dX6_isName_48 : decode cX6_isName 48 = .ok (.aload_n 0, 1) := by decide +kernel
theorem dX6_isName_49 : decode cX6_isName 49 = .ok (.getfield 33, 3) := by decide +kernel
theorem dX6_isName_52 : decode cX6_isName 52 = .ok (.aload_n 0, 1) := by decide +kernel
theorem dX6_isName_53 : decode cX6_isName 53 = .ok (.getfield 18, 3) := by decide +kernel
theorem dX6_isName_56 : decode cX6_isName 56 = .ok (.iload_n 2, 1) := by decide +kernel
theorem dX6_isName_57 : decode cX6_isName 57 = .ok (.iadd, 1) := by decide +kernel
theorem dX6_isName_58 : decode cX6_isName 58 = .ok (.baload, 1) := by decide +kernel
theorem dX6_isName_59 : decode cX6_isName 59 = .ok (.aload_n 1, 1) := by decide +kernel
theorem dX6_isName_60 : decode cX6_isName 60 = .ok (.iload_n 2, 1) := by decide +kernel
theorem dX6_isName_61 : decode cX6_isName 61 = .ok (.invokevirtual 52, 3) := by decide +kernel
theorem dX6_isName_64 : decode cX6_isName 64 = .ok (.if_icmp .eq 5, 3) := by decide +kernel
theorem dX6_isName_67 : decode cX6_isName 67 = .ok (.iconst 0, 1) := by decide +kernel
theorem dX6_isName_68 : decode cX6_isName 68 = .ok (.ireturn, 1) := by decide +kernel
theorem dX6_isName_69 : decode cX6_isName 69 = .ok (.iinc 2 1, 3) := by decide +kernel
theorem dX6_isName_72 : decode cX6_isName 72 = .ok (.goto (-44), 3) := by decide +kernel
theorem dX6_isName_75 : decode cX6_isName 75 = .ok (.iconst 1, 1) := by decide +kernel
theorem dX6_isName_76 : decode cX6_isName 76 = .ok (.ireturn, 1) := by decide +kernel
theorem dX6_tokenOf_0 : decode cX6_tokenOf 0 = .ok (.iload_n 0, 1) := by decide +kernel
theorem dX6_tokenOf_1 : decode cX6_tokenOf 1 = .ok (.bipush 97, 2) := by decide +kernel
theorem dX6_tokenOf_3 : decode cX6_tokenOf 3 = .ok (.if_icmp .lt 11, 3) := by decide +kernel
theorem dX6_tokenOf_6 : decode cX6_tokenOf 6 = .ok (.iload_n 0, 1) := by decide +kernel
theorem dX6_tokenOf_7 : decode cX6_tokenOf 7 = .ok (.bipush 122, 2) := by decide +kernel
theorem dX6_tokenOf_9 : decode cX6_tokenOf 9 = .ok (.if_icmp .gt 5, 3) := by decide +kernel
theorem dX6_tokenOf_12 : decode cX6_tokenOf 12 = .ok (.iconst 1, 1) := by decide +kernel
theorem dX6_tokenOf_13 : decode cX6_tokenOf 13 = .ok (.ireturn, 1) := by decide +kernel
theorem dX6_tokenOf_14 : decode cX6_tokenOf 14 = .ok (.iload_n 0, 1) := by decide +kernel
theorem dX6_tokenOf_15 : decode cX6_tokenOf 15 = .ok (.bipush 48, 2) := by decide +kernel
theorem dX6_tokenOf_17 : decode cX6_tokenOf 17 = .ok (.if_icmp .lt 11, 3) := by decide +kernel
theorem dX6_tokenOf_20 : decode cX6_tokenOf 20 = .ok (.iload_n 0, 1) := by decide +kernel
theorem dX6_tokenOf_21 : decode cX6_tokenOf 21 = .ok (.bipush 57, 2) := by decide +kernel
theorem dX6_tokenOf_23 : decode cX6_tokenOf 23 = .ok (.if_icmp .gt 5, 3) := by decide +kernel
theorem dX6_tokenOf_26 : decode cX6_tokenOf 26 = .ok (.iconst 2, 1) := by decide +kernel
theorem dX6_tokenOf_27 : decode cX6_tokenOf 27 = .ok (.ireturn, 1) := by decide +kernel
theorem dX6_tokenOf_28 : decode cX6_tokenOf 28 = .ok (.iload_n 0, 1) := by decide +kernel
theorem dX6_tokenOf_29 : decode cX6_tokenOf 29 = .ok (.bipush 59, 2) := by decide +kernel
theorem dX6_tokenOf_31 : decode cX6_tokenOf 31 = .ok (.if_icmp .ne 7, 3) := by decide +kernel
theorem dX6_tokenOf_34 : decode cX6_tokenOf 34 = .ok (.iconst 3, 1) := by decide +kernel
theorem dX6_tokenOf_35 : decode cX6_tokenOf 35 = .ok (.goto 4, 3) := by decide +kernel
theorem dX6_tokenOf_38 : decode cX6_tokenOf 38 = .ok (.iconst 0, 1) := by decide +kernel
theorem dX6_tokenOf_39 : decode cX6_tokenOf 39 = .ok (.ireturn, 1) := by decide +kernel
theorem dX7_init_0 : decode cX7_init 0 = .ok (.aload_n 0, 1) := by decide +kernel
theorem dX7_init_1 : decode cX7_init 1 = .ok (.invokespecial 3, 3) := by decide +kernel
theorem dX7_init_4 : decode cX7_init 4 = .ok (.aload_n 0, 1) := by decide +kernel
theorem dX7_init_5 : decode cX7_init 5 = .ok (.new 9, 3) := by decide +kernel
theorem dX7_init_8 : decode cX7_init 8 = .ok (.dup, 1) := by decide +kernel
theorem dX7_init_9 : decode cX7_init 9 = .ok (.invokespecial 11, 3) := by decide +kernel
theorem dX7_init_12 : decode cX7_init 12 = .ok (.putfield 12, 3) := by decide +kernel
theorem dX7_init_15 : decode cX7_init 15 = .ok (.aload_n 0, 1) := by decide +kernel
theorem dX7_init_16 : decode cX7_init 16 = .ok (.new 18, 3) := by decide +kernel
theorem dX7_init_19 : decode cX7_init 19 = .ok (.dup, 1) := by decide +kernel
theorem dX7_init_20 : decode cX7_init 20 = .ok (.invokespecial 20, 3) := by decide +kernel
theorem dX7_init_23 : decode cX7_init 23 = .ok (.putfield 21, 3) := by decide +kernel
theorem dX7_init_26 : decode cX7_init 26 = .ok (.aload_n 0, 1) := by decide +kernel
theorem dX7_init_27 : decode cX7_init 27 = .ok (.iconst 0, 1) := by decide +kernel
theorem dX7_init_28 : decode cX7_init 28 = .ok (.putfield 25, 3) := by decide +kernel
theorem dX7_init_31 : decode cX7_init 31 = .ok (.aload_n 0, 1) := by decide +kernel
theorem dX7_init_32 : decode cX7_init 32 = .ok (.iconst (-1), 1) := by decide +kernel
theorem dX7_init_33 : decode cX7_init 33 = .ok (.putfield 29, 3) := by decide +kernel
theorem dX7_init_36 : decode cX7_init 36 = .ok (.return_, 1) := by decide +kernel
theorem dX7_readLines_0 : decode cX7_readLines 0 = .ok (.aload_n 0, 1) := by decide +kernel
theorem dX7_readLines_1 : decode cX7_readLines 1 = .ok (.getfield 12, 3) := by decide +kernel
theorem dX7_readLines_4 : decode cX7_readLines 4 = .ok (.invokevirtual 32, 3) := by decide +kernel
theorem dX7_readLines_7 : decode cX7_readLines 7 = .ok (.aload_n 0, 1) := by decide +kernel
theorem dX7_readLines_8 : decode cX7_readLines 8 = .ok (.iconst 0, 1) := by decide +kernel
theorem dX7_readLines_9 : decode cX7_readLines 9 = .ok (.putfield 25, 3) := by decide +kernel
theorem dX7_readLines_12 : decode cX7_readLines 12 = .ok (.aload_n 0, 1) := by decide +kernel
theorem dX7_readLines_13 : decode cX7_readLines 13 = .ok (.iconst (-1), 1) := by decide +kernel
theorem dX7_readLines_14 : decode cX7_readLines 14 = .ok (.putfield 29, 3) := by decide +kernel
theorem dX7_readLines_17 : decode cX7_readLines 17 = .ok (.aload_n 0, 1) := by decide +kernel
theorem dX7_readLines_18 : decode cX7_readLines 18 = .ok (.getfield 21, 3) := by decide +kernel
theorem dX7_readLines_21 : decode cX7_readLines 21 = .ok (.invokevirtual 35, 3) := by decide +kernel
theorem dX7_readLines_24 : decode cX7_readLines 24 = .ok (.aload_n 0, 1) := by decide +kernel
theorem dX7_readLines_25 : decode cX7_readLines 25 = .ok (.getfield 21, 3) := by decide +kernel
theorem dX7_readLines_28 : decode cX7_readLines 28 = .ok (.invokevirtual 38, 3) := by decide +kernel
theorem dX7_readLines_31 : decode cX7_readLines 31 = .ok (.iconst 0, 1) := by decide +kernel
theorem dX7_readLines_32 : decode cX7_readLines 32 = .ok (.istore_n 1, 1) := by decide +kernel
theorem dX7_readLines_33 : decode cX7_readLines 33 = .ok (.aload_n 0, 1) := by decide +kernel
theorem dX7_readLines_34 : decode cX7_readLines 34 = .ok (.getfield 21, 3) := by decide +kernel
theorem dX7_readLines_37 : decode cX7_readLines 37 = .ok (.getfield 41, 3) := by decide +kernel
theorem dX7_readLines_40 : decode cX7_readLines 40 = .ok (.ifCond .ne 42, 3) := by decide +kernel
theorem dX7_readLines_43 : decode cX7_readLines 43 = .ok (.aload_n 0, 1) := by decide +kernel
theorem dX7_readLines_44 : decode cX7_readLines 44 = .ok (.getfield 21, 3) := by decide +kernel
theorem dX7_readLines_47 : decode cX7_readLines 47 = .ok (.getfield 44, 3) := by decide +kernel
theorem dX7_readLines_50 : decode cX7_readLines 50 = .ok (.iconst 4, 1) := by decide +kernel
theorem dX7_readLines_51 : decode cX7_readLines 51 = .ok (.if_icmp .eq 31, 3) := by decide +kernel
theorem dX7_readLines_54 : decode cX7_readLines 54 = .ok (.iload_n 1, 1) := by decide +kernel
theorem dX7_readLines_55 : decode cX7_readLines 55 = .ok (.sipush 320, 3) := by decide +kernel
theorem dX7_readLines_58 : decode cX7_readLines 58 = .ok (.if_icmp .gt 24, 3) := by decide +kernel
theorem dX7_readLines_61 : decode cX7_readLines 61 = .ok (.aload_n 0, 1) := by decide +kernel
theorem dX7_readLines_62 : decode cX7_readLines 62 = .ok (.aload_n 0, 1) := by decide +kernel
theorem dX7_readLines_63 : decode cX7_readLines 63 = .ok (.invokevirtual 47, 3) := by decide +kernel
theorem dX7_readLines_66 : decode cX7_readLines 66 = .ok (.invokevirtual 51, 3) := by decide +kernel
theorem dX7_readLines_69 : decode cX7_readLines 69 = .ok (.iinc 1 1, 3) := by decide +kernel
theorem dX7_readLines_72 : decode cX7_readLines 72 = .ok (.aload_n 0, 1) := by decide +kernel
theorem dX7_readLines_73 : decode cX7_readLines 73 = .ok (.getfield 21, 3) := by decide +kernel
theorem dX7_readLines_76 : decode cX7_readLines 76 = .ok (.invokevirtual 38, 3) := by decide +kernel
theorem dX7_readLines_79 : decode cX7_readLines 79 = .ok (.goto (-46), 3) := by decide +kernel
theorem dX7_readLines_82 : decode cX7_readLines 82 = .ok (.aload_n 0, 1) := by decide +kernel
theorem dX7_readLines_83 : decode cX7_readLines 83 = .ok (.getfield 12, 3) := by decide +kernel
theorem dX7_readLines_86 : decode cX7_readLines 86 = .ok (.aload_n 0, 1) := by decide +kernel
theorem dX7_readLines_87 : decode cX7_readLines 87 = .ok (.getfield 29, 3) := by decide +kernel
theorem dX7_readLines_90 : decode cX7_readLines 90 = .ok (.iconst (-1), 1) := by decide +kernel
theorem dX7_readLines_91 : decode cX7_readLines 91 = .ok (.if_icmp .ne 21, 3) := by decide +kernel
theorem dX7_readLines_94 : decode cX7_readLines 94 = .ok (.aload_n 0, 1) := by decide +kernel
theorem dX7_readLines_95 : decode cX7_readLines 95 = .ok (.getfield 12, 3) := by decide +kernel
theorem dX7_readLines_98 : decode cX7_readLines 98 = .ok (.getfield 55, 3) := by decide +kernel
theorem dX7_readLines_101 : decode cX7_readLines 101 = .ok (.getfield 59, 3) := by decide +kernel
theorem dX7_readLines_104 : decode cX7_readLines 104 = .ok (.bipush 6, 2) := by decide +kernel
theorem dX7_readLines_106 : decode cX7_readLines 106 = .ok (.invokestatic 64, 3) := by decide +kernel
theorem dX7_readLines_109 : decode cX7_readLines 109 = .ok (.goto 7, 3) := by decide +kernel
theorem dX7_readLines_112 : decode cX7_readLines 112 = .ok (.aload_n 0, 1) := by decide +kernel
theorem dX7_readLines_113 : decode cX7_readLines 113 = .ok (.getfield 29, 3) := by decide +kernel
theorem dX7_readLines_116 : decode cX7_readLines 116 = .ok (.putfield 70, 3) := by decide +kernel
theorem dX7_readLines_119 : decode cX7_readLines 119 = .ok (.aload_n 0, 1) := by decide +kernel
theorem dX7_readLines_120 : decode cX7_readLines 120 = .ok (.invokevirtual 73, 3) := by decide +kernel
theorem dX7_readLines_123 : decode cX7_readLines 123 = .ok (.iload_n 1, 1) := by decide +kernel
theorem dX7_readLines_124 : decode cX7_readLines 124 = .ok (.ireturn, 1) := by decide +kernel
theorem dX7_nameOfLine_0 : decode cX7_nameOfLine 0 = .ok (.iload_n 0, 1) := by decide +kernel
theorem dX7_nameOfLine_1 : decode cX7_nameOfLine 1 = .ok (.tableswitch 85 0 9 #[55, 58, 61, 64, 67, 70, 73, 76, 79, 82], 55) := by decide +kernel
theorem dX7_nameOfLine_56 : decode cX7_nameOfLine 56 = .ok (.ldc 76, 2) := by decide +kernel
theorem dX7_nameOfLine_58 : decode cX7_nameOfLine 58 = .ok (.areturn, 1) := by decide +kernel
theorem dX7_nameOfLine_59 : decode cX7_nameOfLine 59 = .ok (.ldc 78, 2) := by decide +kernel
theorem dX7_nameOfLine_61 : decode cX7_nameOfLine 61 = .ok (.areturn, 1) := by decide +kernel
theorem dX7_nameOfLine_62 : decode cX7_nameOfLine 62 = .ok (.ldc 80, 2) := by decide +kernel
theorem dX7_nameOfLine_64 : decode cX7_nameOfLine 64 = .ok (.areturn, 1) := by decide +kernel
theorem dX7_nameOfLine_65 : decode cX7_nameOfLine 65 = .ok (.ldc 82, 2) := by decide +kernel
theorem dX7_nameOfLine_67 : decode cX7_nameOfLine 67 = .ok (.areturn, 1) := by decide +kernel
theorem dX7_nameOfLine_68 : decode cX7_nameOfLine 68 = .ok (.ldc 84, 2) := by decide +kernel
theorem dX7_nameOfLine_70 : decode cX7_nameOfLine 70 = .ok (.areturn, 1) := by decide +kernel
theorem dX7_nameOfLine_71 : decode cX7_nameOfLine 71 = .ok (.ldc 85, 2) := by decide +kernel
theorem dX7_nameOfLine_73 : decode cX7_nameOfLine 73 = .ok (.areturn, 1) := by decide +kernel
theorem dX7_nameOfLine_74 : decode cX7_nameOfLine 74 = .ok (.ldc 87, 2) := by decide +kernel
theorem dX7_nameOfLine_76 : decode cX7_nameOfLine 76 = .ok (.areturn, 1) := by decide +kernel
theorem dX7_nameOfLine_77 : decode cX7_nameOfLine 77 = .ok (.ldc 89, 2) := by decide +kernel
theorem dX7_nameOfLine_79 : decode cX7_nameOfLine 79 = .ok (.areturn, 1) := by decide +kernel
theorem dX7_nameOfLine_80 : decode cX7_nameOfLine 80 = .ok (.ldc 91, 2) := by decide +kernel
theorem dX7_nameOfLine_82 : decode cX7_nameOfLine 82 = .ok (.areturn, 1) := by decide +kernel
theorem dX7_nameOfLine_83 : decode cX7_nameOfLine 83 = .ok (.ldc 93, 2) := by decide +kernel
theorem dX7_nameOfLine_85 : decode cX7_nameOfLine 85 = .ok (.areturn, 1) := by decide +kernel
theorem dX7_nameOfLine_86 : decode cX7_nameOfLine 86 = .ok (.ldc 95, 2) := by decide +kernel
theorem dX7_nameOfLine_88 : decode cX7_nameOfLine 88 = .ok (.areturn, 1) := by decide +kernel
theorem dX7_nameOfKind_0 : decode cX7_nameOfKind 0 = .ok (.iload_n 0, 1) := by decide +kernel
theorem dX7_nameOfKind_1 : decode cX7_nameOfKind 1 = .ok (.tableswitch 43 0 3 #[31, 34, 37, 40], 31) := by decide +kernel
theorem dX7_nameOfKind_32 : decode cX7_nameOfKind 32 = .ok (.ldc 97, 2) := by decide +kernel
theorem dX7_nameOfKind_34 : decode cX7_nameOfKind 34 = .ok (.areturn, 1) := by decide +kernel
theorem dX7_nameOfKind_35 : decode cX7_nameOfKind 35 = .ok (.ldc 99, 2) := by decide +kernel
theorem dX7_nameOfKind_37 : decode cX7_nameOfKind 37 = .ok (.areturn, 1) := by decide +kernel
theorem dX7_nameOfKind_38 : decode cX7_nameOfKind 38 = .ok (.ldc 101, 2) := by decide +kernel
theorem dX7_nameOfKind_40 : decode cX7_nameOfKind 40 = .ok (.areturn, 1) := by decide +kernel
theorem dX7_nameOfKind_41 : decode cX7_nameOfKind 41 = .ok (.ldc 103, 2) := by decide +kernel
theorem dX7_nameOfKind_43 : decode cX7_nameOfKind 43 = .ok (.areturn, 1) := by decide +kernel
theorem dX7_nameOfKind_44 : decode cX7_nameOfKind 44 = .ok (.ldc 105, 2) := by decide +kernel
theorem dX7_nameOfKind_46 : decode cX7_nameOfKind 46 = .ok (.areturn, 1) := by decide +kernel
theorem dX7_lineBegun_0 : decode cX7_lineBegun 0 = .ok (.iconst 0, 1) := by decide +kernel
theorem dX7_lineBegun_1 : decode cX7_lineBegun 1 = .ok (.istore_n 1, 1) := by decide +kernel
theorem dX7_lineBegun_2 : decode cX7_lineBegun 2 = .ok (.iload_n 1, 1) := by decide +kernel
theorem dX7_lineBegun_3 : decode cX7_lineBegun 3 = .ok (.bipush 11, 2) := by decide +kernel
theorem dX7_lineBegun_5 : decode cX7_lineBegun 5 = .ok (.if_icmp .ge 25, 3) := by decide +kernel
theorem dX7_lineBegun_8 : decode cX7_lineBegun 8 = .ok (.aload_n 0, 1) := by decide +kernel
theorem dX7_lineBegun_9 : decode cX7_lineBegun 9 = .ok (.getfield 21, 3) := by decide +kernel
theorem dX7_lineBegun_12 : decode cX7_lineBegun 12 = .ok (.iload_n 1, 1) := by decide +kernel
theorem dX7_lineBegun_13 : decode cX7_lineBegun 13 = .ok (.invokestatic 107, 3) := by decide +kernel
theorem dX7_lineBegun_16 : decode cX7_lineBegun 16 = .ok (.invokevirtual 111, 3) := by decide +kernel
theorem dX7_lineBegun_19 : decode cX7_lineBegun 19 = .ok (.ifCond .eq 5, 3) := by decide +kernel
theorem dX7_lineBegun_22 : decode cX7_lineBegun 22 = .ok (.iload_n 1, 1) := by decide +kernel
theorem dX7_lineBegun_23 : decode cX7_lineBegun 23 = .ok (.ireturn, 1) := by decide +kernel
theorem dX7_lineBegun_24 : decode cX7_lineBegun 24 = .ok (.iinc 1 1, 3) := by decide +kernel
theorem dX7_lineBegun_27 : decode cX7_lineBegun 27 = .ok (.goto (-25), 3) := by decide +kernel
theorem dX7_lineBegun_30 : decode cX7_lineBegun 30 = .ok (.bipush (-4), 2) := by decide +kernel
theorem dX7_lineBegun_32 : decode cX7_lineBegun 32 = .ok (.ireturn, 1) := by decide +kernel
theorem dX7_readLine_0 : decode cX7_readLine 0 = .ok (.iload_n 1, 1) := by decide +kernel
theorem dX7_readLine_1 : decode cX7_readLine 1 = .ok (.tableswitch 113 0 10 #[59, 59, 59, 59, 59, 67, 74, 82, 90, 98, 106], 59) := by decide +kernel
theorem dX7_readLine_60 : decode cX7_readLine 60 = .ok (.aload_n 0, 1) := by decide +kernel
theorem dX7_readLine_61 : decode cX7_readLine 61 = .ok (.iload_n 1, 1) := by decide +kernel
theorem dX7_readLine_62 : decode cX7_readLine 62 = .ok (.invokevirtual 115, 3) := by decide +kernel
theorem dX7_readLine_65 : decode cX7_readLine 65 = .ok (.goto 54, 3) := by decide +kernel
theorem dX7_readLine_68 : decode cX7_readLine 68 = .ok (.aload_n 0, 1) := by decide +kernel
theorem dX7_readLine_69 : decode cX7_readLine 69 = .ok (.invokevirtual 118, 3) := by decide +kernel
theorem dX7_readLine_72 : decode cX7_readLine 72 = .ok (.goto 47, 3) := by decide +kernel
theorem dX7_readLine_75 : decode cX7_readLine 75 = .ok (.aload_n 0, 1) := by decide +kernel
theorem dX7_readLine_76 : decode cX7_readLine 76 = .ok (.iconst 1, 1) := by decide +kernel
theorem dX7_readLine_77 : decode cX7_readLine 77 = .ok (.invokevirtual 121, 3) := by decide +kernel
theorem dX7_readLine_80 : decode cX7_readLine 80 = .ok (.goto 39, 3) := by decide +kernel
theorem dX7_readLine_83 : decode cX7_readLine 83 = .ok (.aload_n 0, 1) := by decide +kernel
theorem dX7_readLine_84 : decode cX7_readLine 84 = .ok (.iconst 2, 1) := by decide +kernel
theorem dX7_readLine_85 : decode cX7_readLine 85 = .ok (.invokevirtual 121, 3) := by decide +kernel
theorem dX7_readLine_88 : decode cX7_readLine 88 = .ok (.goto 31, 3) := by decide +kernel
theorem dX7_readLine_91 : decode cX7_readLine 91 = .ok (.aload_n 0, 1) := by decide +kernel
theorem dX7_readLine_92 : decode cX7_readLine 92 = .ok (.iconst 1, 1) := by decide +kernel
theorem dX7_readLine_93 : decode cX7_readLine 93 = .ok (.invokevirtual 124, 3) := by decide +kernel
theorem dX7_readLine_96 : decode cX7_readLine 96 = .ok (.goto 23, 3) := by decide +kernel
theorem dX7_readLine_99 : decode cX7_readLine 99 = .ok (.aload_n 0, 1) := by decide +kernel
theorem dX7_readLine_100 : decode cX7_readLine 100 = .ok (.iconst 0, 1) := by decide +kernel
theorem dX7_readLine_101 : decode cX7_readLine 101 = .ok (.invokevirtual 124, 3) := by decide +kernel
theorem dX7_readLine_104 : decode cX7_readLine 104 = .ok (.goto 15, 3) := by decide +kernel
theorem dX7_readLine_107 : decode cX7_readLine 107 = .ok (.aload_n 0, 1) := by decide +kernel
theorem dX7_readLine_108 : decode cX7_readLine 108 = .ok (.invokevirtual 127, 3) := by decide +kernel
theorem dX7_readLine_111 : decode cX7_readLine 111 = .ok (.goto 8, 3) := by decide +kernel
theorem dX7_readLine_114 : decode cX7_readLine 114 = .ok (.aload_n 0, 1) := by decide +kernel
theorem dX7_readLine_115 : decode cX7_readLine 115 = .ok (.iconst 2, 1) := by decide +kernel
theorem dX7_readLine_116 : decode cX7_readLine 116 = .ok (.invokevirtual 130, 3) := by decide +kernel
theorem dX7_readLine_119 : decode cX7_readLine 119 = .ok (.return_, 1) := by decide +kernel
theorem dX7_readRule_0 : decode cX7_readRule 0 = .ok (.aload_n 0, 1) := by decide +kernel
theorem dX7_readRule_1 : decode cX7_readRule 1 = .ok (.getfield 25, 3) := by decide +kernel
theorem dX7_readRule_4 : decode cX7_readRule 4 = .ok (.iload_n 1, 1) := by decide +kernel
theorem dX7_readRule_5 : decode cX7_readRule 5 = .ok (.invokestatic 133, 3) := by decide +kernel
theorem dX7_readRule_8 : decode cX7_readRule 8 = .ok (.iconst 1, 1) := by decide +kernel
theorem dX7_readRule_9 : decode cX7_readRule 9 = .ok (.if_icmp .ne 8, 3) := by decide +kernel
theorem dX7_readRule_12 : decode cX7_readRule 12 = .ok (.aload_n 0, 1) := by decide +kernel
theorem dX7_readRule_13 : decode cX7_readRule 13 = .ok (.iconst 4, 1) := by decide +kernel
theorem dX7_readRule_14 : decode cX7_readRule 14 = .ok (.invokevirtual 130, 3) := by decide +kernel
theorem dX7_readRule_17 : decode cX7_readRule 17 = .ok (.aload_n 0, 1) := by decide +kernel
theorem dX7_readRule_18 : decode cX7_readRule 18 = .ok (.dup, 1) := by decide +kernel
theorem dX7_readRule_19 : decode cX7_readRule 19 = .ok (.getfield 25, 3) := by decide +kernel
theorem dX7_readRule_22 : decode cX7_readRule 22 = .ok (.iconst 1, 1) := by decide +kernel
theorem dX7_readRule_23 : decode cX7_readRule 23 = .ok (.iload_n 1, 1) := by decide +kernel
theorem dX7_readRule_24 : decode cX7_readRule 24 = .ok (.ishl, 1) := by decide +kernel
theorem dX7_readRule_25 : decode cX7_readRule 25 = .ok (.ior, 1) := by decide +kernel
theorem dX7_readRule_26 : decode cX7_readRule 26 = .ok (.putfield 25, 3) := by decide +kernel
theorem dX7_readRule_29 : decode cX7_readRule 29 = .ok (.iload_n 1, 1) := by decide +kernel
theorem dX7_readRule_30 : decode cX7_readRule 30 = .ok (.tableswitch 112 0 3 #[30, 61, 78, 95], 30) := by decide +kernel
theorem dX7_readRule_60 : decode cX7_readRule 60 = .ok (.aload_n 0, 1) := by decide +kernel
theorem dX7_readRule_61 : decode cX7_readRule 61 = .ok (.getfield 12, 3) := by decide +kernel
theorem dX7_readRule_64 : decode cX7_readRule 64 = .ok (.aload_n 0, 1) := by decide +kernel
theorem dX7_readRule_65 : decode cX7_readRule 65 = .ok (.iconst 3, 1) := by decide +kernel
theorem dX7_readRule_66 : decode cX7_readRule 66 = .ok (.bipush 9, 2) := by decide +kernel
theorem dX7_readRule_68 : decode cX7_readRule 68 = .ok (.invokevirtual 136, 3) := by decide +kernel
theorem dX7_readRule_71 : decode cX7_readRule 71 = .ok (.putfield 139, 3) := by decide +kernel
theorem dX7_readRule_74 : decode cX7_readRule 74 = .ok (.aload_n 0, 1) := by decide +kernel
theorem dX7_readRule_75 : decode cX7_readRule 75 = .ok (.getfield 12, 3) := by decide +kernel
theorem dX7_readRule_78 : decode cX7_readRule 78 = .ok (.aload_n 0, 1) := by decide +kernel
theorem dX7_readRule_79 : decode cX7_readRule 79 = .ok (.iconst 3, 1) := by decide +kernel
theorem dX7_readRule_80 : decode cX7_readRule 80 = .ok (.bipush 9, 2) := by decide +kernel
theorem dX7_readRule_82 : decode cX7_readRule 82 = .ok (.invokevirtual 136, 3) := by decide +kernel
theorem dX7_readRule_85 : decode cX7_readRule 85 = .ok (.putfield 142, 3) := by decide +kernel
theorem dX7_readRule_88 : decode cX7_readRule 88 = .ok (.goto 65, 3) := by decide +kernel
theorem dX7_readRule_91 : decode cX7_readRule 91 = .ok (.aload_n 0, 1) := by decide +kernel
theorem dX7_readRule_92 : decode cX7_readRule 92 = .ok (.getfield 12, 3) := by decide +kernel
theorem dX7_readRule_95 : decode cX7_readRule 95 = .ok (.aload_n 0, 1) := by decide +kernel
theorem dX7_readRule_96 : decode cX7_readRule 96 = .ok (.iconst 0, 1) := by decide +kernel
theorem dX7_readRule_97 : decode cX7_readRule 97 = .ok (.bipush 20, 2) := by decide +kernel
theorem dX7_readRule_99 : decode cX7_readRule 99 = .ok (.invokevirtual 136, 3) := by decide +kernel
theorem dX7_readRule_102 : decode cX7_readRule 102 = .ok (.putfield 145, 3) := by decide +kernel
theorem dX7_readRule_105 : decode cX7_readRule 105 = .ok (.goto 48, 3) := by decide +kernel
theorem dX7_readRule_108 : decode cX7_readRule 108 = .ok (.aload_n 0, 1) := by decide +kernel
theorem dX7_readRule_109 : decode cX7_readRule 109 = .ok (.getfield 12, 3) := by decide +kernel
theorem dX7_readRule_112 : decode cX7_readRule 112 = .ok (.aload_n 0, 1) := by decide +kernel
theorem dX7_readRule_113 : decode cX7_readRule 113 = .ok (.iconst 0, 1) := by decide +kernel
theorem dX7_readRule_114 : decode cX7_readRule 114 = .ok (.bipush 50, 2) := by decide +kernel
theorem dX7_readRule_116 : decode cX7_readRule 116 = .ok (.invokevirtual 136, 3) := by decide +kernel
theorem dX7_readRule_119 : decode cX7_readRule 119 = .ok (.putfield 147, 3) := by decide +kernel
theorem dX7_readRule_122 : decode cX7_readRule 122 = .ok (.goto 31, 3) := by decide +kernel
theorem dX7_readRule_125 : decode cX7_readRule 125 = .ok (.aload_n 0, 1) := by decide +kernel
theorem dX7_readRule_126 : decode cX7_readRule 126 = .ok (.getfield 12, 3) := by decide +kernel
theorem dX7_readRule_129 : decode cX7_readRule 129 = .ok (.aload_n 0, 1) := by decide +kernel
theorem dX7_readRule_130 : decode cX7_readRule 130 = .ok (.iconst 0, 1) := by decide +kernel
theorem dX7_readRule_131 : decode cX7_readRule 131 = .ok (.bipush 9, 2) := by decide +kernel
theorem dX7_readRule_133 : decode cX7_readRule 133 = .ok (.invokevirtual 136, 3) := by decide +kernel
theorem dX7_readRule_136 : decode cX7_readRule 136 = .ok (.putfield 149, 3) := by decide +kernel
theorem dX7_readRule_139 : decode cX7_readRule 139 = .ok (.goto 14, 3) := by decide +kernel
theorem dX7_readRule_142 : decode cX7_readRule 142 = .ok (.aload_n 0, 1) := by decide +kernel
theorem dX7_readRule_143 : decode cX7_readRule 143 = .ok (.aload_n 0, 1) := by decide +kernel
theorem dX7_readRule_144 : decode cX7_readRule 144 = .ok (.iconst 0, 1) := by decide +kernel
theorem dX7_readRule_145 : decode cX7_readRule 145 = .ok (.bipush 6, 2) := by decide +kernel
theorem dX7_readRule_147 : decode cX7_readRule 147 = .ok (.invokevirtual 136, 3) := by decide +kernel
theorem dX7_readRule_150 : decode cX7_readRule 150 = .ok (.putfield 29, 3) := by decide +kernel
theorem dX7_readRule_153 : decode cX7_readRule 153 = .ok (.aload_n 0, 1) := by decide +kernel
theorem dX7_readRule_154 : decode cX7_readRule 154 = .ok (.invokevirtual 151, 3) := by decide +kernel
theorem dX7_readRule_157 : decode cX7_readRule 157 = .ok (.return_, 1) := by decide +kernel
theorem dX7_readBench_0 : decode cX7_readBench 0 = .ok (.aload_n 0, 1) := by decide +kernel
theorem dX7_readBench_1 : decode cX7_readBench 1 = .ok (.getfield 12, 3) := by decide +kernel
theorem dX7_readBench_4 : decode cX7_readBench 4 = .ok (.getfield 55, 3) := by decide +kernel
theorem dX7_readBench_7 : decode cX7_readBench 7 = .ok (.getfield 59, 3) := by decide +kernel
theorem dX7_readBench_10 : decode cX7_readBench 10 = .ok (.bipush 8, 2) := by decide +kernel
theorem dX7_readBench_12 : decode cX7_readBench 12 = .ok (.if_icmp .lt 8, 3) := by decide +kernel
theorem dX7_readBench_15 : decode cX7_readBench 15 = .ok (.aload_n 0, 1) := by decide +kernel
theorem dX7_readBench_16 : decode cX7_readBench 16 = .ok (.iconst 5, 1) := by decide +kernel
theorem dX7_readBench_17 : decode cX7_readBench 17 = .ok (.invokevirtual 130, 3) := by decide +kernel
theorem dX7_readBench_20 : decode cX7_readBench 20 = .ok (.aload_n 0, 1) := by decide +kernel
theorem dX7_readBench_21 : decode cX7_readBench 21 = .ok (.iconst 0, 1) := by decide +kernel
theorem dX7_readBench_22 : decode cX7_readBench 22 = .ok (.bipush 8, 2) := by decide +kernel
theorem dX7_readBench_24 : decode cX7_readBench 24 = .ok (.invokevirtual 136, 3) := by decide +kernel
theorem dX7_readBench_27 : decode cX7_readBench 27 = .ok (.istore_n 1, 1) := by decide +kernel
theorem dX7_readBench_28 : decode cX7_readBench 28 = .ok (.aload_n 0, 1) := by decide +kernel
theorem dX7_readBench_29 : decode cX7_readBench 29 = .ok (.iconst 0, 1) := by decide +kernel
theorem dX7_readBench_30 : decode cX7_readBench 30 = .ok (.bipush 8, 2) := by decide +kernel
theorem dX7_readBench_32 : decode cX7_readBench 32 = .ok (.invokevirtual 136, 3) := by decide +kernel
theorem dX7_readBench_35 : decode cX7_readBench 35 = .ok (.istore_n 2, 1) := by decide +kernel
theorem dX7_readBench_36 : decode cX7_readBench 36 = .ok (.aload_n 0, 1) := by decide +kernel
theorem dX7_readBench_37 : decode cX7_readBench 37 = .ok (.iconst 0, 1) := by decide +kernel
theorem dX7_readBench_38 : decode cX7_readBench 38 = .ok (.bipush 7, 2) := by decide +kernel
theorem dX7_readBench_40 : decode cX7_readBench 40 = .ok (.invokevirtual 136, 3) := by decide +kernel
theorem dX7_readBench_43 : decode cX7_readBench 43 = .ok (.istore_n 3, 1) := by decide +kernel
theorem dX7_readBench_44 : decode cX7_readBench 44 = .ok (.aload_n 0, 1) := by decide +kernel
theorem dX7_readBench_45 : decode cX7_readBench 45 = .ok (.iconst 1, 1) := by decide +kernel
theorem dX7_readBench_46 : decode cX7_readBench 46 = .ok (.bipush 100, 2) := by decide +kernel
theorem dX7_readBench_48 : decode cX7_readBench 48 = .ok (.invokevirtual 136, 3) := by decide +kernel
theorem dX7_readBench_51 : decode cX7_readBench 51 = .ok (.istore 4, 2) := by decide +kernel
theorem dX7_readBench_53 : decode cX7_readBench 53 = .ok (.aload_n 0, 1) := by decide +kernel
theorem dX7_readBench_54 : decode cX7_readBench 54 = .ok (.getfield 12, 3) := by decide +kernel
theorem dX7_readBench_57 : decode cX7_readBench 57 = .ok (.getfield 55, 3) := by decide +kernel
theorem dX7_readBench_60 : decode cX7_readBench 60 = .ok (.iload_n 1, 1) := by decide +kernel
theorem dX7_readBench_61 : decode cX7_readBench 61 = .ok (.iload_n 2, 1) := by decide +kernel
theorem dX7_readBench_62 : decode cX7_readBench 62 = .ok (.iload_n 3, 1) := by decide +kernel
theorem dX7_readBench_63 : decode cX7_readBench 63 = .ok (.iload 4, 2) := by decide +kernel
theorem dX7_readBench_65 : decode cX7_readBench 65 = .ok (.aload_n 0, 1) := by decide +kernel
theorem dX7_readBench_66 : decode cX7_readBench 66 = .ok (.invokevirtual 154, 3) := by decide +kernel
theorem dX7_readBench_69 : decode cX7_readBench 69 = .ok (.invokevirtual 157, 3) := by decide +kernel
theorem dX7_readBench_72 : decode cX7_readBench 72 = .ok (.aload_n 0, 1) := by decide +kernel
theorem dX7_readBench_73 : decode cX7_readBench 73 = .ok (.invokevirtual 161, 3) := by decide +kernel
theorem dX7_readBench_76 : decode cX7_readBench 76 = .ok (.return_, 1) := by decide +kernel
theorem dX7_readDeafCell_0 : decode cX7_readDeafCell 0 = .ok (.aload_n 0, 1) := by decide +kernel
theorem dX7_readDeafCell_1 : decode cX7_readDeafCell 1 = .ok (.iconst 0, 1) := by decide +kernel
theorem dX7_readDeafCell_2 : decode cX7_readDeafCell 2 = .ok (.bipush 8, 2) := by decide +kernel
theorem dX7_readDeafCell_4 : decode cX7_readDeafCell 4 = .ok (.invokevirtual 136, 3) := by decide +kernel
theorem dX7_readDeafCell_7 : decode cX7_readDeafCell 7 = .ok (.istore_n 2, 1) := by decide +kernel
theorem dX7_readDeafCell_8 : decode cX7_readDeafCell 8 = .ok (.aload_n 0, 1) := by decide +kernel
theorem dX7_readDeafCell_9 : decode cX7_readDeafCell 9 = .ok (.iconst 0, 1) := by decide +kernel
theorem dX7_readDeafCell_10 : decode cX7_readDeafCell 10 = .ok (.bipush 8, 2) := by decide +kernel
theorem dX7_readDeafCell_12 : decode cX7_readDeafCell 12 = .ok (.invokevirtual 136, 3) := by decide +kernel
theorem dX7_readDeafCell_15 : decode cX7_readDeafCell 15 = .ok (.istore_n 3, 1) := by decide +kernel
theorem dX7_readDeafCell_16 : decode cX7_readDeafCell 16 = .ok (.bipush 9, 2) := by decide +kernel
theorem dX7_readDeafCell_18 : decode cX7_readDeafCell 18 = .ok (.iload_n 3, 1) := by decide +kernel
theorem dX7_readDeafCell_19 : decode cX7_readDeafCell 19 = .ok (.imul, 1) := by decide +kernel
theorem dX7_readDeafCell_20 : decode cX7_readDeafCell 20 = .ok (.iload_n 2, 1) := by decide +kernel
theorem dX7_readDeafCell_21 : decode cX7_readDeafCell 21 = .ok (.iadd, 1) := by decide +kernel
theorem dX7_readDeafCell_22 : decode cX7_readDeafCell 22 = .ok (.istore 4, 2) := by decide +kernel
theorem dX7_readDeafCell_24 : decode cX7_readDeafCell 24 = .ok (.aload_n 0, 1) := by decide +kernel
theorem dX7_readDeafCell_25 : decode cX7_readDeafCell 25 = .ok (.getfield 12, 3) := by decide +kernel
theorem dX7_readDeafCell_28 : decode cX7_readDeafCell 28 = .ok (.iload 4, 2) := by decide +kernel
theorem dX7_readDeafCell_30 : decode cX7_readDeafCell 30 = .ok (.invokevirtual 164, 3) := by decide +kernel
theorem dX7_readDeafCell_33 : decode cX7_readDeafCell 33 = .ok (.ifCond .eq 8, 3) := by decide +kernel
theorem dX7_readDeafCell_36 : decode cX7_readDeafCell 36 = .ok (.aload_n 0, 1) := by decide +kernel
theorem dX7_readDeafCell_37 : decode cX7_readDeafCell 37 = .ok (.iconst 4, 1) := by decide +kernel
theorem dX7_readDeafCell_38 : decode cX7_readDeafCell 38 = .ok (.invokevirtual 130, 3) := by decide +kernel
theorem dX7_readDeafCell_41 : decode cX7_readDeafCell 41 = .ok (.aload_n 0, 1) := by decide +kernel
theorem dX7_readDeafCell_42 : decode cX7_readDeafCell 42 = .ok (.getfield 12, 3) := by decide +kernel
theorem dX7_readDeafCell_45 : decode cX7_readDeafCell 45 = .ok (.iload 4, 2) := by decide +kernel
theorem dX7_readDeafCell_47 : decode cX7_readDeafCell 47 = .ok (.iload_n 1, 1) := by decide +kernel
theorem dX7_readDeafCell_48 : decode cX7_readDeafCell 48 = .ok (.invokevirtual 168, 3) := by decide +kernel
theorem dX7_readDeafCell_51 : decode cX7_readDeafCell 51 = .ok (.aload_n 0, 1) := by decide +kernel
theorem dX7_readDeafCell_52 : decode cX7_readDeafCell 52 = .ok (.invokevirtual 151, 3) := by decide +kernel
theorem dX7_readDeafCell_55 : decode cX7_readDeafCell 55 = .ok (.return_, 1) := by decide +kernel
theorem dX7_readWant_0 : decode cX7_readWant 0 = .ok (.aload_n 0, 1) := by decide +kernel
theorem dX7_readWant_1 : decode cX7_readWant 1 = .ok (.getfield 12, 3) := by decide +kernel
theorem dX7_readWant_4 : decode cX7_readWant 4 = .ok (.getfield 172, 3) := by decide +kernel
theorem dX7_readWant_7 : decode cX7_readWant 7 = .ok (.getfield 176, 3) := by decide +kernel
theorem dX7_readWant_10 : decode cX7_readWant 10 = .ok (.bipush 8, 2) := by decide +kernel
theorem dX7_readWant_12 : decode cX7_readWant 12 = .ok (.if_icmp .lt 8, 3) := by decide +kernel
theorem dX7_readWant_15 : decode cX7_readWant 15 = .ok (.aload_n 0, 1) := by decide +kernel
theorem dX7_readWant_16 : decode cX7_readWant 16 = .ok (.iconst 5, 1) := by decide +kernel
theorem dX7_readWant_17 : decode cX7_readWant 17 = .ok (.invokevirtual 130, 3) := by decide +kernel
theorem dX7_readWant_20 : decode cX7_readWant 20 = .ok (.aload_n 0, 1) := by decide +kernel
theorem dX7_readWant_21 : decode cX7_readWant 21 = .ok (.iconst 0, 1) := by decide +kernel
theorem dX7_readWant_22 : decode cX7_readWant 22 = .ok (.iconst 5, 1) := by decide +kernel
theorem dX7_readWant_23 : decode cX7_readWant 23 = .ok (.invokevirtual 136, 3) := by decide +kernel
theorem dX7_readWant_26 : decode cX7_readWant 26 = .ok (.istore_n 2, 1) := by decide +kernel
theorem dX7_readWant_27 : decode cX7_readWant 27 = .ok (.aload_n 0, 1) := by decide +kernel
theorem dX7_readWant_28 : decode cX7_readWant 28 = .ok (.iconst 0, 1) := by decide +kernel
theorem dX7_readWant_29 : decode cX7_readWant 29 = .ok (.iconst 5, 1) := by decide +kernel
theorem dX7_readWant_30 : decode cX7_readWant 30 = .ok (.invokevirtual 136, 3) := by decide +kernel
theorem dX7_readWant_33 : decode cX7_readWant 33 = .ok (.istore_n 3, 1) := by decide +kernel
theorem dX7_readWant_34 : decode cX7_readWant 34 = .ok (.iload_n 2, 1) := by decide +kernel
theorem dX7_readWant_35 : decode cX7_readWant 35 = .ok (.iload_n 3, 1) := by decide +kernel
theorem dX7_readWant_36 : decode cX7_readWant 36 = .ok (.if_icmp .ne 8, 3) := by decide +kernel
theorem dX7_readWant_39 : decode cX7_readWant 39 = .ok (.aload_n 0, 1) := by decide +kernel
theorem dX7_readWant_40 : decode cX7_readWant 40 = .ok (.iconst 4, 1) := by decide +kernel
theorem dX7_readWant_41 : decode cX7_readWant 41 = .ok (.invokevirtual 130, 3) := by decide +kernel
theorem dX7_readWant_44 : decode cX7_readWant 44 = .ok (.aload_n 0, 1) := by decide +kernel
theorem dX7_readWant_45 : decode cX7_readWant 45 = .ok (.getfield 12, 3) := by decide +kernel
theorem dX7_readWant_48 : decode cX7_readWant 48 = .ok (.getfield 172, 3) := by decide +kernel
theorem dX7_readWant_51 : decode cX7_readWant 51 = .ok (.iload_n 2, 1) := by decide +kernel
theorem dX7_readWant_52 : decode cX7_readWant 52 = .ok (.iload_n 3, 1) := by decide +kernel
theorem dX7_readWant_53 : decode cX7_readWant 53 = .ok (.iload_n 1, 1) := by decide +kernel
theorem dX7_readWant_54 : decode cX7_readWant 54 = .ok (.invokevirtual 179, 3) := by decide +kernel
theorem dX7_readWant_57 : decode cX7_readWant 57 = .ok (.aload_n 0, 1) := by decide +kernel
theorem dX7_readWant_58 : decode cX7_readWant 58 = .ok (.invokevirtual 151, 3) := by decide +kernel
theorem dX7_readWant_61 : decode cX7_readWant 61 = .ok (.return_, 1) := by decide +kernel
theorem dX7_readWhisper_0 : decode cX7_readWhisper 0 = .ok (.aload_n 0, 1) := by decide +kernel
theorem dX7_readWhisper_1 : decode cX7_readWhisper 1 = .ok (.getfield 12, 3) := by decide +kernel
theorem dX7_readWhisper_4 : decode cX7_readWhisper 4 = .ok (.getfield 182, 3) := by decide +kernel
theorem dX7_readWhisper_7 : decode cX7_readWhisper 7 = .ok (.getfield 176, 3) := by decide +kernel
theorem dX7_readWhisper_10 : decode cX7_readWhisper 10 = .ok (.bipush 12, 2) := by decide +kernel
theorem dX7_readWhisper_12 : decode cX7_readWhisper 12 = .ok (.if_icmp .lt 8, 3) := by decide +kernel
theorem dX7_readWhisper_15 : decode cX7_readWhisper 15 = .ok (.aload_n 0, 1) := by decide +kernel
theorem dX7_readWhisper_16 : decode cX7_readWhisper 16 = .ok (.iconst 5, 1) := by decide +kernel
theorem dX7_readWhisper_17 : decode cX7_readWhisper 17 = .ok (.invokevirtual 130, 3) := by decide +kernel
theorem dX7_readWhisper_20 : decode cX7_readWhisper 20 = .ok (.aload_n 0, 1) := by decide +kernel
theorem dX7_readWhisper_21 : decode cX7_readWhisper 21 = .ok (.aload_n 0, 1) := by decide +kernel
theorem dX7_readWhisper_22 : decode cX7_readWhisper 22 = .ok (.getfield 12, 3) := by decide +kernel
theorem dX7_readWhisper_25 : decode cX7_readWhisper 25 = .ok (.invokevirtual 185, 3) := by decide +kernel
theorem dX7_readWhisper_28 : decode cX7_readWhisper 28 = .ok (.bipush 11, 2) := by decide +kernel
theorem dX7_readWhisper_30 : decode cX7_readWhisper 30 = .ok (.invokevirtual 136, 3) := by decide +kernel
theorem dX7_readWhisper_33 : decode cX7_readWhisper 33 = .ok (.istore_n 1, 1) := by decide +kernel
theorem dX7_readWhisper_34 : decode cX7_readWhisper 34 = .ok (.aload_n 0, 1) := by decide +kernel
theorem dX7_readWhisper_35 : decode cX7_readWhisper 35 = .ok (.iconst 0, 1) := by decide +kernel
theorem dX7_readWhisper_36 : decode cX7_readWhisper 36 = .ok (.iconst 5, 1) := by decide +kernel
theorem dX7_readWhisper_37 : decode cX7_readWhisper 37 = .ok (.invokevirtual 136, 3) := by decide +kernel
theorem dX7_readWhisper_40 : decode cX7_readWhisper 40 = .ok (.istore_n 2, 1) := by decide +kernel
theorem dX7_readWhisper_41 : decode cX7_readWhisper 41 = .ok (.aload_n 0, 1) := by decide +kernel
theorem dX7_readWhisper_42 : decode cX7_readWhisper 42 = .ok (.getfield 12, 3) := by decide +kernel
theorem dX7_readWhisper_45 : decode cX7_readWhisper 45 = .ok (.getfield 182, 3) := by decide +kernel
theorem dX7_readWhisper_48 : decode cX7_readWhisper 48 = .ok (.iload_n 1, 1) := by decide +kernel
theorem dX7_readWhisper_49 : decode cX7_readWhisper 49 = .ok (.iload_n 2, 1) := by decide +kernel
theorem dX7_readWhisper_50 : decode cX7_readWhisper 50 = .ok (.aload_n 0, 1) := by decide +kernel
theorem dX7_readWhisper_51 : decode cX7_readWhisper 51 = .ok (.iconst 0, 1) := by decide +kernel
theorem dX7_readWhisper_52 : decode cX7_readWhisper 52 = .ok (.bipush 7, 2) := by decide +kernel
theorem dX7_readWhisper_54 : decode cX7_readWhisper 54 = .ok (.invokevirtual 136, 3) := by decide +kernel
theorem dX7_readWhisper_57 : decode cX7_readWhisper 57 = .ok (.invokevirtual 179, 3) := by decide +kernel
theorem dX7_readWhisper_60 : decode cX7_readWhisper 60 = .ok (.aload_n 0, 1) := by decide +kernel
theorem dX7_readWhisper_61 : decode cX7_readWhisper 61 = .ok (.invokevirtual 151, 3) := by decide +kernel
theorem dX7_readWhisper_64 : decode cX7_readWhisper 64 = .ok (.return_, 1) := by decide +kernel
theorem dX7_readNumber_0 : decode cX7_readNumber 0 = .ok (.aload_n 0, 1) := by decide +kernel
theorem dX7_readNumber_1 : decode cX7_readNumber 1 = .ok (.getfield 21, 3) := by decide +kernel
theorem dX7_readNumber_4 : decode cX7_readNumber 4 = .ok (.invokevirtual 38, 3) := by decide +kernel
theorem dX7_readNumber_7 : decode cX7_readNumber 7 = .ok (.aload_n 0, 1) := by decide +kernel
theorem dX7_readNumber_8 : decode cX7_readNumber 8 = .ok (.getfield 21, 3) := by decide +kernel
theorem dX7_readNumber_11 : decode cX7_readNumber 11 = .ok (.getfield 44, 3) := by decide +kernel
theorem dX7_readNumber_14 : decode cX7_readNumber 14 = .ok (.iconst 2, 1) := by decide +kernel
theorem dX7_readNumber_15 : decode cX7_readNumber 15 = .ok (.if_icmp .eq 10, 3) := by decide +kernel
theorem dX7_readNumber_18 : decode cX7_readNumber 18 = .ok (.aload_n 0, 1) := by decide +kernel
theorem dX7_readNumber_19 : decode cX7_readNumber 19 = .ok (.iconst 2, 1) := by decide +kernel
theorem dX7_readNumber_20 : decode cX7_readNumber 20 = .ok (.invokevirtual 130, 3) := by decide +kernel
theorem dX7_readNumber_23 : decode cX7_readNumber 23 = .ok (.iload_n 1, 1) := by decide +kernel
theorem dX7_readNumber_24 : decode cX7_readNumber 24 = .ok (.ireturn, 1) := by decide +kernel
theorem dX7_readNumber_25 : decode cX7_readNumber 25 = .ok (.aload_n 0, 1) := by decide +kernel
theorem dX7_readNumber_26 : decode cX7_readNumber 26 = .ok (.getfield 21, 3) := by decide +kernel
theorem dX7_readNumber_29 : decode cX7_readNumber 29 = .ok (.getfield 188, 3) := by decide +kernel
theorem dX7_readNumber_32 : decode cX7_readNumber 32 = .ok (.iload_n 1, 1) := by decide +kernel
theorem dX7_readNumber_33 : decode cX7_readNumber 33 = .ok (.iload_n 2, 1) := by decide +kernel
theorem dX7_readNumber_34 : decode cX7_readNumber 34 = .ok (.invokestatic 191, 3) := by decide +kernel
theorem dX7_readNumber_37 : decode cX7_readNumber 37 = .ok (.ifCond .ne 10, 3) := by decide +kernel
theorem dX7_readNumber_40 : decode cX7_readNumber 40 = .ok (.aload_n 0, 1) := by decide +kernel
theorem dX7_readNumber_41 : decode cX7_readNumber 41 = .ok (.iconst 3, 1) := by decide +kernel
theorem dX7_readNumber_42 : decode cX7_readNumber 42 = .ok (.invokevirtual 130, 3) := by decide +kernel
theorem dX7_readNumber_45 : decode cX7_readNumber 45 = .ok (.iload_n 1, 1) := by decide +kernel
theorem dX7_readNumber_46 : decode cX7_readNumber 46 = .ok (.ireturn, 1) := by decide +kernel
theorem dX7_readNumber_47 : decode cX7_readNumber 47 = .ok (.aload_n 0, 1) := by decide +kernel
theorem dX7_readNumber_48 : decode cX7_readNumber 48 = .ok (.getfield 21, 3) := by decide +kernel
theorem dX7_readNumber_51 : decode cX7_readNumber 51 = .ok (.getfield 188, 3) := by decide +kernel
theorem dX7_readNumber_54 : decode cX7_readNumber 54 = .ok (.ireturn, 1) := by decide +kernel
theorem dX7_readKind_0 : decode cX7_readKind 0 = .ok (.aload_n 0, 1) := by decide +kernel
theorem dX7_readKind_1 : decode cX7_readKind 1 = .ok (.getfield 21, 3) := by decide +kernel
theorem dX7_readKind_4 : decode cX7_readKind 4 = .ok (.invokevirtual 38, 3) := by decide +kernel
theorem dX7_readKind_7 : decode cX7_readKind 7 = .ok (.iconst 0, 1) := by decide +kernel
theorem dX7_readKind_8 : decode cX7_readKind 8 = .ok (.istore_n 1, 1) := by decide +kernel
theorem dX7_readKind_9 : decode cX7_readKind 9 = .ok (.iload_n 1, 1) := by decide +kernel
theorem dX7_readKind_10 : decode cX7_readKind 10 = .ok (.iconst 4, 1) := by decide +kernel
theorem dX7_readKind_11 : decode cX7_readKind 11 = .ok (.if_icmp .gt 32, 3) := by decide +kernel
theorem dX7_readKind_14 : decode cX7_readKind 14 = .ok (.aload_n 0, 1) := by decide +kernel
theorem dX7_readKind_15 : decode cX7_readKind 15 = .ok (.getfield 21, 3) := by decide +kernel
theorem dX7_readKind_18 : decode cX7_readKind 18 = .ok (.iload_n 1, 1) := by decide +kernel
theorem dX7_readKind_19 : decode cX7_readKind 19 = .ok (.invokestatic 195, 3) := by decide +kernel
theorem dX7_readKind_22 : decode cX7_readKind 22 = .ok (.invokevirtual 111, 3) := by decide +kernel
theorem dX7_readKind_25 : decode cX7_readKind 25 = .ok (.ifCond .eq 12, 3) := by decide +kernel
theorem dX7_readKind_28 : decode cX7_readKind 28 = .ok (.aload_n 0, 1) := by decide +kernel
theorem dX7_readKind_29 : decode cX7_readKind 29 = .ok (.getfield 21, 3) := by decide +kernel
theorem dX7_readKind_32 : decode cX7_readKind 32 = .ok (.invokevirtual 38, 3) := by decide +kernel
theorem dX7_readKind_35 : decode cX7_readKind 35 = .ok (.iload_n 1, 1) := by decide +kernel
theorem dX7_readKind_36 : decode cX7_readKind 36 = .ok (.ireturn, 1) := by decide +kernel
theorem dX7_readKind_37 : decode cX7_readKind 37 = .ok (.iinc 1 1, 3) := by decide +kernel
theorem dX7_readKind_40 : decode cX7_readKind 40 = .ok (.goto (-31), 3) := by decide +kernel
theorem dX7_readKind_43 : decode cX7_readKind 43 = .ok (.iconst 0, 1) := by decide +kernel
theorem dX7_readKind_44 : decode cX7_readKind 44 = .ok (.ireturn, 1) := by decide +kernel
theorem dX7_readSign_0 : decode cX7_readSign 0 = .ok (.aload_n 0, 1) := by decide +kernel
theorem dX7_readSign_1 : decode cX7_readSign 1 = .ok (.getfield 21, 3) := by decide +kernel
theorem dX7_readSign_4 : decode cX7_readSign 4 = .ok (.invokevirtual 38, 3) := by decide +kernel
theorem dX7_readSign_7 : decode cX7_readSign 7 = .ok (.aload_n 0, 1) := by decide +kernel
theorem dX7_readSign_8 : decode cX7_readSign 8 = .ok (.invokevirtual 161, 3) := by decide +kernel
theorem dX7_readSign_11 : decode cX7_readSign 11 = .ok (.return_, 1) := by decide +kernel
theorem dX7_requireSign_0 : decode cX7_requireSign 0 = .ok (.aload_n 0, 1) := by decide +kernel
theorem dX7_requireSign_1 : decode cX7_requireSign 1 = .ok (.getfield 21, 3) := by decide +kernel
theorem dX7_requireSign_4 : decode cX7_requireSign 4 = .ok (.getfield 44, 3) := by decide +kernel
theorem dX7_requireSign_7 : decode cX7_requireSign 7 = .ok (.iconst 3, 1) := by decide +kernel
theorem dX7_requireSign_8 : decode cX7_requireSign 8 = .ok (.if_icmp .eq 8, 3) := by decide +kernel
theorem dX7_requireSign_11 : decode cX7_requireSign 11 = .ok (.aload_n 0, 1) := by decide +kernel
theorem dX7_requireSign_12 : decode cX7_requireSign 12 = .ok (.iconst 2, 1) := by decide +kernel
theorem dX7_requireSign_13 : decode cX7_requireSign 13 = .ok (.invokevirtual 130, 3) := by decide +kernel
theorem dX7_requireSign_16 : decode cX7_requireSign 16 = .ok (.return_, 1) := by decide +kernel
theorem dX7_failHere_0 : decode cX7_failHere 0 = .ok (.aload_n 0, 1) := by decide +kernel
theorem dX7_failHere_1 : decode cX7_failHere 1 = .ok (.getfield 21, 3) := by decide +kernel
theorem dX7_failHere_4 : decode cX7_failHere 4 = .ok (.iload_n 1, 1) := by decide +kernel
theorem dX7_failHere_5 : decode cX7_failHere 5 = .ok (.aload_n 0, 1) := by decide +kernel
theorem dX7_failHere_6 : decode cX7_failHere 6 = .ok (.getfield 21, 3) := by decide +kernel
theorem dX7_failHere_9 : decode cX7_failHere 9 = .ok (.getfield 198, 3) := by decide +kernel
theorem dX7_failHere_12 : decode cX7_failHere 12 = .ok (.invokevirtual 201, 3) := by decide +kernel
theorem dX7_failHere_15 : decode cX7_failHere 15 = .ok (.return_, 1) := by decide +kernel
theorem dX7_checkAll_0 : decode cX7_checkAll 0 = .ok (.aload_n 0, 1) := by decide +kernel
theorem dX7_checkAll_1 : decode cX7_checkAll 1 = .ok (.invokevirtual 204, 3) := by decide +kernel
theorem dX7_checkAll_4 : decode cX7_checkAll 4 = .ok (.ifCond .ne 30, 3) := by decide +kernel
theorem dX7_checkAll_7 : decode cX7_checkAll 7 = .ok (.aload_n 0, 1) := by decide +kernel
theorem dX7_checkAll_8 : decode cX7_checkAll 8 = .ok (.invokevirtual 208, 3) := by decide +kernel
theorem dX7_checkAll_11 : decode cX7_checkAll 11 = .ok (.ifCond .ne 23, 3) := by decide +kernel
theorem dX7_checkAll_14 : decode cX7_checkAll 14 = .ok (.aload_n 0, 1) := by decide +kernel
theorem dX7_checkAll_15 : decode cX7_checkAll 15 = .ok (.getfield 12, 3) := by decide +kernel
theorem dX7_checkAll_18 : decode cX7_checkAll 18 = .ok (.getfield 70, 3) := by decide +kernel
theorem dX7_checkAll_21 : decode cX7_checkAll 21 = .ok (.aload_n 0, 1) := by decide +kernel
theorem dX7_checkAll_22 : decode cX7_checkAll 22 = .ok (.getfield 12, 3) := by decide +kernel
theorem dX7_checkAll_25 : decode cX7_checkAll 25 = .ok (.getfield 55, 3) := by decide +kernel
theorem dX7_checkAll_28 : decode cX7_checkAll 28 = .ok (.getfield 59, 3) := by decide +kernel
theorem dX7_checkAll_31 : decode cX7_checkAll 31 = .ok (.if_icmp .le 19, 3) := by decide +kernel
theorem dX7_checkAll_34 : decode cX7_checkAll 34 = .ok (.aload_n 0, 1) := by decide +kernel
theorem dX7_checkAll_35 : decode cX7_checkAll 35 = .ok (.getfield 21, 3) := by decide +kernel
theorem dX7_checkAll_38 : decode cX7_checkAll 38 = .ok (.bipush 6, 2) := by decide +kernel
theorem dX7_checkAll_40 : decode cX7_checkAll 40 = .ok (.aload_n 0, 1) := by decide +kernel
theorem dX7_checkAll_41 : decode cX7_checkAll 41 = .ok (.getfield 21, 3) := by decide +kernel
theorem dX7_checkAll_44 : decode cX7_checkAll 44 = .ok (.getfield 211, 3) := by decide +kernel
theorem dX7_checkAll_47 : decode cX7_checkAll 47 = .ok (.invokevirtual 201, 3) := by decide +kernel
theorem dX7_checkAll_50 : decode cX7_checkAll 50 = .ok (.iconst 0, 1) := by decide +kernel
theorem dX7_checkAll_51 : decode cX7_checkAll 51 = .ok (.istore_n 1, 1) := by decide +kernel
theorem dX7_checkAll_52 : decode cX7_checkAll 52 = .ok (.iload_n 1, 1) := by decide +kernel
theorem dX7_checkAll_53 : decode cX7_checkAll 53 = .ok (.bipush 81, 2) := by decide +kernel
theorem dX7_checkAll_55 : decode cX7_checkAll 55 = .ok (.if_icmp .ge 50, 3) := by decide +kernel
theorem dX7_checkAll_58 : decode cX7_checkAll 58 = .ok (.aload_n 0, 1) := by decide +kernel
theorem dX7_checkAll_59 : decode cX7_checkAll 59 = .ok (.getfield 12, 3) := by decide +kernel
theorem dX7_checkAll_62 : decode cX7_checkAll 62 = .ok (.iload_n 1, 1) := by decide +kernel
theorem dX7_checkAll_63 : decode cX7_checkAll 63 = .ok (.invokevirtual 164, 3) := by decide +kernel
theorem dX7_checkAll_66 : decode cX7_checkAll 66 = .ok (.ifCond .eq 33, 3) := by decide +kernel
theorem dX7_checkAll_69 : decode cX7_checkAll 69 = .ok (.aload_n 0, 1) := by decide +kernel
theorem dX7_checkAll_70 : decode cX7_checkAll 70 = .ok (.getfield 12, 3) := by decide +kernel
theorem dX7_checkAll_73 : decode cX7_checkAll 73 = .ok (.getfield 55, 3) := by decide +kernel
theorem dX7_checkAll_76 : decode cX7_checkAll 76 = .ok (.iload_n 1, 1) := by decide +kernel
theorem dX7_checkAll_77 : decode cX7_checkAll 77 = .ok (.invokevirtual 214, 3) := by decide +kernel
theorem dX7_checkAll_80 : decode cX7_checkAll 80 = .ok (.ifCond .eq 19, 3) := by decide +kernel
theorem dX7_checkAll_83 : decode cX7_checkAll 83 = .ok (.aload_n 0, 1) := by decide +kernel
theorem dX7_checkAll_84 : decode cX7_checkAll 84 = .ok (.getfield 21, 3) := by decide +kernel
theorem dX7_checkAll_87 : decode cX7_checkAll 87 = .ok (.bipush 7, 2) := by decide +kernel
theorem dX7_checkAll_89 : decode cX7_checkAll 89 = .ok (.aload_n 0, 1) := by decide +kernel
theorem dX7_checkAll_90 : decode cX7_checkAll 90 = .ok (.getfield 21, 3) := by decide +kernel
theorem dX7_checkAll_93 : decode cX7_checkAll 93 = .ok (.getfield 211, 3) := by decide +kernel
theorem dX7_checkAll_96 : decode cX7_checkAll 96 = .ok (.invokevirtual 201, 3) := by decide +kernel
theorem dX7_checkAll_99 : decode cX7_checkAll 99 = .ok (.iinc 1 1, 3) := by decide +kernel
theorem dX7_checkAll_102 : decode cX7_checkAll 102 = .ok (.goto (-50), 3) := by decide +kernel
theorem dX7_checkAll_105 : decode cX7_checkAll 105 = .ok (.return_, 1) := by decide +kernel
theorem dX7_anyCellMissing_0 : decode cX7_anyCellMissing 0 = .ok (.iconst 0, 1) := by decide +kernel
theorem dX7_anyCellMissing_1 : decode cX7_anyCellMissing 1 = .ok (.istore_n 1, 1) := by decide +kernel
theorem dX7_anyCellMissing_2 : decode cX7_anyCellMissing 2 = .ok (.iload_n 1, 1) := by decide +kernel
theorem dX7_anyCellMissing_3 : decode cX7_anyCellMissing 3 = .ok (.bipush 81, 2) := by decide +kernel
theorem dX7_anyCellMissing_5 : decode cX7_anyCellMissing 5 = .ok (.if_icmp .ge 47, 3) := by decide +kernel
theorem dX7_anyCellMissing_8 : decode cX7_anyCellMissing 8 = .ok (.aload_n 0, 1) := by decide +kernel
theorem dX7_anyCellMissing_9 : decode cX7_anyCellMissing 9 = .ok (.getfield 12, 3) := by decide +kernel
theorem dX7_anyCellMissing_12 : decode cX7_anyCellMissing 12 = .ok (.iload_n 1, 1) := by decide +kernel
theorem dX7_anyCellMissing_13 : decode cX7_anyCellMissing 13 = .ok (.invokevirtual 218, 3) := by decide +kernel
theorem dX7_anyCellMissing_16 : decode cX7_anyCellMissing 16 = .ok (.ifCond .ne 30, 3) := by decide +kernel
theorem dX7_anyCellMissing_19 : decode cX7_anyCellMissing 19 = .ok (.aload_n 0, 1) := by decide +kernel
theorem dX7_anyCellMissing_20 : decode cX7_anyCellMissing 20 = .ok (.getfield 12, 3) := by decide +kernel
theorem dX7_anyCellMissing_23 : decode cX7_anyCellMissing 23 = .ok (.iload_n 1, 1) := by decide +kernel
theorem dX7_anyCellMissing_24 : decode cX7_anyCellMissing 24 = .ok (.invokevirtual 164, 3) := by decide +kernel
theorem dX7_anyCellMissing_27 : decode cX7_anyCellMissing 27 = .ok (.ifCond .ne 17, 3) := by decide +kernel
theorem dX7_anyCellMissing_30 : decode cX7_anyCellMissing 30 = .ok (.aload_n 0, 1) := by decide +kernel
theorem dX7_anyCellMissing_31 : decode cX7_anyCellMissing 31 = .ok (.getfield 12, 3) := by decide +kernel
theorem dX7_anyCellMissing_34 : decode cX7_anyCellMissing 34 = .ok (.getfield 55, 3) := by decide +kernel
theorem dX7_anyCellMissing_37 : decode cX7_anyCellMissing 37 = .ok (.iload_n 1, 1) := by decide +kernel
theorem dX7_anyCellMissing_38 : decode cX7_anyCellMissing 38 = .ok (.invokevirtual 214, 3) := by decide +kernel
theorem dX7_anyCellMissing_41 : decode cX7_anyCellMissing 41 = .ok (.ifCond .eq 5, 3) := by decide +kernel
theorem dX7_anyCellMissing_44 : decode cX7_anyCellMissing 44 = .ok (.iconst 1, 1) := by decide +kernel
theorem dX7_anyCellMissing_45 : decode cX7_anyCellMissing 45 = .ok (.ireturn, 1) := by decide +kernel
theorem dX7_anyCellMissing_46 : decode cX7_anyCellMissing 46 = .ok (.iinc 1 1, 3) := by decide +kernel
theorem dX7_anyCellMissing_49 : decode cX7_anyCellMissing 49 = .ok (.goto (-47), 3) := by decide +kernel
theorem dX7_anyCellMissing_52 : decode cX7_anyCellMissing 52 = .ok (.iconst 0, 1) := by decide +kernel
theorem dX7_anyCellMissing_53 : decode cX7_anyCellMissing 53 = .ok (.ireturn, 1) := by decide +kernel
theorem dX7_anyOneMissing_0 : decode cX7_anyOneMissing 0 = .ok (.iconst 0, 1) := by decide +kernel
theorem dX7_anyOneMissing_1 : decode cX7_anyOneMissing 1 = .ok (.istore_n 1, 1) := by decide +kernel
theorem dX7_anyOneMissing_2 : decode cX7_anyOneMissing 2 = .ok (.iload_n 1, 1) := by decide +kernel
theorem dX7_anyOneMissing_3 : decode cX7_anyOneMissing 3 = .ok (.aload_n 0, 1) := by decide +kernel
theorem dX7_anyOneMissing_4 : decode cX7_anyOneMissing 4 = .ok (.getfield 12, 3) := by decide +kernel
theorem dX7_anyOneMissing_7 : decode cX7_anyOneMissing 7 = .ok (.getfield 172, 3) := by decide +kernel
theorem dX7_anyOneMissing_10 : decode cX7_anyOneMissing 10 = .ok (.getfield 176, 3) := by decide +kernel
theorem dX7_anyOneMissing_13 : decode cX7_anyOneMissing 13 = .ok (.if_icmp .ge 55, 3) := by decide +kernel
theorem dX7_anyOneMissing_16 : decode cX7_anyOneMissing 16 = .ok (.aload_n 0, 1) := by decide +kernel
theorem dX7_anyOneMissing_17 : decode cX7_anyOneMissing 17 = .ok (.getfield 12, 3) := by decide +kernel
theorem dX7_anyOneMissing_20 : decode cX7_anyOneMissing 20 = .ok (.getfield 172, 3) := by decide +kernel
theorem dX7_anyOneMissing_23 : decode cX7_anyOneMissing 23 = .ok (.iload_n 1, 1) := by decide +kernel
theorem dX7_anyOneMissing_24 : decode cX7_anyOneMissing 24 = .ok (.iconst 0, 1) := by decide +kernel
theorem dX7_anyOneMissing_25 : decode cX7_anyOneMissing 25 = .ok (.invokevirtual 221, 3) := by decide +kernel
theorem dX7_anyOneMissing_28 : decode cX7_anyOneMissing 28 = .ok (.aload_n 0, 1) := by decide +kernel
theorem dX7_anyOneMissing_29 : decode cX7_anyOneMissing 29 = .ok (.getfield 12, 3) := by decide +kernel
theorem dX7_anyOneMissing_32 : decode cX7_anyOneMissing 32 = .ok (.getfield 70, 3) := by decide +kernel
theorem dX7_anyOneMissing_35 : decode cX7_anyOneMissing 35 = .ok (.if_icmp .ge 25, 3) := by decide +kernel
theorem dX7_anyOneMissing_38 : decode cX7_anyOneMissing 38 = .ok (.aload_n 0, 1) := by decide +kernel
theorem dX7_anyOneMissing_39 : decode cX7_anyOneMissing 39 = .ok (.getfield 12, 3) := by decide +kernel
theorem dX7_anyOneMissing_42 : decode cX7_anyOneMissing 42 = .ok (.getfield 172, 3) := by decide +kernel
theorem dX7_anyOneMissing_45 : decode cX7_anyOneMissing 45 = .ok (.iload_n 1, 1) := by decide +kernel
theorem dX7_anyOneMissing_46 : decode cX7_anyOneMissing 46 = .ok (.iconst 1, 1) := by decide +kernel
theorem dX7_anyOneMissing_47 : decode cX7_anyOneMissing 47 = .ok (.invokevirtual 221, 3) := by decide +kernel
theorem dX7_anyOneMissing_50 : decode cX7_anyOneMissing 50 = .ok (.aload_n 0, 1) := by decide +kernel
theorem dX7_anyOneMissing_51 : decode cX7_anyOneMissing 51 = .ok (.getfield 12, 3) := by decide +kernel
theorem dX7_anyOneMissing_54 : decode cX7_anyOneMissing 54 = .ok (.getfield 70, 3) := by decide +kernel
theorem dX7_anyOneMissing_57 : decode cX7_anyOneMissing 57 = .ok (.if_icmp .lt 5, 3) := by decide +kernel
theorem dX7_anyOneMissing_60 : decode cX7_anyOneMissing 60 = .ok (.iconst 1, 1) := by decide +kernel
theorem dX7_anyOneMissing_61 : decode cX7_anyOneMissing 61 = .ok (.ireturn, 1) := by decide +kernel
theorem dX7_anyOneMissing_62 : decode cX7_anyOneMissing 62 = .ok (.iinc 1 1, 3) := by decide +kernel
theorem dX7_anyOneMissing_65 : decode cX7_anyOneMissing 65 = .ok (.goto (-63), 3) := by decide +kernel
theorem dX7_anyOneMissing_68 : decode cX7_anyOneMissing 68 = .ok (.iconst 0, 1) := by decide +kernel
theorem dX7_anyOneMissing_69 : decode cX7_anyOneMissing 69 = .ok (.istore_n 1, 1) := by decide +kernel
theorem dX7_anyOneMissing_70 : decode cX7_anyOneMissing 70 = .ok (.iload_n 1, 1) := by decide +kernel
theorem dX7_anyOneMissing_71 : decode cX7_anyOneMissing 71 = .ok (.aload_n 0, 1) := by decide +kernel
theorem dX7_anyOneMissing_72 : decode cX7_anyOneMissing 72 = .ok (.getfield 12, 3) := by decide +kernel
theorem dX7_anyOneMissing_75 : decode cX7_anyOneMissing 75 = .ok (.getfield 182, 3) := by decide +kernel
theorem dX7_anyOneMissing_78 : decode cX7_anyOneMissing 78 = .ok (.getfield 176, 3) := by decide +kernel
theorem dX7_anyOneMissing_81 : decode cX7_anyOneMissing 81 = .ok (.if_icmp .ge 33, 3) := by decide +kernel
theorem dX7_anyOneMissing_84 : decode cX7_anyOneMissing 84 = .ok (.aload_n 0, 1) := by decide +kernel
theorem dX7_anyOneMissing_85 : decode cX7_anyOneMissing 85 = .ok (.getfield 12, 3) := by decide +kernel
theorem dX7_anyOneMissing_88 : decode cX7_anyOneMissing 88 = .ok (.getfield 182, 3) := by decide +kernel
theorem dX7_anyOneMissing_91 : decode cX7_anyOneMissing 91 = .ok (.iload_n 1, 1) := by decide +kernel
theorem dX7_anyOneMissing_92 : decode cX7_anyOneMissing 92 = .ok (.iconst 1, 1) := by decide +kernel
theorem dX7_anyOneMissing_93 : decode cX7_anyOneMissing 93 = .ok (.invokevirtual 221, 3) := by decide +kernel
theorem dX7_anyOneMissing_96 : decode cX7_anyOneMissing 96 = .ok (.aload_n 0, 1) := by decide +kernel
theorem dX7_anyOneMissing_97 : decode cX7_anyOneMissing 97 = .ok (.getfield 12, 3) := by decide +kernel
theorem dX7_anyOneMissing_100 : decode cX7_anyOneMissing 100 = .ok (.getfield 70, 3) := by decide +kernel
theorem dX7_anyOneMissing_103 : decode cX7_anyOneMissing 103 = .ok (.if_icmp .lt 5, 3) := by decide +kernel
theorem dX7_anyOneMissing_106 : decode cX7_anyOneMissing 106 = .ok (.iconst 1, 1) := by decide +kernel
theorem dX7_anyOneMissing_107 : decode cX7_anyOneMissing 107 = .ok (.ireturn, 1) := by decide +kernel
theorem dX7_anyOneMissing_108 : decode cX7_anyOneMissing 108 = .ok (.iinc 1 1, 3) := by decide +kernel
theorem dX7_anyOneMissing_111 : decode cX7_anyOneMissing 111 = .ok (.goto (-41), 3) := by decide +kernel
theorem dX7_anyOneMissing_114 : decode cX7_anyOneMissing 114 = .ok (.iconst 0, 1) := by decide +kernel
theorem dX7_anyOneMissing_115 : decode cX7_anyOneMissing 115 = .ok (.ireturn, 1) := by decide +kernel
theorem dX8_init_0 : decode cX8_init 0 = .ok (.aload_n 0, 1) := by decide +kernel
theorem dX8_init_1 : decode cX8_init 1 = .ok (.invokespecial 3, 3) := by decide +kernel
theorem dX8_init_4 : decode cX8_init 4 = .ok (.aload_n 0, 1) := by decide +kernel
theorem dX8_init_5 : decode cX8_init 5 = .ok (.bipush 81, 2) := by decide +kernel
theorem dX8_init_7 : decode cX8_init 7 = .ok (.newarray .int, 2) := by decide +kernel
theorem dX8_init_9 : decode cX8_init 9 = .ok (.putfield 9, 3) := by decide +kernel
theorem dX8_init_12 : decode cX8_init 12 = .ok (.aload_n 0, 1) := by decide +kernel
theorem dX8_init_13 : decode cX8_init 13 = .ok (.bipush 6, 2) := by decide +kernel
theorem dX8_init_15 : decode cX8_init 15 = .ok (.newarray .int, 2) := by decide +kernel
theorem dX8_init_17 : decode cX8_init 17 = .ok (.putfield 15, 3) := by decide +kernel
theorem dX8_init_20 : decode cX8_init 20 = .ok (.aload_n 0, 1) := by decide +kernel
theorem dX8_init_21 : decode cX8_init 21 = .ok (.new 18, 3) := by decide +kernel
theorem dX8_init_24 : decode cX8_init 24 = .ok (.dup, 1) := by decide +kernel
theorem dX8_init_25 : decode cX8_init 25 = .ok (.invokespecial 20, 3) := by decide +kernel
theorem dX8_init_28 : decode cX8_init 28 = .ok (.putfield 21, 3) := by decide +kernel
theorem dX8_init_31 : decode cX8_init 31 = .ok (.aload_n 0, 1) := by decide +kernel
theorem dX8_init_32 : decode cX8_init 32 = .ok (.new 25, 3) := by decide +kernel
theorem dX8_init_35 : decode cX8_init 35 = .ok (.dup, 1) := by decide +kernel
theorem dX8_init_36 : decode cX8_init 36 = .ok (.invokespecial 27, 3) := by decide +kernel
theorem dX8_init_39 : decode cX8_init 39 = .ok (.putfield 28, 3) := by decide +kernel
theorem dX8_init_42 : decode cX8_init 42 = .ok (.aload_n 0, 1) := by decide +kernel
theorem dX8_init_43 : decode cX8_init 43 = .ok (.new 25, 3) := by decide +kernel
theorem dX8_init_46 : decode cX8_init 46 = .ok (.dup, 1) := by decide +kernel
theorem dX8_init_47 : decode cX8_init 47 = .ok (.invokespecial 27, 3) := by decide +kernel
theorem dX8_init_50 : decode cX8_init 50 = .ok (.putfield 32, 3) := by decide +kernel
theorem dX8_init_53 : decode cX8_init 53 = .ok (.aload_n 0, 1) := by decide +kernel
theorem dX8_init_54 : decode cX8_init 54 = .ok (.invokevirtual 35, 3) := by decide +kernel
theorem dX8_init_57 : decode cX8_init 57 = .ok (.return_, 1) := by decide +kernel
theorem dX8_startAnew_0 : decode cX8_startAnew 0 = .ok (.aload_n 0, 1) := by decide +kernel
theorem dX8_startAnew_1 : decode cX8_startAnew 1 = .ok (.bipush 9, 2) := by decide +kernel
theorem dX8_startAnew_3 : decode cX8_startAnew 3 = .ok (.putfield 38, 3) := by decide +kernel
theorem dX8_startAnew_6 : decode cX8_startAnew 6 = .ok (.aload_n 0, 1) := by decide +kernel
theorem dX8_startAnew_7 : decode cX8_startAnew 7 = .ok (.bipush 7, 2) := by decide +kernel
theorem dX8_startAnew_9 : decode cX8_startAnew 9 = .ok (.putfield 42, 3) := by decide +kernel
theorem dX8_startAnew_12 : decode cX8_startAnew 12 = .ok (.aload_n 0, 1) := by decide +kernel
theorem dX8_startAnew_13 : decode cX8_startAnew 13 = .ok (.iconst 3, 1) := by decide +kernel
theorem dX8_startAnew_14 : decode cX8_startAnew 14 = .ok (.putfield 45, 3) := by decide +kernel
theorem dX8_startAnew_17 : decode cX8_startAnew 17 = .ok (.aload_n 0, 1) := by decide +kernel
theorem dX8_startAnew_18 : decode cX8_startAnew 18 = .ok (.iconst 5, 1) := by decide +kernel
theorem dX8_startAnew_19 : decode cX8_startAnew 19 = .ok (.putfield 48, 3) := by decide +kernel
theorem dX8_startAnew_22 : decode cX8_startAnew 22 = .ok (.aload_n 0, 1) := by decide +kernel
theorem dX8_startAnew_23 : decode cX8_startAnew 23 = .ok (.iconst 0, 1) := by decide +kernel
theorem dX8_startAnew_24 : decode cX8_startAnew 24 = .ok (.putfield 51, 3) := by decide +kernel
theorem dX8_startAnew_27 : decode cX8_startAnew 27 = .ok (.aload_n 0, 1) := by decide +kernel
theorem dX8_startAnew_28 : decode cX8_startAnew 28 = .ok (.iconst 0, 1) := by decide +kernel
theorem dX8_startAnew_29 : decode cX8_startAnew 29 = .ok (.putfield 54, 3) := by decide +kernel
theorem dX8_startAnew_32 : decode cX8_startAnew 32 = .ok (.aload_n 0, 1) := by decide +kernel
theorem dX8_startAnew_33 : decode cX8_startAnew 33 = .ok (.getfield 9, 3) := by decide +kernel
theorem dX8_startAnew_36 : decode cX8_startAnew 36 = .ok (.iconst 0, 1) := by decide +kernel
theorem dX8_startAnew_37 : decode cX8_startAnew 37 = .ok (.invokestatic 57, 3) := by decide +kernel
theorem dX8_startAnew_40 : decode cX8_startAnew 40 = .ok (.iconst 0, 1) := by decide +kernel
theorem dX8_startAnew_41 : decode cX8_startAnew 41 = .ok (.istore_n 1, 1) := by decide +kernel
theorem dX8_startAnew_42 : decode cX8_startAnew 42 = .ok (.iload_n 1, 1) := by decide +kernel
theorem dX8_startAnew_43 : decode cX8_startAnew 43 = .ok (.bipush 6, 2) := by decide +kernel
theorem dX8_startAnew_45 : decode cX8_startAnew 45 = .ok (.if_icmp .ge 16, 3) := by decide +kernel
theorem dX8_startAnew_48 : decode cX8_startAnew 48 = .ok (.aload_n 0, 1) := by decide +kernel
theorem dX8_startAnew_49 : decode cX8_startAnew 49 = .ok (.getfield 15, 3) := by decide +kernel
theorem dX8_startAnew_52 : decode cX8_startAnew 52 = .ok (.iload_n 1, 1) := by decide +kernel
theorem dX8_startAnew_53 : decode cX8_startAnew 53 = .ok (.iload_n 1, 1) := by decide +kernel
theorem dX8_startAnew_54 : decode cX8_startAnew 54 = .ok (.iastore, 1) := by decide +kernel
theorem dX8_startAnew_55 : decode cX8_startAnew 55 = .ok (.iinc 1 1, 3) := by decide +kernel
theorem dX8_startAnew_58 : decode cX8_startAnew 58 = .ok (.goto (-16), 3) := by decide +kernel
theorem dX8_startAnew_61 : decode cX8_startAnew 61 = .ok (.aload_n 0, 1) := by decide +kernel
theorem dX8_startAnew_62 : decode cX8_startAnew 62 = .ok (.getfield 21, 3) := by decide +kernel
theorem dX8_startAnew_65 : decode cX8_startAnew 65 = .ok (.iconst 0, 1) := by decide +kernel
theorem dX8_startAnew_66 : decode cX8_startAnew 66 = .ok (.putfield 63, 3) := by decide +kernel
theorem dX8_startAnew_69 : decode cX8_startAnew 69 = .ok (.aload_n 0, 1) := by decide +kernel
theorem dX8_startAnew_70 : decode cX8_startAnew 70 = .ok (.getfield 28, 3) := by decide +kernel
theorem dX8_startAnew_73 : decode cX8_startAnew 73 = .ok (.iconst 0, 1) := by decide +kernel
theorem dX8_startAnew_74 : decode cX8_startAnew 74 = .ok (.putfield 66, 3) := by decide +kernel
theorem dX8_startAnew_77 : decode cX8_startAnew 77 = .ok (.aload_n 0, 1) := by decide +kernel
theorem dX8_startAnew_78 : decode cX8_startAnew 78 = .ok (.getfield 32, 3) := by decide +kernel
theorem dX8_startAnew_81 : decode cX8_startAnew 81 = .ok (.iconst 0, 1) := by decide +kernel
theorem dX8_startAnew_82 : decode cX8_startAnew 82 = .ok (.putfield 66, 3) := by decide +kernel
theorem dX8_startAnew_85 : decode cX8_startAnew 85 = .ok (.return_, 1) := by decide +kernel
theorem dX8_copyAll_0 : decode cX8_copyAll 0 = .ok (.aload_n 0, 1) := by decide +kernel
theorem dX8_copyAll_1 : decode cX8_copyAll 1 = .ok (.aload_n 1, 1) := by decide +kernel
theorem dX8_copyAll_2 : decode cX8_copyAll 2 = .ok (.getfield 38, 3) := by decide +kernel
theorem dX8_copyAll_5 : decode cX8_copyAll 5 = .ok (.putfield 38, 3) := by decide +kernel
theorem dX8_copyAll_8 : decode cX8_copyAll 8 = .ok (.aload_n 0, 1) := by decide +kernel
theorem dX8_copyAll_9 : decode cX8_copyAll 9 = .ok (.aload_n 1, 1) := by decide +kernel
theorem dX8_copyAll_10 : decode cX8_copyAll 10 = .ok (.getfield 42, 3) := by decide +kernel
theorem dX8_copyAll_13 : decode cX8_copyAll 13 = .ok (.putfield 42, 3) := by decide +kernel
theorem dX8_copyAll_16 : decode cX8_copyAll 16 = .ok (.aload_n 0, 1) := by decide +kernel
theorem dX8_copyAll_17 : decode cX8_copyAll 17 = .ok (.aload_n 1, 1) := by decide +kernel
theorem dX8_copyAll_18 : decode cX8_copyAll 18 = .ok (.getfield 45, 3) := by decide +kernel
theorem dX8_copyAll_21 : decode cX8_copyAll 21 = .ok (.putfield 45, 3) := by decide +kernel
theorem dX8_copyAll_24 : decode cX8_copyAll 24 = .ok (.aload_n 0, 1) := by decide +kernel
theorem dX8_copyAll_25 : decode cX8_copyAll 25 = .ok (.aload_n 1, 1) := by decide +kernel
theorem dX8_copyAll_26 : decode cX8_copyAll 26 = .ok (.getfield 48, 3) := by decide +kernel
theorem dX8_copyAll_29 : decode cX8_copyAll 29 = .ok (.putfield 48, 3) := by decide +kernel
theorem dX8_copyAll_32 : decode cX8_copyAll 32 = .ok (.aload_n 0, 1) := by decide +kernel
theorem dX8_copyAll_33 : decode cX8_copyAll 33 = .ok (.aload_n 1, 1) := by decide +kernel
theorem dX8_copyAll_34 : decode cX8_copyAll 34 = .ok (.getfield 54, 3) := by decide +kernel
theorem dX8_copyAll_37 : decode cX8_copyAll 37 = .ok (.putfield 54, 3) := by decide +kernel
theorem dX8_copyAll_40 : decode cX8_copyAll 40 = .ok (.aload_n 0, 1) := by decide +kernel
theorem dX8_copyAll_41 : decode cX8_copyAll 41 = .ok (.getfield 21, 3) := by decide +kernel
theorem dX8_copyAll_44 : decode cX8_copyAll 44 = .ok (.aload_n 1, 1) := by decide +kernel
theorem dX8_copyAll_45 : decode cX8_copyAll 45 = .ok (.getfield 21, 3) := by decide +kernel
theorem dX8_copyAll_48 : decode cX8_copyAll 48 = .ok (.invokevirtual 67, 3) := by decide +kernel
theorem dX8_copyAll_51 : decode cX8_copyAll 51 = .ok (.aload_n 0, 1) := by decide +kernel
theorem dX8_copyAll_52 : decode cX8_copyAll 52 = .ok (.getfield 28, 3) := by decide +kernel
theorem dX8_copyAll_55 : decode cX8_copyAll 55 = .ok (.aload_n 1, 1) := by decide +kernel
theorem dX8_copyAll_56 : decode cX8_copyAll 56 = .ok (.getfield 28, 3) := by decide +kernel
theorem dX8_copyAll_59 : decode cX8_copyAll 59 = .ok (.invokevirtual 71, 3) := by decide +kernel
theorem dX8_copyAll_62 : decode cX8_copyAll 62 = .ok (.aload_n 0, 1) := by decide +kernel
theorem dX8_copyAll_63 : decode cX8_copyAll 63 = .ok (.aload_n 1, 1) := by decide +kernel
theorem dX8_copyAll_64 : decode cX8_copyAll 64 = .ok (.invokevirtual 74, 3) := by decide +kernel
theorem dX8_copyAll_67 : decode cX8_copyAll 67 = .ok (.return_, 1) := by decide +kernel
theorem dX8_copyChanging_0 : decode cX8_copyChanging 0 = .ok (.aload_n 1, 1) := by decide +kernel
theorem dX8_copyChanging_1 : decode cX8_copyChanging 1 = .ok (.getfield 9, 3) := by decide +kernel
theorem dX8_copyChanging_4 : decode cX8_copyChanging 4 = .ok (.iconst 0, 1) := by decide +kernel
theorem dX8_copyChanging_5 : decode cX8_copyChanging 5 = .ok (.aload_n 0, 1) := by decide +kernel
theorem dX8_copyChanging_6 : decode cX8_copyChanging 6 = .ok (.getfield 9, 3) := by decide +kernel
theorem dX8_copyChanging_9 : decode cX8_copyChanging 9 = .ok (.iconst 0, 1) := by decide +kernel
theorem dX8_copyChanging_10 : decode cX8_copyChanging 10 = .ok (.bipush 81, 2) := by decide +kernel
theorem dX8_copyChanging_12 : decode cX8_copyChanging 12 = .ok (.invokestatic 78, 3) := by decide +kernel
theorem dX8_copyChanging_15 : decode cX8_copyChanging 15 = .ok (.aload_n 0, 1) := by decide +kernel
theorem dX8_copyChanging_16 : decode cX8_copyChanging 16 = .ok (.aload_n 1, 1) := by decide +kernel
theorem dX8_copyChanging_17 : decode cX8_copyChanging 17 = .ok (.getfield 51, 3) := by decide +kernel
theorem dX8_copyChanging_20 : decode cX8_copyChanging 20 = .ok (.putfield 51, 3) := by decide +kernel
theorem dX8_copyChanging_23 : decode cX8_copyChanging 23 = .ok (.aload_n 1, 1) := by decide +kernel
theorem dX8_copyChanging_24 : decode cX8_copyChanging 24 = .ok (.getfield 15, 3) := by decide +kernel
theorem dX8_copyChanging_27 : decode cX8_copyChanging 27 = .ok (.iconst 0, 1) := by decide +kernel
theorem dX8_copyChanging_28 : decode cX8_copyChanging 28 = .ok (.aload_n 0, 1) := by decide +kernel
theorem dX8_copyChanging_29 : decode cX8_copyChanging 29 = .ok (.getfield 15, 3) := by decide +kernel
theorem dX8_copyChanging_32 : decode cX8_copyChanging 32 = .ok (.iconst 0, 1) := by decide +kernel
theorem dX8_copyChanging_33 : decode cX8_copyChanging 33 = .ok (.bipush 6, 2) := by decide +kernel
theorem dX8_copyChanging_35 : decode cX8_copyChanging 35 = .ok (.invokestatic 78, 3) := by decide +kernel
theorem dX8_copyChanging_38 : decode cX8_copyChanging 38 = .ok (.aload_n 0, 1) := by decide +kernel
theorem dX8_copyChanging_39 : decode cX8_copyChanging 39 = .ok (.getfield 32, 3) := by decide +kernel
theorem dX8_copyChanging_42 : decode cX8_copyChanging 42 = .ok (.aload_n 1, 1) := by decide +kernel
theorem dX8_copyChanging_43 : decode cX8_copyChanging 43 = .ok (.getfield 32, 3) := by decide +kernel
theorem dX8_copyChanging_46 : decode cX8_copyChanging 46 = .ok (.invokevirtual 71, 3) := by decide +kernel
theorem dX8_copyChanging_49 : decode cX8_copyChanging 49 = .ok (.return_, 1) := by decide +kernel
theorem dX8_isCell_0 : decode cX8_isCell 0 = .ok (.iload_n 1, 1) := by decide +kernel
theorem dX8_isCell_1 : decode cX8_isCell 1 = .ok (.ifCond .lt 35, 3) := by decide +kernel
theorem dX8_isCell_4 : decode cX8_isCell 4 = .ok (.iload_n 1, 1) := by decide +kernel
theorem dX8_isCell_5 : decode cX8_isCell 5 = .ok (.bipush 81, 2) := by decide +kernel
theorem dX8_isCell_7 : decode cX8_isCell 7 = .ok (.if_icmp .ge 29, 3) := by decide +kernel
theorem dX8_isCell_10 : decode cX8_isCell 10 = .ok (.iload_n 1, 1) := by decide +kernel
theorem dX8_isCell_11 : decode cX8_isCell 11 = .ok (.bipush 9, 2) := by decide +kernel
theorem dX8_isCell_13 : decode cX8_isCell 13 = .ok (.irem, 1) := by decide +kernel
theorem dX8_isCell_14 : decode cX8_isCell 14 = .ok (.aload_n 0, 1) := by decide +kernel
theorem dX8_isCell_15 : decode cX8_isCell 15 = .ok (.getfield 38, 3) := by decide +kernel
theorem dX8_isCell_18 : decode cX8_isCell 18 = .ok (.if_icmp .ge 18, 3) := by decide +kernel
theorem dX8_isCell_21 : decode cX8_isCell 21 = .ok (.iload_n 1, 1) := by decide +kernel
theorem dX8_isCell_22 : decode cX8_isCell 22 = .ok (.bipush 9, 2) := by decide +kernel
theorem dX8_isCell_24 : decode cX8_isCell 24 = .ok (.idiv, 1) := by decide +kernel
theorem dX8_isCell_25 : decode cX8_isCell 25 = .ok (.aload_n 0, 1) := by decide +kernel
theorem dX8_isCell_26 : decode cX8_isCell 26 = .ok (.getfield 42, 3) := by decide +kernel
theorem dX8_isCell_29 : decode cX8_isCell 29 = .ok (.if_icmp .ge 7, 3) := by decide +kernel
theorem dX8_isCell_32 : decode cX8_isCell 32 = .ok (.iconst 1, 1) := by decide +kernel
theorem dX8_isCell_33 : decode cX8_isCell 33 = .ok (.goto 4, 3) := by decide +kernel
theorem dX8_isCell_36 : decode cX8_isCell 36 = .ok (.iconst 0, 1) := by decide +kernel
theorem dX8_isCell_37 : decode cX8_isCell 37 = .ok (.ireturn, 1) := by decide +kernel
theorem dX8_stateOf_0 : decode cX8_stateOf 0 = .ok (.iload_n 1, 1) := by decide +kernel
theorem dX8_stateOf_1 : decode cX8_stateOf 1 = .ok (.ifCond .lt 18, 3) := by decide +kernel
theorem dX8_stateOf_4 : decode cX8_stateOf 4 = .ok (.iload_n 1, 1) := by decide +kernel
theorem dX8_stateOf_5 : decode cX8_stateOf 5 = .ok (.bipush 81, 2) := by decide +kernel
theorem dX8_stateOf_7 : decode cX8_stateOf 7 = .ok (.if_icmp .ge 12, 3) := by decide +kernel
theorem dX8_stateOf_10 : decode cX8_stateOf 10 = .ok (.aload_n 0, 1) := by decide +kernel
theorem dX8_stateOf_11 : decode cX8_stateOf 11 = .ok (.getfield 9, 3) := by decide +kernel
theorem dX8_stateOf_14 : decode cX8_stateOf 14 = .ok (.iload_n 1, 1) := by decide +kernel
theorem dX8_stateOf_15 : decode cX8_stateOf 15 = .ok (.iaload, 1) := by decide +kernel
theorem dX8_stateOf_16 : decode cX8_stateOf 16 = .ok (.goto 4, 3) := by decide +kernel
theorem dX8_stateOf_19 : decode cX8_stateOf 19 = .ok (.iconst 1, 1) := by decide +kernel
theorem dX8_stateOf_20 : decode cX8_stateOf 20 = .ok (.ireturn, 1) := by decide +kernel
theorem dX8_setState_0 : decode cX8_setState 0 = .ok (.iload_n 1, 1) := by decide +kernel
theorem dX8_setState_1 : decode cX8_setState 1 = .ok (.ifCond .lt 16, 3) := by decide +kernel
theorem dX8_setState_4 : decode cX8_setState 4 = .ok (.iload_n 1, 1) := by decide +kernel
theorem dX8_setState_5 : decode cX8_setState 5 = .ok (.bipush 81, 2) := by decide +kernel
theorem dX8_setState_7 : decode cX8_setState 7 = .ok (.if_icmp .ge 10, 3) := by decide +kernel
theorem dX8_setState_10 : decode cX8_setState 10 = .ok (.aload_n 0, 1) := by decide +kernel
theorem dX8_setState_11 : decode cX8_setState 11 = .ok (.getfield 9, 3) := by decide +kernel
theorem dX8_setState_14 : decode cX8_setState 14 = .ok (.iload_n 1, 1) := by decide +kernel
theorem dX8_setState_15 : decode cX8_setState 15 = .ok (.iload_n 2, 1) := by decide +kernel
theorem dX8_setState_16 : decode cX8_setState 16 = .ok (.iastore, 1) := by decide +kernel
theorem dX8_setState_17 : decode cX8_setState 17 = .ok (.return_, 1) := by decide +kernel
theorem dX8_isFree_0 : decode cX8_isFree 0 = .ok (.aload_n 0, 1) := by decide +kernel
theorem dX8_isFree_1 : decode cX8_isFree 1 = .ok (.iload_n 1, 1) := by decide +kernel
theorem dX8_isFree_2 : decode cX8_isFree 2 = .ok (.invokevirtual 84, 3) := by decide +kernel
theorem dX8_isFree_5 : decode cX8_isFree 5 = .ok (.ifCond .eq 15, 3) := by decide +kernel
theorem dX8_isFree_8 : decode cX8_isFree 8 = .ok (.aload_n 0, 1) := by decide +kernel
theorem dX8_isFree_9 : decode cX8_isFree 9 = .ok (.iload_n 1, 1) := by decide +kernel
theorem dX8_isFree_10 : decode cX8_isFree 10 = .ok (.invokevirtual 88, 3) := by decide +kernel
theorem dX8_isFree_13 : decode cX8_isFree 13 = .ok (.ifCond .ne 7, 3) := by decide +kernel
theorem dX8_isFree_16 : decode cX8_isFree 16 = .ok (.iconst 1, 1) := by decide +kernel
theorem dX8_isFree_17 : decode cX8_isFree 17 = .ok (.goto 4, 3) := by decide +kernel
theorem dX8_isFree_20 : decode cX8_isFree 20 = .ok (.iconst 0, 1) := by decide +kernel
theorem dX8_isFree_21 : decode cX8_isFree 21 = .ok (.ireturn, 1) := by decide +kernel
theorem dX8_deafCells_0 : decode cX8_deafCells 0 = .ok (.iconst 0, 1) := by decide +kernel
theorem dX8_deafCells_1 : decode cX8_deafCells 1 = .ok (.istore_n 1, 1) := by decide +kernel
theorem dX8_deafCells_2 : decode cX8_deafCells 2 = .ok (.iconst 0, 1) := by decide +kernel
theorem dX8_deafCells_3 : decode cX8_deafCells 3 = .ok (.istore_n 2, 1) := by decide +kernel
theorem dX8_deafCells_4 : decode cX8_deafCells 4 = .ok (.iload_n 2, 1) := by decide +kernel
theorem dX8_deafCells_5 : decode cX8_deafCells 5 = .ok (.bipush 81, 2) := by decide +kernel
theorem dX8_deafCells_7 : decode cX8_deafCells 7 = .ok (.if_icmp .ge 25, 3) := by decide +kernel
theorem dX8_deafCells_10 : decode cX8_deafCells 10 = .ok (.iload_n 1, 1) := by decide +kernel
theorem dX8_deafCells_11 : decode cX8_deafCells 11 = .ok (.aload_n 0, 1) := by decide +kernel
theorem dX8_deafCells_12 : decode cX8_deafCells 12 = .ok (.iload_n 2, 1) := by decide +kernel
theorem dX8_deafCells_13 : decode cX8_deafCells 13 = .ok (.invokevirtual 88, 3) := by decide +kernel
theorem dX8_deafCells_16 : decode cX8_deafCells 16 = .ok (.ifCond .ne 7, 3) := by decide +kernel
theorem dX8_deafCells_19 : decode cX8_deafCells 19 = .ok (.iconst 0, 1) := by decide +kernel
theorem dX8_deafCells_20 : decode cX8_deafCells 20 = .ok (.goto 4, 3) := by decide +kernel
theorem dX8_deafCells_23 : decode cX8_deafCells 23 = .ok (.iconst 1, 1) := by decide +kernel
theorem dX8_deafCells_24 : decode cX8_deafCells 24 = .ok (.iadd, 1) := by decide +kernel
theorem dX8_deafCells_25 : decode cX8_deafCells 25 = .ok (.istore_n 1, 1) := by decide +kernel
theorem dX8_deafCells_26 : decode cX8_deafCells 26 = .ok (.iinc 2 1, 3) := by decide +kernel
theorem dX8_deafCells_29 : decode cX8_deafCells 29 = .ok (.goto (-25), 3) := by decide +kernel
theorem dX8_deafCells_32 : decode cX8_deafCells 32 = .ok (.iload_n 1, 1) := by decide +kernel
theorem dX8_deafCells_33 : decode cX8_deafCells 33 = .ok (.ireturn, 1) := by decide +kernel
theorem dX8_anyBenchOn_0 : decode cX8_anyBenchOn 0 = .ok (.iconst 0, 1) := by decide +kernel
theorem dX8_anyBenchOn_1 : decode cX8_anyBenchOn 1 = .ok (.istore_n 3, 1) := by decide +kernel
theorem dX8_anyBenchOn_2 : decode cX8_anyBenchOn 2 = .ok (.iload_n 3, 1) := by decide +kernel
theorem dX8_anyBenchOn_3 : decode cX8_anyBenchOn 3 = .ok (.aload_n 0, 1) := by decide +kernel
theorem dX8_anyBenchOn_4 : decode cX8_anyBenchOn 4 = .ok (.getfield 21, 3) := by decide +kernel
theorem dX8_anyBenchOn_7 : decode cX8_anyBenchOn 7 = .ok (.getfield 63, 3) := by decide +kernel
theorem dX8_anyBenchOn_10 : decode cX8_anyBenchOn 10 = .ok (.if_icmp .ge 28, 3) := by decide +kernel
theorem dX8_anyBenchOn_13 : decode cX8_anyBenchOn 13 = .ok (.aload_n 0, 1) := by decide +kernel
theorem dX8_anyBenchOn_14 : decode cX8_anyBenchOn 14 = .ok (.getfield 21, 3) := by decide +kernel
theorem dX8_anyBenchOn_17 : decode cX8_anyBenchOn 17 = .ok (.iload_n 3, 1) := by decide +kernel
theorem dX8_anyBenchOn_18 : decode cX8_anyBenchOn 18 = .ok (.iload_n 2, 1) := by decide +kernel
theorem dX8_anyBenchOn_19 : decode cX8_anyBenchOn 19 = .ok (.aload_n 0, 1) := by decide +kernel
theorem dX8_anyBenchOn_20 : decode cX8_anyBenchOn 20 = .ok (.getfield 38, 3) := by decide +kernel
theorem dX8_anyBenchOn_23 : decode cX8_anyBenchOn 23 = .ok (.invokevirtual 92, 3) := by decide +kernel
theorem dX8_anyBenchOn_26 : decode cX8_anyBenchOn 26 = .ok (.iload_n 1, 1) := by decide +kernel
theorem dX8_anyBenchOn_27 : decode cX8_anyBenchOn 27 = .ok (.if_icmp .ne 5, 3) := by decide +kernel
theorem dX8_anyBenchOn_30 : decode cX8_anyBenchOn 30 = .ok (.iconst 1, 1) := by decide +kernel
theorem dX8_anyBenchOn_31 : decode cX8_anyBenchOn 31 = .ok (.ireturn, 1) := by decide +kernel
theorem dX8_anyBenchOn_32 : decode cX8_anyBenchOn 32 = .ok (.iinc 3 1, 3) := by decide +kernel
theorem dX8_anyBenchOn_35 : decode cX8_anyBenchOn 35 = .ok (.goto (-33), 3) := by decide +kernel
theorem dX8_anyBenchOn_38 : decode cX8_anyBenchOn 38 = .ok (.iconst 0, 1) := by decide +kernel
theorem dX8_anyBenchOn_39 : decode cX8_anyBenchOn 39 = .ok (.ireturn, 1) := by decide +kernel
theorem dX8_latestHour_0 : decode cX8_latestHour 0 = .ok (.aload_n 0, 1) := by decide +kernel
theorem dX8_latestHour_1 : decode cX8_latestHour 1 = .ok (.getfield 32, 3) := by decide +kernel
theorem dX8_latestHour_4 : decode cX8_latestHour 4 = .ok (.getfield 66, 3) := by decide +kernel
theorem dX8_latestHour_7 : decode cX8_latestHour 7 = .ok (.ifCond .le 23, 3) := by decide +kernel
theorem dX8_latestHour_10 : decode cX8_latestHour 10 = .ok (.aload_n 0, 1) := by decide +kernel
theorem dX8_latestHour_11 : decode cX8_latestHour 11 = .ok (.getfield 32, 3) := by decide +kernel
theorem dX8_latestHour_14 : decode cX8_latestHour 14 = .ok (.aload_n 0, 1) := by decide +kernel
theorem dX8_latestHour_15 : decode cX8_latestHour 15 = .ok (.getfield 32, 3) := by decide +kernel
theorem dX8_latestHour_18 : decode cX8_latestHour 18 = .ok (.getfield 66, 3) := by decide +kernel
theorem dX8_latestHour_21 : decode cX8_latestHour 21 = .ok (.iconst 1, 1) := by decide +kernel
theorem dX8_latestHour_22 : decode cX8_latestHour 22 = .ok (.isub, 1) := by decide +kernel
theorem dX8_latestHour_23 : decode cX8_latestHour 23 = .ok (.iconst 0, 1) := by decide +kernel
theorem dX8_latestHour_24 : decode cX8_latestHour 24 = .ok (.invokevirtual 96, 3) := by decide +kernel
theorem dX8_latestHour_27 : decode cX8_latestHour 27 = .ok (.goto 4, 3) := by decide +kernel
theorem dX8_latestHour_30 : decode cX8_latestHour 30 = .ok (.iconst 0, 1) := by decide +kernel
theorem dX8_latestHour_31 : decode cX8_latestHour 31 = .ok (.ireturn, 1) := by decide +kernel
theorem dX8_seatOf_0 : decode cX8_seatOf 0 = .ok (.iload_n 1, 1) := by decide +kernel
theorem dX8_seatOf_1 : decode cX8_seatOf 1 = .ok (.ifCond .lt 26, 3) := by decide +kernel
theorem dX8_seatOf_4 : decode cX8_seatOf 4 = .ok (.iload_n 1, 1) := by decide +kernel
theorem dX8_seatOf_5 : decode cX8_seatOf 5 = .ok (.aload_n 0, 1) := by decide +kernel
theorem dX8_seatOf_6 : decode cX8_seatOf 6 = .ok (.getfield 54, 3) := by decide +kernel
theorem dX8_seatOf_9 : decode cX8_seatOf 9 = .ok (.if_icmp .ge 18, 3) := by decide +kernel
theorem dX8_seatOf_12 : decode cX8_seatOf 12 = .ok (.iload_n 1, 1) := by decide +kernel
theorem dX8_seatOf_13 : decode cX8_seatOf 13 = .ok (.bipush 6, 2) := by decide +kernel
theorem dX8_seatOf_15 : decode cX8_seatOf 15 = .ok (.if_icmp .ge 12, 3) := by decide +kernel
theorem dX8_seatOf_18 : decode cX8_seatOf 18 = .ok (.aload_n 0, 1) := by decide +kernel
theorem dX8_seatOf_19 : decode cX8_seatOf 19 = .ok (.getfield 15, 3) := by decide +kernel
theorem dX8_seatOf_22 : decode cX8_seatOf 22 = .ok (.iload_n 1, 1) := by decide +kernel
theorem dX8_seatOf_23 : decode cX8_seatOf 23 = .ok (.iaload, 1) := by decide +kernel
theorem dX8_seatOf_24 : decode cX8_seatOf 24 = .ok (.goto 5, 3) := by decide +kernel
theorem dX8_seatOf_27 : decode cX8_seatOf 27 = .ok (.bipush (-4), 2) := by decide +kernel
theorem dX8_seatOf_29 : decode cX8_seatOf 29 = .ok (.ireturn, 1) := by decide +kernel
theorem dX8_sitterOn_0 : decode cX8_sitterOn 0 = .ok (.iconst 0, 1) := by decide +kernel
theorem dX8_sitterOn_1 : decode cX8_sitterOn 1 = .ok (.istore_n 2, 1) := by decide +kernel
theorem dX8_sitterOn_2 : decode cX8_sitterOn 2 = .ok (.iload_n 2, 1) := by decide +kernel
theorem dX8_sitterOn_3 : decode cX8_sitterOn 3 = .ok (.aload_n 0, 1) := by decide +kernel
theorem dX8_sitterOn_4 : decode cX8_sitterOn 4 = .ok (.getfield 54, 3) := by decide +kernel
theorem dX8_sitterOn_7 : decode cX8_sitterOn 7 = .ok (.if_icmp .ge 20, 3) := by decide +kernel
theorem dX8_sitterOn_10 : decode cX8_sitterOn 10 = .ok (.aload_n 0, 1) := by decide +kernel
theorem dX8_sitterOn_11 : decode cX8_sitterOn 11 = .ok (.iload_n 2, 1) := by decide +kernel
theorem dX8_sitterOn_12 : decode cX8_sitterOn 12 = .ok (.invokevirtual 100, 3) := by decide +kernel
theorem dX8_sitterOn_15 : decode cX8_sitterOn 15 = .ok (.iload_n 1, 1) := by decide +kernel
theorem dX8_sitterOn_16 : decode cX8_sitterOn 16 = .ok (.if_icmp .ne 5, 3) := by decide +kernel
theorem dX8_sitterOn_19 : decode cX8_sitterOn 19 = .ok (.iload_n 2, 1) := by decide +kernel
theorem dX8_sitterOn_20 : decode cX8_sitterOn 20 = .ok (.ireturn, 1) := by decide +kernel
theorem dX8_sitterOn_21 : decode cX8_sitterOn 21 = .ok (.iinc 2 1, 3) := by decide +kernel
theorem dX8_sitterOn_24 : decode cX8_sitterOn 24 = .ok (.goto (-22), 3) := by decide +kernel
theorem dX8_sitterOn_27 : decode cX8_sitterOn 27 = .ok (.bipush (-4), 2) := by decide +kernel
theorem dX8_sitterOn_29 : decode cX8_sitterOn 29 = .ok (.ireturn, 1) := by decide +kernel
theorem dX8_seatOn_0 : decode cX8_seatOn 0 = .ok (.aload_n 0, 1) := by decide +kernel
theorem dX8_seatOn_1 : decode cX8_seatOn 1 = .ok (.iload_n 2, 1) := by decide +kernel
theorem dX8_seatOn_2 : decode cX8_seatOn 2 = .ok (.invokevirtual 103, 3) := by decide +kernel
theorem dX8_seatOn_5 : decode cX8_seatOn 5 = .ok (.istore_n 3, 1) := by decide +kernel
theorem dX8_seatOn_6 : decode cX8_seatOn 6 = .ok (.aload_n 0, 1) := by decide +kernel
theorem dX8_seatOn_7 : decode cX8_seatOn 7 = .ok (.iload_n 1, 1) := by decide +kernel
theorem dX8_seatOn_8 : decode cX8_seatOn 8 = .ok (.invokevirtual 100, 3) := by decide +kernel
theorem dX8_seatOn_11 : decode cX8_seatOn 11 = .ok (.istore 4, 2) := by decide +kernel
theorem dX8_seatOn_13 : decode cX8_seatOn 13 = .ok (.iload_n 3, 1) := by decide +kernel
theorem dX8_seatOn_14 : decode cX8_seatOn 14 = .ok (.iconst 0, 1) := by decide +kernel
theorem dX8_seatOn_15 : decode cX8_seatOn 15 = .ok (.iconst 5, 1) := by decide +kernel
theorem dX8_seatOn_16 : decode cX8_seatOn 16 = .ok (.invokestatic 106, 3) := by decide +kernel
theorem dX8_seatOn_19 : decode cX8_seatOn 19 = .ok (.ifCond .eq 11, 3) := by decide +kernel
theorem dX8_seatOn_22 : decode cX8_seatOn 22 = .ok (.aload_n 0, 1) := by decide +kernel
theorem dX8_seatOn_23 : decode cX8_seatOn 23 = .ok (.getfield 15, 3) := by decide +kernel
theorem dX8_seatOn_26 : decode cX8_seatOn 26 = .ok (.iload_n 3, 1) := by decide +kernel
theorem dX8_seatOn_27 : decode cX8_seatOn 27 = .ok (.iload 4, 2) := by decide +kernel
theorem dX8_seatOn_29 : decode cX8_seatOn 29 = .ok (.iastore, 1) := by decide +kernel
theorem dX8_seatOn_30 : decode cX8_seatOn 30 = .ok (.iload_n 1, 1) := by decide +kernel
theorem dX8_seatOn_31 : decode cX8_seatOn 31 = .ok (.iconst 0, 1) := by decide +kernel
theorem dX8_seatOn_32 : decode cX8_seatOn 32 = .ok (.iconst 5, 1) := by decide +kernel
theorem dX8_seatOn_33 : decode cX8_seatOn 33 = .ok (.invokestatic 106, 3) := by decide +kernel
theorem dX8_seatOn_36 : decode cX8_seatOn 36 = .ok (.ifCond .eq 10, 3) := by decide +kernel
theorem dX8_seatOn_39 : decode cX8_seatOn 39 = .ok (.aload_n 0, 1) := by decide +kernel
theorem dX8_seatOn_40 : decode cX8_seatOn 40 = .ok (.getfield 15, 3) := by decide +kernel
theorem dX8_seatOn_43 : decode cX8_seatOn 43 = .ok (.iload_n 1, 1) := by decide +kernel
theorem dX8_seatOn_44 : decode cX8_seatOn 44 = .ok (.iload_n 2, 1) := by decide +kernel
theorem dX8_seatOn_45 : decode cX8_seatOn 45 = .ok (.iastore, 1) := by decide +kernel
theorem dX8_seatOn_46 : decode cX8_seatOn 46 = .ok (.iload 4, 2) := by decide +kernel
theorem dX8_seatOn_48 : decode cX8_seatOn 48 = .ok (.ireturn, 1) := by decide +kernel
theorem dX9_init_0 : decode cX9_init 0 = .ok (.aload_n 0, 1) := by decide +kernel
theorem dX9_init_1 : decode cX9_init 1 = .ok (.invokespecial 3, 3) := by decide +kernel
theorem dX9_init_4 : decode cX9_init 4 = .ok (.aload_n 0, 1) := by decide +kernel
theorem dX9_init_5 : decode cX9_init 5 = .ok (.iconst 0, 1) := by decide +kernel
theorem dX9_init_6 : decode cX9_init 6 = .ok (.putfield 9, 3) := by decide +kernel
theorem dX9_init_9 : decode cX9_init 9 = .ok (.aload_n 0, 1) := by decide +kernel
theorem dX9_init_10 : decode cX9_init 10 = .ok (.bipush 12, 2) := by decide +kernel
theorem dX9_init_12 : decode cX9_init 12 = .ok (.newarray .int, 2) := by decide +kernel
theorem dX9_init_14 : decode cX9_init 14 = .ok (.putfield 15, 3) := by decide +kernel
theorem dX9_init_17 : decode cX9_init 17 = .ok (.aload_n 0, 1) := by decide +kernel
theorem dX9_init_18 : decode cX9_init 18 = .ok (.bipush 12, 2) := by decide +kernel
theorem dX9_init_20 : decode cX9_init 20 = .ok (.newarray .int, 2) := by decide +kernel
theorem dX9_init_22 : decode cX9_init 22 = .ok (.putfield 19, 3) := by decide +kernel
theorem dX9_init_25 : decode cX9_init 25 = .ok (.aload_n 0, 1) := by decide +kernel
theorem dX9_init_26 : decode cX9_init 26 = .ok (.bipush 12, 2) := by decide +kernel
theorem dX9_init_28 : decode cX9_init 28 = .ok (.newarray .int, 2) := by decide +kernel
theorem dX9_init_30 : decode cX9_init 30 = .ok (.putfield 22, 3) := by decide +kernel
theorem dX9_init_33 : decode cX9_init 33 = .ok (.return_, 1) := by decide +kernel
theorem dX9_add_0 : decode cX9_add 0 = .ok (.aload_n 0, 1) := by decide +kernel
theorem dX9_add_1 : decode cX9_add 1 = .ok (.getfield 9, 3) := by decide +kernel
theorem dX9_add_4 : decode cX9_add 4 = .ok (.ifCond .lt 12, 3) := by decide +kernel
theorem dX9_add_7 : decode cX9_add 7 = .ok (.aload_n 0, 1) := by decide +kernel
theorem dX9_add_8 : decode cX9_add 8 = .ok (.getfield 9, 3) := by decide +kernel
theorem dX9_add_11 : decode cX9_add 11 = .ok (.bipush 12, 2) := by decide +kernel
theorem dX9_add_13 : decode cX9_add 13 = .ok (.if_icmp .lt 4, 3) := by decide +kernel
theorem dX9_add_16 : decode cX9_add 16 = .ok (.return_, 1) := by decide +kernel
theorem dX9_add_17 : decode cX9_add 17 = .ok (.aload_n 0, 1) := by decide +kernel
theorem dX9_add_18 : decode cX9_add 18 = .ok (.getfield 15, 3) := by decide +kernel
theorem dX9_add_21 : decode cX9_add 21 = .ok (.aload_n 0, 1) := by decide +kernel
theorem dX9_add_22 : decode cX9_add 22 = .ok (.getfield 9, 3) := by decide +kernel
theorem dX9_add_25 : decode cX9_add 25 = .ok (.iload_n 1, 1) := by decide +kernel
theorem dX9_add_26 : decode cX9_add 26 = .ok (.iastore, 1) := by decide +kernel
theorem dX9_add_27 : decode cX9_add 27 = .ok (.aload_n 0, 1) := by decide +kernel
theorem dX9_add_28 : decode cX9_add 28 = .ok (.getfield 19, 3) := by decide +kernel
theorem dX9_add_31 : decode cX9_add 31 = .ok (.aload_n 0, 1) := by decide +kernel
theorem dX9_add_32 : decode cX9_add 32 = .ok (.getfield 9, 3) := by decide +kernel
theorem dX9_add_35 : decode cX9_add 35 = .ok (.iload_n 2, 1) := by decide +kernel
theorem dX9_add_36 : decode cX9_add 36 = .ok (.iastore, 1) := by decide +kernel
theorem dX9_add_37 : decode cX9_add 37 = .ok (.aload_n 0, 1) := by decide +kernel
theorem dX9_add_38 : decode cX9_add 38 = .ok (.getfield 22, 3) := by decide +kernel
theorem dX9_add_41 : decode cX9_add 41 = .ok (.aload_n 0, 1) := by decide +kernel
theorem dX9_add_42 : decode cX9_add 42 = .ok (.getfield 9, 3) := by decide +kernel
theorem dX9_add_45 : decode cX9_add 45 = .ok (.iload_n 3, 1) := by decide +kernel
theorem dX9_add_46 : decode cX9_add 46 = .ok (.iastore, 1) := by decide +kernel
theorem dX9_add_47 : decode cX9_add 47 = .ok (.aload_n 0, 1) := by decide +kernel
theorem dX9_add_48 : decode cX9_add 48 = .ok (.dup, 1) := by decide +kernel
theorem dX9_add_49 : decode cX9_add 49 = .ok (.getfield 9, 3) := by decide +kernel
theorem dX9_add_52 : decode cX9_add 52 = .ok (.iconst 1, 1) := by decide +kernel
theorem dX9_add_53 : decode cX9_add 53 = .ok (.iadd, 1) := by decide +kernel
theorem dX9_add_54 : decode cX9_add 54 = .ok (.putfield 9, 3) := by decide +kernel
theorem dX9_add_57 : decode cX9_add 57 = .ok (.return_, 1) := by decide +kernel
theorem dX9_copyFrom_0 : decode cX9_copyFrom 0 = .ok (.aload_n 0, 1) := by decide +kernel
theorem dX9_copyFrom_1 : decode cX9_copyFrom 1 = .ok (.aload_n 1, 1) := by decide +kernel
theorem dX9_copyFrom_2 : decode cX9_copyFrom 2 = .ok (.getfield 9, 3) := by decide +kernel
theorem dX9_copyFrom_5 : decode cX9_copyFrom 5 = .ok (.putfield 9, 3) := by decide +kernel
theorem dX9_copyFrom_8 : decode cX9_copyFrom 8 = .ok (.aload_n 1, 1) := by decide +kernel
theorem dX9_copyFrom_9 : decode cX9_copyFrom 9 = .ok (.getfield 15, 3) := by decide +kernel
theorem dX9_copyFrom_12 : decode cX9_copyFrom 12 = .ok (.iconst 0, 1) := by decide +kernel
theorem dX9_copyFrom_13 : decode cX9_copyFrom 13 = .ok (.aload_n 0, 1) := by decide +kernel
theorem dX9_copyFrom_14 : decode cX9_copyFrom 14 = .ok (.getfield 15, 3) := by decide +kernel
theorem dX9_copyFrom_17 : decode cX9_copyFrom 17 = .ok (.iconst 0, 1) := by decide +kernel
theorem dX9_copyFrom_18 : decode cX9_copyFrom 18 = .ok (.bipush 12, 2) := by decide +kernel
theorem dX9_copyFrom_20 : decode cX9_copyFrom 20 = .ok (.invokestatic 25, 3) := by decide +kernel
theorem dX9_copyFrom_23 : decode cX9_copyFrom 23 = .ok (.aload_n 1, 1) := by decide +kernel
theorem dX9_copyFrom_24 : decode cX9_copyFrom 24 = .ok (.getfield 19, 3) := by decide +kernel
theorem dX9_copyFrom_27 : decode cX9_copyFrom 27 = .ok (.iconst 0, 1) := by decide +kernel
theorem dX9_copyFrom_28 : decode cX9_copyFrom 28 = .ok (.aload_n 0, 1) := by decide +kernel
theorem dX9_copyFrom_29 : decode cX9_copyFrom 29 = .ok (.getfield 19, 3) := by decide +kernel
theorem dX9_copyFrom_32 : decode cX9_copyFrom 32 = .ok (.iconst 0, 1) := by decide +kernel
theorem dX9_copyFrom_33 : decode cX9_copyFrom 33 = .ok (.bipush 12, 2) := by decide +kernel
theorem dX9_copyFrom_35 : decode cX9_copyFrom 35 = .ok (.invokestatic 25, 3) := by decide +kernel
theorem dX9_copyFrom_38 : decode cX9_copyFrom 38 = .ok (.aload_n 1, 1) := by decide +kernel
theorem dX9_copyFrom_39 : decode cX9_copyFrom 39 = .ok (.getfield 22, 3) := by decide +kernel
theorem dX9_copyFrom_42 : decode cX9_copyFrom 42 = .ok (.iconst 0, 1) := by decide +kernel
theorem dX9_copyFrom_43 : decode cX9_copyFrom 43 = .ok (.aload_n 0, 1) := by decide +kernel
theorem dX9_copyFrom_44 : decode cX9_copyFrom 44 = .ok (.getfield 22, 3) := by decide +kernel
theorem dX9_copyFrom_47 : decode cX9_copyFrom 47 = .ok (.iconst 0, 1) := by decide +kernel
theorem dX9_copyFrom_48 : decode cX9_copyFrom 48 = .ok (.bipush 12, 2) := by decide +kernel
theorem dX9_copyFrom_50 : decode cX9_copyFrom 50 = .ok (.invokestatic 25, 3) := by decide +kernel
theorem dX9_copyFrom_53 : decode cX9_copyFrom 53 = .ok (.return_, 1) := by decide +kernel
theorem dX9_part_0 : decode cX9_part 0 = .ok (.iload_n 1, 1) := by decide +kernel
theorem dX9_part_1 : decode cX9_part 1 = .ok (.ifCond .lt 17, 3) := by decide +kernel
theorem dX9_part_4 : decode cX9_part 4 = .ok (.iload_n 1, 1) := by decide +kernel
theorem dX9_part_5 : decode cX9_part 5 = .ok (.aload_n 0, 1) := by decide +kernel
theorem dX9_part_6 : decode cX9_part 6 = .ok (.getfield 9, 3) := by decide +kernel
theorem dX9_part_9 : decode cX9_part 9 = .ok (.if_icmp .ge 9, 3) := by decide +kernel
theorem dX9_part_12 : decode cX9_part 12 = .ok (.iload_n 1, 1) := by decide +kernel
theorem dX9_part_13 : decode cX9_part 13 = .ok (.bipush 12, 2) := by decide +kernel
theorem dX9_part_15 : decode cX9_part 15 = .ok (.if_icmp .lt 5, 3) := by decide +kernel
theorem dX9_part_18 : decode cX9_part 18 = .ok (.iconst (-1), 1) := by decide +kernel
theorem dX9_part_19 : decode cX9_part 19 = .ok (.ireturn, 1) := by decide +kernel
theorem dX9_part_20 : decode cX9_part 20 = .ok (.iload_n 2, 1) := by decide +kernel
theorem dX9_part_21 : decode cX9_part 21 = .ok (.tableswitch 48 0 2 #[27, 34, 41], 27) := by decide +kernel
theorem dX9_part_48 : decode cX9_part 48 = .ok (.aload_n 0, 1) := by decide +kernel
theorem dX9_part_49 : decode cX9_part 49 = .ok (.getfield 15, 3) := by decide +kernel
theorem dX9_part_52 : decode cX9_part 52 = .ok (.iload_n 1, 1) := by decide +kernel
theorem dX9_part_53 : decode cX9_part 53 = .ok (.iaload, 1) := by decide +kernel
theorem dX9_part_54 : decode cX9_part 54 = .ok (.ireturn, 1) := by decide +kernel
theorem dX9_part_55 : decode cX9_part 55 = .ok (.aload_n 0, 1) := by decide +kernel
theorem dX9_part_56 : decode cX9_part 56 = .ok (.getfield 19, 3) := by decide +kernel
theorem dX9_part_59 : decode cX9_part 59 = .ok (.iload_n 1, 1) := by decide +kernel
theorem dX9_part_60 : decode cX9_part 60 = .ok (.iaload, 1) := by decide +kernel
theorem dX9_part_61 : decode cX9_part 61 = .ok (.ireturn, 1) := by decide +kernel
theorem dX9_part_62 : decode cX9_part 62 = .ok (.aload_n 0, 1) := by decide +kernel
theorem dX9_part_63 : decode cX9_part 63 = .ok (.getfield 22, 3) := by decide +kernel
theorem dX9_part_66 : decode cX9_part 66 = .ok (.iload_n 1, 1) := by decide +kernel
theorem dX9_part_67 : decode cX9_part 67 = .ok (.iaload, 1) := by decide +kernel
theorem dX9_part_68 : decode cX9_part 68 = .ok (.ireturn, 1) := by decide +kernel
theorem dX9_part_69 : decode cX9_part 69 = .ok (.iconst (-1), 1) := by decide +kernel
theorem dX9_part_70 : decode cX9_part 70 = .ok (.ireturn, 1) := by decide +kernel
theorem dX10_init_0 : decode cX10_init 0 = .ok (.aload_n 0, 1) := by decide +kernel
theorem dX10_init_1 : decode cX10_init 1 = .ok (.invokespecial 1, 3) := by decide +kernel
theorem dX10_init_4 : decode cX10_init 4 = .ok (.aload_n 0, 1) := by decide +kernel
theorem dX10_init_5 : decode cX10_init 5 = .ok (.new 7, 3) := by decide +kernel
theorem dX10_init_8 : decode cX10_init 8 = .ok (.dup, 1) := by decide +kernel
theorem dX10_init_9 : decode cX10_init 9 = .ok (.invokespecial 9, 3) := by decide +kernel
theorem dX10_init_12 : decode cX10_init 12 = .ok (.putfield 10, 3) := by decide +kernel
theorem dX10_init_15 : decode cX10_init 15 = .ok (.aload_n 0, 1) := by decide +kernel
theorem dX10_init_16 : decode cX10_init 16 = .ok (.new 7, 3) := by decide +kernel
theorem dX10_init_19 : decode cX10_init 19 = .ok (.dup, 1) := by decide +kernel
theorem dX10_init_20 : decode cX10_init 20 = .ok (.invokespecial 9, 3) := by decide +kernel
theorem dX10_init_23 : decode cX10_init 23 = .ok (.putfield 16, 3) := by decide +kernel
theorem dX10_init_26 : decode cX10_init 26 = .ok (.aload_n 0, 1) := by decide +kernel
theorem dX10_init_27 : decode cX10_init 27 = .ok (.new 7, 3) := by decide +kernel
theorem dX10_init_30 : decode cX10_init 30 = .ok (.dup, 1) := by decide +kernel
theorem dX10_init_31 : decode cX10_init 31 = .ok (.invokespecial 9, 3) := by decide +kernel
theorem dX10_init_34 : decode cX10_init 34 = .ok (.putfield 19, 3) := by decide +kernel
theorem dX10_init_37 : decode cX10_init 37 = .ok (.aload_n 0, 1) := by decide +kernel
theorem dX10_init_38 : decode cX10_init 38 = .ok (.iconst 0, 1) := by decide +kernel
theorem dX10_init_39 : decode cX10_init 39 = .ok (.putfield 22, 3) := by decide +kernel
theorem dX10_init_42 : decode cX10_init 42 = .ok (.aload_n 0, 1) := by decide +kernel
theorem dX10_init_43 : decode cX10_init 43 = .ok (.new 26, 3) := by decide +kernel
theorem dX10_init_46 : decode cX10_init 46 = .ok (.dup, 1) := by decide +kernel
theorem dX10_init_47 : decode cX10_init 47 = .ok (.invokespecial 28, 3) := by decide +kernel
theorem dX10_init_50 : decode cX10_init 50 = .ok (.putfield 29, 3) := by decide +kernel
theorem dX10_init_53 : decode cX10_init 53 = .ok (.aload_n 0, 1) := by decide +kernel
theorem dX10_init_54 : decode cX10_init 54 = .ok (.new 33, 3) := by decide +kernel
theorem dX10_init_57 : decode cX10_init 57 = .ok (.dup, 1) := by decide +kernel
theorem dX10_init_58 : decode cX10_init 58 = .ok (.invokespecial 35, 3) := by decide +kernel
theorem dX10_init_61 : decode cX10_init 61 = .ok (.putfield 36, 3) := by decide +kernel
theorem dX10_init_64 : decode cX10_init 64 = .ok (.aload_n 0, 1) := by decide +kernel
theorem dX10_init_65 : decode cX10_init 65 = .ok (.new 40, 3) := by decide +kernel
theorem dX10_init_68 : decode cX10_init 68 = .ok (.dup, 1) := by decide +kernel
theorem dX10_init_69 : decode cX10_init 69 = .ok (.invokespecial 42, 3) := by decide +kernel
theorem dX10_init_72 : decode cX10_init 72 = .ok (.putfield 43, 3) := by decide +kernel
theorem dX10_init_75 : decode cX10_init 75 = .ok (.aload_n 0, 1) := by decide +kernel
theorem dX10_init_76 : decode cX10_init 76 = .ok (.new 47, 3) := by decide +kernel
theorem dX10_init_79 : decode cX10_init 79 = .ok (.dup, 1) := by decide +kernel
theorem dX10_init_80 : decode cX10_init 80 = .ok (.invokespecial 49, 3) := by decide +kernel
theorem dX10_init_83 : decode cX10_init 83 = .ok (.putfield 50, 3) := by decide +kernel
theorem dX10_init_86 : decode cX10_init 86 = .ok (.aload_n 0, 1) := by decide +kernel
theorem dX10_init_87 : decode cX10_init 87 = .ok (.new 54, 3) := by decide +kernel
theorem dX10_init_90 : decode cX10_init 90 = .ok (.dup, 1) := by decide +kernel
theorem dX10_init_91 : decode cX10_init 91 = .ok (.invokespecial 56, 3) := by decide +kernel
theorem dX10_init_94 : decode cX10_init 94 = .ok (.putfield 57, 3) := by decide +kernel
theorem dX10_init_97 : decode cX10_init 97 = .ok (.aload_n 0, 1) := by decide +kernel
theorem dX10_init_98 : decode cX10_init 98 = .ok (.iconst 0, 1) := by decide +kernel
theorem dX10_init_99 : decode cX10_init 99 = .ok (.putfield 61, 3) := by decide +kernel
theorem dX10_init_102 : decode cX10_init 102 = .ok (.return_, 1) := by decide +kernel
theorem dX10_feed_0 : decode cX10_feed 0 = .ok (.aload_n 0, 1) := by decide +kernel
theorem dX10_feed_1 : decode cX10_feed 1 = .ok (.getfield 29, 3) := by decide +kernel
theorem dX10_feed_4 : decode cX10_feed 4 = .ok (.getfield 64, 3) := by decide +kernel
theorem dX10_feed_7 : decode cX10_feed 7 = .ok (.lload_n 1, 1) := by decide +kernel
theorem dX10_feed_8 : decode cX10_feed 8 = .ok (.invokevirtual 68, 3) := by decide +kernel
theorem dX10_feed_11 : decode cX10_feed 11 = .ok (.ireturn, 1) := by decide +kernel
theorem dX10_end_0 : decode cX10_end 0 = .ok (.iload_n 1, 1) := by decide +kernel
theorem dX10_end_1 : decode cX10_end 1 = .ok (.iconst 0, 1) := by decide +kernel
theorem dX10_end_2 : decode cX10_end 2 = .ok (.aload_n 0, 1) := by decide +kernel
theorem dX10_end_3 : decode cX10_end 3 = .ok (.getfield 29, 3) := by decide +kernel
theorem dX10_end_6 : decode cX10_end 6 = .ok (.getfield 64, 3) := by decide +kernel
theorem dX10_end_9 : decode cX10_end 9 = .ok (.getfield 74, 3) := by decide +kernel
theorem dX10_end_12 : decode cX10_end 12 = .ok (.invokestatic 77, 3) := by decide +kernel
theorem dX10_end_15 : decode cX10_end 15 = .ok (.ifCond .ne 5, 3) := by decide +kernel
theorem dX10_end_18 : decode cX10_end 18 = .ok (.iconst (-1), 1) := by decide +kernel
theorem dX10_end_19 : decode cX10_end 19 = .ok (.ireturn, 1) := by decide +kernel
theorem dX10_end_20 : decode cX10_end 20 = .ok (.aload_n 0, 1) := by decide +kernel
theorem dX10_end_21 : decode cX10_end 21 = .ok (.getfield 29, 3) := by decide +kernel
theorem dX10_end_24 : decode cX10_end 24 = .ok (.getfield 64, 3) := by decide +kernel
theorem dX10_end_27 : decode cX10_end 27 = .ok (.getfield 74, 3) := by decide +kernel
theorem dX10_end_30 : decode cX10_end 30 = .ok (.istore_n 2, 1) := by decide +kernel
theorem dX10_end_31 : decode cX10_end 31 = .ok (.aload_n 0, 1) := by decide +kernel
theorem dX10_end_32 : decode cX10_end 32 = .ok (.getfield 29, 3) := by decide +kernel
theorem dX10_end_35 : decode cX10_end 35 = .ok (.getfield 64, 3) := by decide +kernel
theorem dX10_end_38 : decode cX10_end 38 = .ok (.iload_n 1, 1) := by decide +kernel
theorem dX10_end_39 : decode cX10_end 39 = .ok (.putfield 74, 3) := by decide +kernel
theorem dX10_end_42 : decode cX10_end 42 = .ok (.iload_n 2, 1) := by decide +kernel
theorem dX10_end_43 : decode cX10_end 43 = .ok (.ireturn, 1) := by decide +kernel
theorem dX10_text_0 : decode cX10_text 0 = .ok (.aload_n 0, 1) := by decide +kernel
theorem dX10_text_1 : decode cX10_text 1 = .ok (.getfield 29, 3) := by decide +kernel
theorem dX10_text_4 : decode cX10_text 4 = .ok (.invokevirtual 81, 3) := by decide +kernel
theorem dX10_text_7 : decode cX10_text 7 = .ok (.istore_n 1, 1) := by decide +kernel
theorem dX10_text_8 : decode cX10_text 8 = .ok (.aload_n 0, 1) := by decide +kernel
theorem dX10_text_9 : decode cX10_text 9 = .ok (.getfield 29, 3) := by decide +kernel
theorem dX10_text_12 : decode cX10_text 12 = .ok (.getfield 64, 3) := by decide +kernel
theorem dX10_text_15 : decode cX10_text 15 = .ok (.iconst 0, 1) := by decide +kernel
theorem dX10_text_16 : decode cX10_text 16 = .ok (.putfield 74, 3) := by decide +kernel
theorem dX10_text_19 : decode cX10_text 19 = .ok (.aload_n 0, 1) := by decide +kernel
theorem dX10_text_20 : decode cX10_text 20 = .ok (.getfield 29, 3) := by decide +kernel
theorem dX10_text_23 : decode cX10_text 23 = .ok (.getfield 64, 3) := by decide +kernel
theorem dX10_text_26 : decode cX10_text 26 = .ok (.getfield 85, 3) := by decide +kernel
theorem dX10_text_29 : decode cX10_text 29 = .ok (.ifCond .eq 17, 3) := by decide +kernel
theorem dX10_text_32 : decode cX10_text 32 = .ok (.bipush (-10), 2) := by decide +kernel
theorem dX10_text_34 : decode cX10_text 34 = .ok (.aload_n 0, 1) := by decide +kernel
theorem dX10_text_35 : decode cX10_text 35 = .ok (.getfield 29, 3) := by decide +kernel
theorem dX10_text_38 : decode cX10_text 38 = .ok (.getfield 64, 3) := by decide +kernel
theorem dX10_text_41 : decode cX10_text 41 = .ok (.getfield 88, 3) := by decide +kernel
theorem dX10_text_44 : decode cX10_text 44 = .ok (.isub, 1) := by decide +kernel
theorem dX10_text_45 : decode cX10_text 45 = .ok (.ireturn, 1) := by decide +kernel
theorem dX10_text_46 : decode cX10_text 46 = .ok (.aload_n 0, 1) := by decide +kernel
theorem dX10_text_47 : decode cX10_text 47 = .ok (.getfield 10, 3) := by decide +kernel
theorem dX10_text_50 : decode cX10_text 50 = .ok (.aload_n 0, 1) := by decide +kernel
theorem dX10_text_51 : decode cX10_text 51 = .ok (.getfield 29, 3) := by decide +kernel
theorem dX10_text_54 : decode cX10_text 54 = .ok (.getfield 91, 3) := by decide +kernel
theorem dX10_text_57 : decode cX10_text 57 = .ok (.invokevirtual 94, 3) := by decide +kernel
theorem dX10_text_60 : decode cX10_text 60 = .ok (.aload_n 0, 1) := by decide +kernel
theorem dX10_text_61 : decode cX10_text 61 = .ok (.iconst 0, 1) := by decide +kernel
theorem dX10_text_62 : decode cX10_text 62 = .ok (.putfield 22, 3) := by decide +kernel
theorem dX10_text_65 : decode cX10_text 65 = .ok (.iload_n 1, 1) := by decide +kernel
theorem dX10_text_66 : decode cX10_text 66 = .ok (.ireturn, 1) := by decide +kernel
theorem dX10_fault_0 : decode cX10_fault 0 = .ok (.aload_n 0, 1) := by decide +kernel
theorem dX10_fault_1 : decode cX10_fault 1 = .ok (.getfield 29, 3) := by decide +kernel
theorem dX10_fault_4 : decode cX10_fault 4 = .ok (.getfield 64, 3) := by decide +kernel
theorem dX10_fault_7 : decode cX10_fault 7 = .ok (.getfield 85, 3) := by decide +kernel
theorem dX10_fault_10 : decode cX10_fault 10 = .ok (.ireturn, 1) := by decide +kernel
theorem dX10_rule_0 : decode cX10_rule 0 = .ok (.iload_n 1, 1) := by decide +kernel
theorem dX10_rule_1 : decode cX10_rule 1 = .ok (.tableswitch 75 0 4 #[35, 43, 51, 59, 67], 35) := by decide +kernel
theorem dX10_rule_36 : decode cX10_rule 36 = .ok (.aload_n 0, 1) := by decide +kernel
theorem dX10_rule_37 : decode cX10_rule 37 = .ok (.getfield 10, 3) := by decide +kernel
theorem dX10_rule_40 : decode cX10_rule 40 = .ok (.getfield 98, 3) := by decide +kernel
theorem dX10_rule_43 : decode cX10_rule 43 = .ok (.ireturn, 1) := by decide +kernel
theorem dX10_rule_44 : decode cX10_rule 44 = .ok (.aload_n 0, 1) := by decide +kernel
theorem dX10_rule_45 : decode cX10_rule 45 = .ok (.getfield 10, 3) := by decide +kernel
theorem dX10_rule_48 : decode cX10_rule 48 = .ok (.getfield 101, 3) := by decide +kernel
theorem dX10_rule_51 : decode cX10_rule 51 = .ok (.ireturn, 1) := by decide +kernel
theorem dX10_rule_52 : decode cX10_rule 52 = .ok (.aload_n 0, 1) := by decide +kernel
theorem dX10_rule_53 : decode cX10_rule 53 = .ok (.getfield 10, 3) := by decide +kernel
theorem dX10_rule_56 : decode cX10_rule 56 = .ok (.getfield 104, 3) := by decide +kernel
theorem dX10_rule_59 : decode cX10_rule 59 = .ok (.ireturn, 1) := by decide +kernel
theorem dX10_rule_60 : decode cX10_rule 60 = .ok (.aload_n 0, 1) := by decide +kernel
theorem dX10_rule_61 : decode cX10_rule 61 = .ok (.getfield 10, 3) := by decide +kernel
theorem dX10_rule_64 : decode cX10_rule 64 = .ok (.getfield 107, 3) := by decide +kernel
theorem dX10_rule_67 : decode cX10_rule 67 = .ok (.ireturn, 1) := by decide +kernel
theorem dX10_rule_68 : decode cX10_rule 68 = .ok (.aload_n 0, 1) := by decide +kernel
theorem dX10_rule_69 : decode cX10_rule 69 = .ok (.getfield 10, 3) := by decide +kernel
theorem dX10_rule_72 : decode cX10_rule 72 = .ok (.getfield 110, 3) := by decide +kernel
theorem dX10_rule_75 : decode cX10_rule 75 = .ok (.ireturn, 1) := by decide +kernel
theorem dX10_rule_76 : decode cX10_rule 76 = .ok (.iconst (-1), 1) := by decide +kernel
theorem dX10_rule_77 : decode cX10_rule 77 = .ok (.ireturn, 1) := by decide +kernel
theorem dX10_cell_0 : decode cX10_cell 0 = .ok (.aload_n 0, 1) := by decide +kernel
theorem dX10_cell_1 : decode cX10_cell 1 = .ok (.getfield 10, 3) := by decide +kernel
theorem dX10_cell_4 : decode cX10_cell 4 = .ok (.iload_n 1, 1) := by decide +kernel
theorem dX10_cell_5 : decode cX10_cell 5 = .ok (.invokevirtual 113, 3) := by decide +kernel
theorem dX10_cell_8 : decode cX10_cell 8 = .ok (.ifCond .eq 14, 3) := by decide +kernel
theorem dX10_cell_11 : decode cX10_cell 11 = .ok (.aload_n 0, 1) := by decide +kernel
theorem dX10_cell_12 : decode cX10_cell 12 = .ok (.getfield 10, 3) := by decide +kernel
theorem dX10_cell_15 : decode cX10_cell 15 = .ok (.iload_n 1, 1) := by decide +kernel
theorem dX10_cell_16 : decode cX10_cell 16 = .ok (.invokevirtual 117, 3) := by decide +kernel
theorem dX10_cell_19 : decode cX10_cell 19 = .ok (.goto 4, 3) := by decide +kernel
theorem dX10_cell_22 : decode cX10_cell 22 = .ok (.iconst (-1), 1) := by decide +kernel
theorem dX10_cell_23 : decode cX10_cell 23 = .ok (.ireturn, 1) := by decide +kernel
theorem dX10_bench_0 : decode cX10_bench 0 = .ok (.aload_n 0, 1) := by decide +kernel
theorem dX10_bench_1 : decode cX10_bench 1 = .ok (.iload_n 1, 1) := by decide +kernel
theorem dX10_bench_2 : decode cX10_bench 2 = .ok (.invokevirtual 121, 3) := by decide +kernel
theorem dX10_bench_5 : decode cX10_bench 5 = .ok (.ifCond .eq 10, 3) := by decide +kernel
theorem dX10_bench_8 : decode cX10_bench 8 = .ok (.iload_n 2, 1) := by decide +kernel
theorem dX10_bench_9 : decode cX10_bench 9 = .ok (.invokestatic 124, 3) := by decide +kernel
theorem dX10_bench_12 : decode cX10_bench 12 = .ok (.ifCond .ne 5, 3) := by decide +kernel
theorem dX10_bench_15 : decode cX10_bench 15 = .ok (.iconst (-1), 1) := by decide +kernel
theorem dX10_bench_16 : decode cX10_bench 16 = .ok (.ireturn, 1) := by decide +kernel
theorem dX10_bench_17 : decode cX10_bench 17 = .ok (.iload_n 3, 1) := by decide +kernel
theorem dX10_bench_18 : decode cX10_bench 18 = .ok (.tableswitch 100 0 4 #[34, 54, 67, 79, 91], 34) := by decide +kernel
theorem dX10_bench_52 : decode cX10_bench 52 = .ok (.aload_n 0, 1) := by decide +kernel
theorem dX10_bench_53 : decode cX10_bench 53 = .ok (.getfield 10, 3) := by decide +kernel
theorem dX10_bench_56 : decode cX10_bench 56 = .ok (.getfield 127, 3) := by decide +kernel
theorem dX10_bench_59 : decode cX10_bench 59 = .ok (.iload_n 1, 1) := by decide +kernel
theorem dX10_bench_60 : decode cX10_bench 60 = .ok (.iload_n 2, 1) := by decide +kernel
theorem dX10_bench_61 : decode cX10_bench 61 = .ok (.aload_n 0, 1) := by decide +kernel
theorem dX10_bench_62 : decode cX10_bench 62 = .ok (.getfield 10, 3) := by decide +kernel
theorem dX10_bench_65 : decode cX10_bench 65 = .ok (.getfield 98, 3) := by decide +kernel
theorem dX10_bench_68 : decode cX10_bench 68 = .ok (.invokevirtual 131, 3) := by decide +kernel
theorem dX10_bench_71 : decode cX10_bench 71 = .ok (.ireturn, 1) := by decide +kernel
theorem dX10_bench_72 : decode cX10_bench 72 = .ok (.aload_n 0, 1) := by decide +kernel
theorem dX10_bench_73 : decode cX10_bench 73 = .ok (.getfield 10, 3) := by decide +kernel
theorem dX10_bench_76 : decode cX10_bench 76 = .ok (.getfield 127, 3) := by decide +kernel
theorem dX10_bench_79 : decode cX10_bench 79 = .ok (.iload_n 1, 1) := by decide +kernel
theorem dX10_bench_80 : decode cX10_bench 80 = .ok (.iload_n 2, 1) := by decide +kernel
theorem dX10_bench_81 : decode cX10_bench 81 = .ok (.invokevirtual 137, 3) := by decide +kernel
theorem dX10_bench_84 : decode cX10_bench 84 = .ok (.ireturn, 1) := by decide +kernel
theorem dX10_bench_85 : decode cX10_bench 85 = .ok (.aload_n 0, 1) := by decide +kernel
theorem dX10_bench_86 : decode cX10_bench 86 = .ok (.getfield 10, 3) := by decide +kernel
theorem dX10_bench_89 : decode cX10_bench 89 = .ok (.getfield 127, 3) := by decide +kernel
theorem dX10_bench_92 : decode cX10_bench 92 = .ok (.iload_n 1, 1) := by decide +kernel
theorem dX10_bench_93 : decode cX10_bench 93 = .ok (.invokevirtual 141, 3) := by decide +kernel
theorem dX10_bench_96 : decode cX10_bench 96 = .ok (.ireturn, 1) := by decide +kernel
theorem dX10_bench_97 : decode cX10_bench 97 = .ok (.aload_n 0, 1) := by decide +kernel
theorem dX10_bench_98 : decode cX10_bench 98 = .ok (.getfield 10, 3) := by decide +kernel
theorem dX10_bench_101 : decode cX10_bench 101 = .ok (.getfield 127, 3) := by decide +kernel
theorem dX10_bench_104 : decode cX10_bench 104 = .ok (.iload_n 1, 1) := by decide +kernel
theorem dX10_bench_105 : decode cX10_bench 105 = .ok (.invokevirtual 144, 3) := by decide +kernel
theorem dX10_bench_108 : decode cX10_bench 108 = .ok (.ireturn, 1) := by decide +kernel
theorem dX10_bench_109 : decode cX10_bench 109 = .ok (.aload_n 0, 1) := by decide +kernel
theorem dX10_bench_110 : decode cX10_bench 110 = .ok (.getfield 10, 3) := by decide +kernel
theorem dX10_bench_113 : decode cX10_bench 113 = .ok (.iload_n 1, 1) := by decide +kernel
theorem dX10_bench_114 : decode cX10_bench 114 = .ok (.invokevirtual 147, 3) := by decide +kernel
theorem dX10_bench_117 : decode cX10_bench 117 = .ok (.ireturn, 1) := by decide +kernel
theorem dX10_bench_118 : decode cX10_bench 118 = .ok (.iconst (-1), 1) := by decide +kernel
theorem dX10_bench_119 : decode cX10_bench 119 = .ok (.ireturn, 1) := by decide +kernel
theorem dX10_want_0 : decode cX10_want 0 = .ok (.aload_n 0, 1) := by decide +kernel
theorem dX10_want_1 : decode cX10_want 1 = .ok (.getfield 10, 3) := by decide +kernel
theorem dX10_want_4 : decode cX10_want 4 = .ok (.getfield 150, 3) := by decide +kernel
theorem dX10_want_7 : decode cX10_want 7 = .ok (.iload_n 1, 1) := by decide +kernel
theorem dX10_want_8 : decode cX10_want 8 = .ok (.iload_n 2, 1) := by decide +kernel
theorem dX10_want_9 : decode cX10_want 9 = .ok (.invokevirtual 154, 3) := by decide +kernel
theorem dX10_want_12 : decode cX10_want 12 = .ok (.ireturn, 1) := by decide +kernel
theorem dX10_hang_0 : decode cX10_hang 0 = .ok (.aload_n 0, 1) := by decide +kernel
theorem dX10_hang_1 : decode cX10_hang 1 = .ok (.getfield 10, 3) := by decide +kernel
theorem dX10_hang_4 : decode cX10_hang 4 = .ok (.iload_n 1, 1) := by decide +kernel
theorem dX10_hang_5 : decode cX10_hang 5 = .ok (.invokevirtual 113, 3) := by decide +kernel
theorem dX10_hang_8 : decode cX10_hang 8 = .ok (.ifCond .eq 12, 3) := by decide +kernel
theorem dX10_hang_11 : decode cX10_hang 11 = .ok (.iload_n 2, 1) := by decide +kernel
theorem dX10_hang_12 : decode cX10_hang 12 = .ok (.iconst 0, 1) := by decide +kernel
theorem dX10_hang_13 : decode cX10_hang 13 = .ok (.iconst 2, 1) := by decide +kernel
theorem dX10_hang_14 : decode cX10_hang 14 = .ok (.invokestatic 77, 3) := by decide +kernel
theorem dX10_hang_17 : decode cX10_hang 17 = .ok (.ifCond .ne 5, 3) := by decide +kernel
theorem dX10_hang_20 : decode cX10_hang 20 = .ok (.iconst (-1), 1) := by decide +kernel
theorem dX10_hang_21 : decode cX10_hang 21 = .ok (.ireturn, 1) := by decide +kernel
theorem dX10_hang_22 : decode cX10_hang 22 = .ok (.iload_n 2, 1) := by decide +kernel
theorem dX10_hang_23 : decode cX10_hang 23 = .ok (.ifCond .eq 20, 3) := by decide +kernel
theorem dX10_hang_26 : decode cX10_hang 26 = .ok (.aload_n 0, 1) := by decide +kernel
theorem dX10_hang_27 : decode cX10_hang 27 = .ok (.getfield 10, 3) := by decide +kernel
theorem dX10_hang_30 : decode cX10_hang 30 = .ok (.getfield 127, 3) := by decide +kernel
theorem dX10_hang_33 : decode cX10_hang 33 = .ok (.iload_n 1, 1) := by decide +kernel
theorem dX10_hang_34 : decode cX10_hang 34 = .ok (.invokevirtual 159, 3) := by decide +kernel
theorem dX10_hang_37 : decode cX10_hang 37 = .ok (.ifCond .eq 6, 3) := by decide +kernel
theorem dX10_hang_40 : decode cX10_hang 40 = .ok (.bipush (-2), 2) := by decide +kernel
theorem dX10_hang_42 : decode cX10_hang 42 = .ok (.ireturn, 1) := by decide +kernel
theorem dX10_hang_43 : decode cX10_hang 43 = .ok (.aload_n 0, 1) := by decide +kernel
theorem dX10_hang_44 : decode cX10_hang 44 = .ok (.getfield 10, 3) := by decide +kernel
theorem dX10_hang_47 : decode cX10_hang 47 = .ok (.iload_n 1, 1) := by decide +kernel
theorem dX10_hang_48 : decode cX10_hang 48 = .ok (.invokevirtual 117, 3) := by decide +kernel
theorem dX10_hang_51 : decode cX10_hang 51 = .ok (.istore_n 3, 1) := by decide +kernel
theorem dX10_hang_52 : decode cX10_hang 52 = .ok (.aload_n 0, 1) := by decide +kernel
theorem dX10_hang_53 : decode cX10_hang 53 = .ok (.getfield 10, 3) := by decide +kernel
theorem dX10_hang_56 : decode cX10_hang 56 = .ok (.iload_n 1, 1) := by decide +kernel
theorem dX10_hang_57 : decode cX10_hang 57 = .ok (.iload_n 2, 1) := by decide +kernel
theorem dX10_hang_58 : decode cX10_hang 58 = .ok (.invokevirtual 162, 3) := by decide +kernel
theorem dX10_hang_61 : decode cX10_hang 61 = .ok (.iload_n 3, 1) := by decide +kernel
theorem dX10_hang_62 : decode cX10_hang 62 = .ok (.ireturn, 1) := by decide +kernel
theorem dX10_warm_0 : decode cX10_warm 0 = .ok (.iload_n 1, 1) := by decide +kernel
theorem dX10_warm_1 : decode cX10_warm 1 = .ok (.iconst 0, 1) := by decide +kernel
theorem dX10_warm_2 : decode cX10_warm 2 = .ok (.bipush 9, 2) := by decide +kernel
theorem dX10_warm_4 : decode cX10_warm 4 = .ok (.invokestatic 77, 3) := by decide +kernel
theorem dX10_warm_7 : decode cX10_warm 7 = .ok (.ifCond .ne 5, 3) := by decide +kernel
theorem dX10_warm_10 : decode cX10_warm 10 = .ok (.iconst (-1), 1) := by decide +kernel
theorem dX10_warm_11 : decode cX10_warm 11 = .ok (.ireturn, 1) := by decide +kernel
theorem dX10_warm_12 : decode cX10_warm 12 = .ok (.aload_n 0, 1) := by decide +kernel
theorem dX10_warm_13 : decode cX10_warm 13 = .ok (.getfield 10, 3) := by decide +kernel
theorem dX10_warm_16 : decode cX10_warm 16 = .ok (.getfield 110, 3) := by decide +kernel
theorem dX10_warm_19 : decode cX10_warm 19 = .ok (.istore_n 2, 1) := by decide +kernel
theorem dX10_warm_20 : decode cX10_warm 20 = .ok (.aload_n 0, 1) := by decide +kernel
theorem dX10_warm_21 : decode cX10_warm 21 = .ok (.getfield 10, 3) := by decide +kernel
theorem dX10_warm_24 : decode cX10_warm 24 = .ok (.iload_n 1, 1) := by decide +kernel
theorem dX10_warm_25 : decode cX10_warm 25 = .ok (.putfield 110, 3) := by decide +kernel
theorem dX10_warm_28 : decode cX10_warm 28 = .ok (.iload_n 2, 1) := by decide +kernel
theorem dX10_warm_29 : decode cX10_warm 29 = .ok (.ireturn, 1) := by decide +kernel
theorem dX10_sit_0 : decode cX10_sit 0 = .ok (.aload_n 0, 1) := by decide +kernel
theorem dX10_sit_1 : decode cX10_sit 1 = .ok (.iload_n 1, 1) := by decide +kernel
theorem dX10_sit_2 : decode cX10_sit 2 = .ok (.invokevirtual 166, 3) := by decide +kernel
theorem dX10_sit_5 : decode cX10_sit 5 = .ok (.ifCond .eq 11, 3) := by decide +kernel
theorem dX10_sit_8 : decode cX10_sit 8 = .ok (.aload_n 0, 1) := by decide +kernel
theorem dX10_sit_9 : decode cX10_sit 9 = .ok (.iload_n 2, 1) := by decide +kernel
theorem dX10_sit_10 : decode cX10_sit 10 = .ok (.invokevirtual 121, 3) := by decide +kernel
theorem dX10_sit_13 : decode cX10_sit 13 = .ok (.ifCond .ne 5, 3) := by decide +kernel
theorem dX10_sit_16 : decode cX10_sit 16 = .ok (.iconst (-1), 1) := by decide +kernel
theorem dX10_sit_17 : decode cX10_sit 17 = .ok (.ireturn, 1) := by decide +kernel
theorem dX10_sit_18 : decode cX10_sit 18 = .ok (.aload_n 0, 1) := by decide +kernel
theorem dX10_sit_19 : decode cX10_sit 19 = .ok (.getfield 10, 3) := by decide +kernel
theorem dX10_sit_22 : decode cX10_sit 22 = .ok (.iload_n 1, 1) := by decide +kernel
theorem dX10_sit_23 : decode cX10_sit 23 = .ok (.iload_n 2, 1) := by decide +kernel
theorem dX10_sit_24 : decode cX10_sit 24 = .ok (.invokevirtual 169, 3) := by decide +kernel
theorem dX10_sit_27 : decode cX10_sit 27 = .ok (.ireturn, 1) := by decide +kernel
theorem dX10_way_0 : decode cX10_way 0 = .ok (.aload_n 0, 1) := by decide +kernel
theorem dX10_way_1 : decode cX10_way 1 = .ok (.iload_n 1, 1) := by decide +kernel
theorem dX10_way_2 : decode cX10_way 2 = .ok (.invokevirtual 121, 3) := by decide +kernel
theorem dX10_way_5 : decode cX10_way 5 = .ok (.ifCond .eq 20, 3) := by decide +kernel
theorem dX10_way_8 : decode cX10_way 8 = .ok (.iload_n 2, 1) := by decide +kernel
theorem dX10_way_9 : decode cX10_way 9 = .ok (.invokestatic 124, 3) := by decide +kernel
theorem dX10_way_12 : decode cX10_way 12 = .ok (.ifCond .eq 13, 3) := by decide +kernel
theorem dX10_way_15 : decode cX10_way 15 = .ok (.iload_n 3, 1) := by decide +kernel
theorem dX10_way_16 : decode cX10_way 16 = .ok (.iconst 0, 1) := by decide +kernel
theorem dX10_way_17 : decode cX10_way 17 = .ok (.bipush 40, 2) := by decide +kernel
theorem dX10_way_19 : decode cX10_way 19 = .ok (.invokestatic 77, 3) := by decide +kernel
theorem dX10_way_22 : decode cX10_way 22 = .ok (.ifCond .ne 5, 3) := by decide +kernel
theorem dX10_way_25 : decode cX10_way 25 = .ok (.iconst (-1), 1) := by decide +kernel
theorem dX10_way_26 : decode cX10_way 26 = .ok (.ireturn, 1) := by decide +kernel
theorem dX10_way_27 : decode cX10_way 27 = .ok (.aload_n 0, 1) := by decide +kernel
theorem dX10_way_28 : decode cX10_way 28 = .ok (.getfield 36, 3) := by decide +kernel
theorem dX10_way_31 : decode cX10_way 31 = .ok (.aload_n 0, 1) := by decide +kernel
theorem dX10_way_32 : decode cX10_way 32 = .ok (.getfield 10, 3) := by decide +kernel
theorem dX10_way_35 : decode cX10_way 35 = .ok (.iload_n 1, 1) := by decide +kernel
theorem dX10_way_36 : decode cX10_way 36 = .ok (.iload_n 2, 1) := by decide +kernel
theorem dX10_way_37 : decode cX10_way 37 = .ok (.invokevirtual 172, 3) := by decide +kernel
theorem dX10_way_40 : decode cX10_way 40 = .ok (.aload_n 0, 1) := by decide +kernel
theorem dX10_way_41 : decode cX10_way 41 = .ok (.getfield 36, 3) := by decide +kernel
theorem dX10_way_44 : decode cX10_way 44 = .ok (.getfield 176, 3) := by decide +kernel
theorem dX10_way_47 : decode cX10_way 47 = .ok (.iload_n 3, 1) := by decide +kernel
theorem dX10_way_48 : decode cX10_way 48 = .ok (.invokevirtual 180, 3) := by decide +kernel
theorem dX10_way_51 : decode cX10_way 51 = .ok (.ireturn, 1) := by decide +kernel
theorem dX10_steps_0 : decode cX10_steps 0 = .ok (.aload_n 0, 1) := by decide +kernel
theorem dX10_steps_1 : decode cX10_steps 1 = .ok (.iload_n 1, 1) := by decide +kernel
theorem dX10_steps_2 : decode cX10_steps 2 = .ok (.invokevirtual 121, 3) := by decide +kernel
theorem dX10_steps_5 : decode cX10_steps 5 = .ok (.ifCond .eq 10, 3) := by decide +kernel
theorem dX10_steps_8 : decode cX10_steps 8 = .ok (.iload_n 2, 1) := by decide +kernel
theorem dX10_steps_9 : decode cX10_steps 9 = .ok (.invokestatic 124, 3) := by decide +kernel
theorem dX10_steps_12 : decode cX10_steps 12 = .ok (.ifCond .ne 5, 3) := by decide +kernel
theorem dX10_steps_15 : decode cX10_steps 15 = .ok (.iconst (-1), 1) := by decide +kernel
theorem dX10_steps_16 : decode cX10_steps 16 = .ok (.ireturn, 1) := by decide +kernel
theorem dX10_steps_17 : decode cX10_steps 17 = .ok (.aload_n 0, 1) := by decide +kernel
theorem dX10_steps_18 : decode cX10_steps 18 = .ok (.getfield 36, 3) := by decide +kernel
theorem dX10_steps_21 : decode cX10_steps 21 = .ok (.aload_n 0, 1) := by decide +kernel
theorem dX10_steps_22 : decode cX10_steps 22 = .ok (.getfield 10, 3) := by decide +kernel
theorem dX10_steps_25 : decode cX10_steps 25 = .ok (.iload_n 1, 1) := by decide +kernel
theorem dX10_steps_26 : decode cX10_steps 26 = .ok (.iload_n 2, 1) := by decide +kernel
theorem dX10_steps_27 : decode cX10_steps 27 = .ok (.invokevirtual 172, 3) := by decide +kernel
theorem dX10_steps_30 : decode cX10_steps 30 = .ok (.aload_n 0, 1) := by decide +kernel
theorem dX10_steps_31 : decode cX10_steps 31 = .ok (.getfield 36, 3) := by decide +kernel
theorem dX10_steps_34 : decode cX10_steps 34 = .ok (.getfield 176, 3) := by decide +kernel
theorem dX10_steps_37 : decode cX10_steps 37 = .ok (.getfield 185, 3) := by decide +kernel
theorem dX10_steps_40 : decode cX10_steps 40 = .ok (.ireturn, 1) := by decide +kernel
theorem dX10_hears_0 : decode cX10_hears 0 = .ok (.aload_n 0, 1) := by decide +kernel
theorem dX10_hears_1 : decode cX10_hears 1 = .ok (.iload_n 1, 1) := by decide +kernel
theorem dX10_hears_2 : decode cX10_hears 2 = .ok (.invokevirtual 121, 3) := by decide +kernel
theorem dX10_hears_5 : decode cX10_hears 5 = .ok (.ifCond .eq 33, 3) := by decide +kernel
theorem dX10_hears_8 : decode cX10_hears 8 = .ok (.aload_n 0, 1) := by decide +kernel
theorem dX10_hears_9 : decode cX10_hears 9 = .ok (.iload_n 2, 1) := by decide +kernel
theorem dX10_hears_10 : decode cX10_hears 10 = .ok (.invokevirtual 121, 3) := by decide +kernel
theorem dX10_hears_13 : decode cX10_hears 13 = .ok (.ifCond .eq 25, 3) := by decide +kernel
theorem dX10_hears_16 : decode cX10_hears 16 = .ok (.iload_n 1, 1) := by decide +kernel
theorem dX10_hears_17 : decode cX10_hears 17 = .ok (.iload_n 2, 1) := by decide +kernel
theorem dX10_hears_18 : decode cX10_hears 18 = .ok (.if_icmp .eq 20, 3) := by decide +kernel
theorem dX10_hears_21 : decode cX10_hears 21 = .ok (.iload_n 3, 1) := by decide +kernel
theorem dX10_hears_22 : decode cX10_hears 22 = .ok (.invokestatic 124, 3) := by decide +kernel
theorem dX10_hears_25 : decode cX10_hears 25 = .ok (.ifCond .eq 13, 3) := by decide +kernel
theorem dX10_hears_28 : decode cX10_hears 28 = .ok (.iload 4, 2) := by decide +kernel
theorem dX10_hears_30 : decode cX10_hears 30 = .ok (.iconst 0, 1) := by decide +kernel
theorem dX10_hears_31 : decode cX10_hears 31 = .ok (.iconst 2, 1) := by decide +kernel
theorem dX10_hears_32 : decode cX10_hears 32 = .ok (.invokestatic 77, 3) := by decide +kernel
theorem dX10_hears_35 : decode cX10_hears 35 = .ok (.ifCond .ne 5, 3) := by decide +kernel
theorem dX10_hears_38 : decode cX10_hears 38 = .ok (.iconst (-1), 1) := by decide +kernel
theorem dX10_hears_39 : decode cX10_hears 39 = .ok (.ireturn, 1) := by decide +kernel
theorem dX10_hears_40 : decode cX10_hears 40 = .ok (.aload_n 0, 1) := by decide +kernel
theorem dX10_hears_41 : decode cX10_hears 41 = .ok (.getfield 36, 3) := by decide +kernel
theorem dX10_hears_44 : decode cX10_hears 44 = .ok (.aload_n 0, 1) := by decide +kernel
theorem dX10_hears_45 : decode cX10_hears 45 = .ok (.getfield 10, 3) := by decide +kernel
theorem dX10_hears_48 : decode cX10_hears 48 = .ok (.iload_n 1, 1) := by decide +kernel
theorem dX10_hears_49 : decode cX10_hears 49 = .ok (.iload_n 3, 1) := by decide +kernel
theorem dX10_hears_50 : decode cX10_hears 50 = .ok (.invokevirtual 172, 3) := by decide +kernel
theorem dX10_hears_53 : decode cX10_hears 53 = .ok (.aload_n 0, 1) := by decide +kernel
theorem dX10_hears_54 : decode cX10_hears 54 = .ok (.getfield 36, 3) := by decide +kernel
theorem dX10_hears_57 : decode cX10_hears 57 = .ok (.aload_n 0, 1) := by decide +kernel
theorem dX10_hears_58 : decode cX10_hears 58 = .ok (.getfield 10, 3) := by decide +kernel
theorem dX10_hears_61 : decode cX10_hears 61 = .ok (.iload_n 2, 1) := by decide +kernel
theorem dX10_hears_62 : decode cX10_hears 62 = .ok (.iload_n 3, 1) := by decide +kernel
theorem dX10_hears_63 : decode cX10_hears 63 = .ok (.invokevirtual 186, 3) := by decide +kernel
theorem dX10_hears_66 : decode cX10_hears 66 = .ok (.istore 5, 2) := by decide +kernel
theorem dX10_hears_68 : decode cX10_hears 68 = .ok (.iload 5, 2) := by decide +kernel
theorem dX10_hears_70 : decode cX10_hears 70 = .ok (.ifCond .ne 6, 3) := by decide +kernel
theorem dX10_hears_73 : decode cX10_hears 73 = .ok (.bipush (-4), 2) := by decide +kernel
theorem dX10_hears_75 : decode cX10_hears 75 = .ok (.ireturn, 1) := by decide +kernel
theorem dX10_hears_76 : decode cX10_hears 76 = .ok (.iload 4, 2) := by decide +kernel
theorem dX10_hears_78 : decode cX10_hears 78 = .ok (.ifCond .ne 16, 3) := by decide +kernel
theorem dX10_hears_81 : decode cX10_hears 81 = .ok (.aload_n 0, 1) := by decide +kernel
theorem dX10_hears_82 : decode cX10_hears 82 = .ok (.getfield 36, 3) := by decide +kernel
theorem dX10_hears_85 : decode cX10_hears 85 = .ok (.getfield 176, 3) := by decide +kernel
theorem dX10_hears_88 : decode cX10_hears 88 = .ok (.iload 5, 2) := by decide +kernel
theorem dX10_hears_90 : decode cX10_hears 90 = .ok (.invokevirtual 190, 3) := by decide +kernel
theorem dX10_hears_93 : decode cX10_hears 93 = .ok (.ireturn, 1) := by decide +kernel
theorem dX10_hears_94 : decode cX10_hears 94 = .ok (.iload 4, 2) := by decide +kernel
theorem dX10_hears_96 : decode cX10_hears 96 = .ok (.iconst 1, 1) := by decide +kernel
theorem dX10_hears_97 : decode cX10_hears 97 = .ok (.if_icmp .ne 8, 3) := by decide +kernel
theorem dX10_hears_100 : decode cX10_hears 100 = .ok (.iload 5, 2) := by decide +kernel
theorem dX10_hears_102 : decode cX10_hears 102 = .ok (.goto 15, 3) := by decide +kernel
theorem dX10_hears_105 : decode cX10_hears 105 = .ok (.aload_n 0, 1) := by decide +kernel
theorem dX10_hears_106 : decode cX10_hears 106 = .ok (.getfield 36, 3) := by decide +kernel
theorem dX10_hears_109 : decode cX10_hears 109 = .ok (.getfield 176, 3) := by decide +kernel
theorem dX10_hears_112 : decode cX10_hears 112 = .ok (.iload 5, 2) := by decide +kernel
theorem dX10_hears_114 : decode cX10_hears 114 = .ok (.invokevirtual 193, 3) := by decide +kernel
theorem dX10_hears_117 : decode cX10_hears 117 = .ok (.ireturn, 1) := by decide +kernel
theorem dX10_heard_0 : decode cX10_heard 0 = .ok (.aload_n 0, 1) := by decide +kernel
theorem dX10_heard_1 : decode cX10_heard 1 = .ok (.iload_n 1, 1) := by decide +kernel
theorem dX10_heard_2 : decode cX10_heard 2 = .ok (.invokevirtual 121, 3) := by decide +kernel
theorem dX10_heard_5 : decode cX10_heard 5 = .ok (.ifCond .eq 26, 3) := by decide +kernel
theorem dX10_heard_8 : decode cX10_heard 8 = .ok (.iload_n 2, 1) := by decide +kernel
theorem dX10_heard_9 : decode cX10_heard 9 = .ok (.invokestatic 124, 3) := by decide +kernel
theorem dX10_heard_12 : decode cX10_heard 12 = .ok (.ifCond .eq 19, 3) := by decide +kernel
theorem dX10_heard_15 : decode cX10_heard 15 = .ok (.aload_n 0, 1) := by decide +kernel
theorem dX10_heard_16 : decode cX10_heard 16 = .ok (.getfield 36, 3) := by decide +kernel
theorem dX10_heard_19 : decode cX10_heard 19 = .ok (.aload_n 0, 1) := by decide +kernel
theorem dX10_heard_20 : decode cX10_heard 20 = .ok (.getfield 10, 3) := by decide +kernel
theorem dX10_heard_23 : decode cX10_heard 23 = .ok (.iload_n 1, 1) := by decide +kernel
theorem dX10_heard_24 : decode cX10_heard 24 = .ok (.iload_n 2, 1) := by decide +kernel
theorem dX10_heard_25 : decode cX10_heard 25 = .ok (.invokevirtual 196, 3) := by decide +kernel
theorem dX10_heard_28 : decode cX10_heard 28 = .ok (.goto 4, 3) := by decide +kernel
theorem dX10_heard_31 : decode cX10_heard 31 = .ok (.iconst (-1), 1) := by decide +kernel
theorem dX10_heard_32 : decode cX10_heard 32 = .ok (.ireturn, 1) := by decide +kernel
theorem dX10_answer_0 : decode cX10_answer 0 = .ok (.aload_n 0, 1) := by decide +kernel
theorem dX10_answer_1 : decode cX10_answer 1 = .ok (.iload_n 1, 1) := by decide +kernel
theorem dX10_answer_2 : decode cX10_answer 2 = .ok (.invokevirtual 121, 3) := by decide +kernel
theorem dX10_answer_5 : decode cX10_answer 5 = .ok (.ifCond .eq 10, 3) := by decide +kernel
theorem dX10_answer_8 : decode cX10_answer 8 = .ok (.iload_n 2, 1) := by decide +kernel
theorem dX10_answer_9 : decode cX10_answer 9 = .ok (.invokestatic 124, 3) := by decide +kernel
theorem dX10_answer_12 : decode cX10_answer 12 = .ok (.ifCond .ne 5, 3) := by decide +kernel
theorem dX10_answer_15 : decode cX10_answer 15 = .ok (.iconst (-1), 1) := by decide +kernel
theorem dX10_answer_16 : decode cX10_answer 16 = .ok (.ireturn, 1) := by decide +kernel
theorem dX10_answer_17 : decode cX10_answer 17 = .ok (.aload_n 0, 1) := by decide +kernel
theorem dX10_answer_18 : decode cX10_answer 18 = .ok (.getfield 36, 3) := by decide +kernel
theorem dX10_answer_21 : decode cX10_answer 21 = .ok (.aload_n 0, 1) := by decide +kernel
theorem dX10_answer_22 : decode cX10_answer 22 = .ok (.getfield 10, 3) := by decide +kernel
theorem dX10_answer_25 : decode cX10_answer 25 = .ok (.iload_n 1, 1) := by decide +kernel
theorem dX10_answer_26 : decode cX10_answer 26 = .ok (.iload_n 2, 1) := by decide +kernel
theorem dX10_answer_27 : decode cX10_answer 27 = .ok (.invokevirtual 196, 3) := by decide +kernel
theorem dX10_answer_30 : decode cX10_answer 30 = .ok (.istore_n 3, 1) := by decide +kernel
theorem dX10_answer_31 : decode cX10_answer 31 = .ok (.iconst 0, 1) := by decide +kernel
theorem dX10_answer_32 : decode cX10_answer 32 = .ok (.istore 4, 2) := by decide +kernel
theorem dX10_answer_34 : decode cX10_answer 34 = .ok (.iload 4, 2) := by decide +kernel
theorem dX10_answer_36 : decode cX10_answer 36 = .ok (.aload_n 0, 1) := by decide +kernel
theorem dX10_answer_37 : decode cX10_answer 37 = .ok (.getfield 10, 3) := by decide +kernel
theorem dX10_answer_40 : decode cX10_answer 40 = .ok (.getfield 127, 3) := by decide +kernel
theorem dX10_answer_43 : decode cX10_answer 43 = .ok (.getfield 199, 3) := by decide +kernel
theorem dX10_answer_46 : decode cX10_answer 46 = .ok (.if_icmp .ge 45, 3) := by decide +kernel
theorem dX10_answer_49 : decode cX10_answer 49 = .ok (.iload_n 3, 1) := by decide +kernel
theorem dX10_answer_50 : decode cX10_answer 50 = .ok (.iconst 1, 1) := by decide +kernel
theorem dX10_answer_51 : decode cX10_answer 51 = .ok (.iload 4, 2) := by decide +kernel
theorem dX10_answer_53 : decode cX10_answer 53 = .ok (.ishl, 1) := by decide +kernel
theorem dX10_answer_54 : decode cX10_answer 54 = .ok (.if_icmp .ne 31, 3) := by decide +kernel
theorem dX10_answer_57 : decode cX10_answer 57 = .ok (.aload_n 0, 1) := by decide +kernel
theorem dX10_answer_58 : decode cX10_answer 58 = .ok (.getfield 36, 3) := by decide +kernel
theorem dX10_answer_61 : decode cX10_answer 61 = .ok (.aload_n 0, 1) := by decide +kernel
theorem dX10_answer_62 : decode cX10_answer 62 = .ok (.getfield 10, 3) := by decide +kernel
theorem dX10_answer_65 : decode cX10_answer 65 = .ok (.iload 4, 2) := by decide +kernel
theorem dX10_answer_67 : decode cX10_answer 67 = .ok (.iload_n 2, 1) := by decide +kernel
theorem dX10_answer_68 : decode cX10_answer 68 = .ok (.invokevirtual 196, 3) := by decide +kernel
theorem dX10_answer_71 : decode cX10_answer 71 = .ok (.iconst 1, 1) := by decide +kernel
theorem dX10_answer_72 : decode cX10_answer 72 = .ok (.iload_n 1, 1) := by decide +kernel
theorem dX10_answer_73 : decode cX10_answer 73 = .ok (.ishl, 1) := by decide +kernel
theorem dX10_answer_74 : decode cX10_answer 74 = .ok (.if_icmp .ne 8, 3) := by decide +kernel
theorem dX10_answer_77 : decode cX10_answer 77 = .ok (.iload 4, 2) := by decide +kernel
theorem dX10_answer_79 : decode cX10_answer 79 = .ok (.goto 5, 3) := by decide +kernel
theorem dX10_answer_82 : decode cX10_answer 82 = .ok (.bipush (-4), 2) := by decide +kernel
theorem dX10_answer_84 : decode cX10_answer 84 = .ok (.ireturn, 1) := by decide +kernel
theorem dX10_answer_85 : decode cX10_answer 85 = .ok (.iinc 4 1, 3) := by decide +kernel
theorem dX10_answer_88 : decode cX10_answer 88 = .ok (.goto (-54), 3) := by decide +kernel
theorem dX10_answer_91 : decode cX10_answer 91 = .ok (.bipush (-4), 2) := by decide +kernel
theorem dX10_answer_93 : decode cX10_answer 93 = .ok (.ireturn, 1) := by decide +kernel
theorem dX10_can_0 : decode cX10_can 0 = .ok (.aload_n 0, 1) := by decide +kernel
theorem dX10_can_1 : decode cX10_can 1 = .ok (.iload_n 1, 1) := by decide +kernel
theorem dX10_can_2 : decode cX10_can 2 = .ok (.invokevirtual 166, 3) := by decide +kernel
theorem dX10_can_5 : decode cX10_can 5 = .ok (.ifCond .eq 23, 3) := by decide +kernel
theorem dX10_can_8 : decode cX10_can 8 = .ok (.aload_n 0, 1) := by decide +kernel
theorem dX10_can_9 : decode cX10_can 9 = .ok (.iload_n 2, 1) := by decide +kernel
theorem dX10_can_10 : decode cX10_can 10 = .ok (.invokevirtual 166, 3) := by decide +kernel
theorem dX10_can_13 : decode cX10_can 13 = .ok (.ifCond .eq 15, 3) := by decide +kernel
theorem dX10_can_16 : decode cX10_can 16 = .ok (.iload_n 1, 1) := by decide +kernel
theorem dX10_can_17 : decode cX10_can 17 = .ok (.iload_n 2, 1) := by decide +kernel
theorem dX10_can_18 : decode cX10_can 18 = .ok (.if_icmp .eq 10, 3) := by decide +kernel
theorem dX10_can_21 : decode cX10_can 21 = .ok (.iload_n 3, 1) := by decide +kernel
theorem dX10_can_22 : decode cX10_can 22 = .ok (.invokestatic 124, 3) := by decide +kernel
theorem dX10_can_25 : decode cX10_can 25 = .ok (.ifCond .ne 5, 3) := by decide +kernel
theorem dX10_can_28 : decode cX10_can 28 = .ok (.iconst (-1), 1) := by decide +kernel
theorem dX10_can_29 : decode cX10_can 29 = .ok (.ireturn, 1) := by decide +kernel
theorem dX10_can_30 : decode cX10_can 30 = .ok (.aload_n 0, 1) := by decide +kernel
theorem dX10_can_31 : decode cX10_can 31 = .ok (.getfield 36, 3) := by decide +kernel
theorem dX10_can_34 : decode cX10_can 34 = .ok (.aload_n 0, 1) := by decide +kernel
theorem dX10_can_35 : decode cX10_can 35 = .ok (.getfield 10, 3) := by decide +kernel
theorem dX10_can_38 : decode cX10_can 38 = .ok (.iload_n 1, 1) := by decide +kernel
theorem dX10_can_39 : decode cX10_can 39 = .ok (.iload_n 3, 1) := by decide +kernel
theorem dX10_can_40 : decode cX10_can 40 = .ok (.invokevirtual 202, 3) := by decide +kernel
theorem dX10_can_43 : decode cX10_can 43 = .ok (.iload_n 2, 1) := by decide +kernel
theorem dX10_can_44 : decode cX10_can 44 = .ok (.invokestatic 205, 3) := by decide +kernel
theorem dX10_can_47 : decode cX10_can 47 = .ok (.ireturn, 1) := by decide +kernel
theorem dX10_broken_0 : decode cX10_broken 0 = .ok (.iload_n 1, 1) := by decide +kernel
theorem dX10_broken_1 : decode cX10_broken 1 = .ok (.invokestatic 124, 3) := by decide +kernel
theorem dX10_broken_4 : decode cX10_broken 4 = .ok (.ifCond .eq 18, 3) := by decide +kernel
theorem dX10_broken_7 : decode cX10_broken 7 = .ok (.aload_n 0, 1) := by decide +kernel
theorem dX10_broken_8 : decode cX10_broken 8 = .ok (.getfield 36, 3) := by decide +kernel
theorem dX10_broken_11 : decode cX10_broken 11 = .ok (.aload_n 0, 1) := by decide +kernel
theorem dX10_broken_12 : decode cX10_broken 12 = .ok (.getfield 10, 3) := by decide +kernel
theorem dX10_broken_15 : decode cX10_broken 15 = .ok (.iload_n 1, 1) := by decide +kernel
theorem dX10_broken_16 : decode cX10_broken 16 = .ok (.invokevirtual 208, 3) := by decide +kernel
theorem dX10_broken_19 : decode cX10_broken 19 = .ok (.goto 4, 3) := by decide +kernel
theorem dX10_broken_22 : decode cX10_broken 22 = .ok (.iconst (-1), 1) := by decide +kernel
theorem dX10_broken_23 : decode cX10_broken 23 = .ok (.ireturn, 1) := by decide +kernel
theorem dX10_seating_0 : decode cX10_seating 0 = .ok (.iload_n 2, 1) := by decide +kernel
theorem dX10_seating_1 : decode cX10_seating 1 = .ok (.bipush 10, 2) := by decide +kernel
theorem dX10_seating_3 : decode cX10_seating 3 = .ok (.if_icmp .lt 18, 3) := by decide +kernel
theorem dX10_seating_6 : decode cX10_seating 6 = .ok (.aload_n 0, 1) := by decide +kernel
theorem dX10_seating_7 : decode cX10_seating 7 = .ok (.iload_n 2, 1) := by decide +kernel
theorem dX10_seating_8 : decode cX10_seating 8 = .ok (.bipush 10, 2) := by decide +kernel
theorem dX10_seating_10 : decode cX10_seating 10 = .ok (.isub, 1) := by decide +kernel
theorem dX10_seating_11 : decode cX10_seating 11 = .ok (.invokevirtual 166, 3) := by decide +kernel
theorem dX10_seating_14 : decode cX10_seating 14 = .ok (.ifCond .eq 7, 3) := by decide +kernel
theorem dX10_seating_17 : decode cX10_seating 17 = .ok (.iconst 1, 1) := by decide +kernel
theorem dX10_seating_18 : decode cX10_seating 18 = .ok (.goto 4, 3) := by decide +kernel
theorem dX10_seating_21 : decode cX10_seating 21 = .ok (.iconst 0, 1) := by decide +kernel
theorem dX10_seating_22 : decode cX10_seating 22 = .ok (.istore_n 3, 1) := by decide +kernel
theorem dX10_seating_23 : decode cX10_seating 23 = .ok (.iload_n 1, 1) := by decide +kernel
theorem dX10_seating_24 : decode cX10_seating 24 = .ok (.invokestatic 124, 3) := by decide +kernel
theorem dX10_seating_27 : decode cX10_seating 27 = .ok (.ifCond .eq 16, 3) := by decide +kernel
theorem dX10_seating_30 : decode cX10_seating 30 = .ok (.iload_n 2, 1) := by decide +kernel
theorem dX10_seating_31 : decode cX10_seating 31 = .ok (.iconst 0, 1) := by decide +kernel
theorem dX10_seating_32 : decode cX10_seating 32 = .ok (.iconst 1, 1) := by decide +kernel
theorem dX10_seating_33 : decode cX10_seating 33 = .ok (.invokestatic 77, 3) := by decide +kernel
theorem dX10_seating_36 : decode cX10_seating 36 = .ok (.ifCond .ne 9, 3) := by decide +kernel
theorem dX10_seating_39 : decode cX10_seating 39 = .ok (.iload_n 3, 1) := by decide +kernel
theorem dX10_seating_40 : decode cX10_seating 40 = .ok (.ifCond .ne 5, 3) := by decide +kernel
theorem dX10_seating_43 : decode cX10_seating 43 = .ok (.iconst (-1), 1) := by decide +kernel
theorem dX10_seating_44 : decode cX10_seating 44 = .ok (.ireturn, 1) := by decide +kernel
theorem dX10_seating_45 : decode cX10_seating 45 = .ok (.aload_n 0, 1) := by decide +kernel
theorem dX10_seating_46 : decode cX10_seating 46 = .ok (.getfield 50, 3) := by decide +kernel
theorem dX10_seating_49 : decode cX10_seating 49 = .ok (.aload_n 0, 1) := by decide +kernel
theorem dX10_seating_50 : decode cX10_seating 50 = .ok (.getfield 10, 3) := by decide +kernel
theorem dX10_seating_53 : decode cX10_seating 53 = .ok (.iload_n 1, 1) := by decide +kernel
theorem dX10_seating_54 : decode cX10_seating 54 = .ok (.invokevirtual 212, 3) := by decide +kernel
theorem dX10_seating_57 : decode cX10_seating 57 = .ok (.iload_n 3, 1) := by decide +kernel
theorem dX10_seating_58 : decode cX10_seating 58 = .ok (.ifCond .eq 15, 3) := by decide +kernel
theorem dX10_seating_61 : decode cX10_seating 61 = .ok (.aload_n 0, 1) := by decide +kernel
theorem dX10_seating_62 : decode cX10_seating 62 = .ok (.getfield 50, 3) := by decide +kernel
theorem dX10_seating_65 : decode cX10_seating 65 = .ok (.iload_n 2, 1) := by decide +kernel
theorem dX10_seating_66 : decode cX10_seating 66 = .ok (.bipush 10, 2) := by decide +kernel
theorem dX10_seating_68 : decode cX10_seating 68 = .ok (.isub, 1) := by decide +kernel
theorem dX10_seating_69 : decode cX10_seating 69 = .ok (.invokevirtual 216, 3) := by decide +kernel
theorem dX10_seating_72 : decode cX10_seating 72 = .ok (.ireturn, 1) := by decide +kernel
theorem dX10_seating_73 : decode cX10_seating 73 = .ok (.iload_n 2, 1) := by decide +kernel
theorem dX10_seating_74 : decode cX10_seating 74 = .ok (.ifCond .ne 13, 3) := by decide +kernel
theorem dX10_seating_77 : decode cX10_seating 77 = .ok (.aload_n 0, 1) := by decide +kernel
theorem dX10_seating_78 : decode cX10_seating 78 = .ok (.getfield 50, 3) := by decide +kernel
theorem dX10_seating_81 : decode cX10_seating 81 = .ok (.getfield 219, 3) := by decide +kernel
theorem dX10_seating_84 : decode cX10_seating 84 = .ok (.goto 10, 3) := by decide +kernel
theorem dX10_seating_87 : decode cX10_seating 87 = .ok (.aload_n 0, 1) := by decide +kernel
theorem dX10_seating_88 : decode cX10_seating 88 = .ok (.getfield 50, 3) := by decide +kernel
theorem dX10_seating_91 : decode cX10_seating 91 = .ok (.getfield 222, 3) := by decide +kernel
theorem dX10_seating_94 : decode cX10_seating 94 = .ok (.ireturn, 1) := by decide +kernel
theorem dX10_curtain_0 : decode cX10_curtain 0 = .ok (.iload_n 1, 1) := by decide +kernel
theorem dX10_curtain_1 : decode cX10_curtain 1 = .ok (.invokestatic 124, 3) := by decide +kernel
theorem dX10_curtain_4 : decode cX10_curtain 4 = .ok (.ifCond .eq 22, 3) := by decide +kernel
theorem dX10_curtain_7 : decode cX10_curtain 7 = .ok (.iload_n 2, 1) := by decide +kernel
theorem dX10_curtain_8 : decode cX10_curtain 8 = .ok (.iconst 0, 1) := by decide +kernel
theorem dX10_curtain_9 : decode cX10_curtain 9 = .ok (.iconst 1, 1) := by decide +kernel
theorem dX10_curtain_10 : decode cX10_curtain 10 = .ok (.invokestatic 77, 3) := by decide +kernel
theorem dX10_curtain_13 : decode cX10_curtain 13 = .ok (.ifCond .eq 13, 3) := by decide +kernel
theorem dX10_curtain_16 : decode cX10_curtain 16 = .ok (.aload_n 0, 1) := by decide +kernel
theorem dX10_curtain_17 : decode cX10_curtain 17 = .ok (.iload_n 1, 1) := by decide +kernel
theorem dX10_curtain_18 : decode cX10_curtain 18 = .ok (.iload_n 2, 1) := by decide +kernel
theorem dX10_curtain_19 : decode cX10_curtain 19 = .ok (.iconst 2, 1) := by decide +kernel
theorem dX10_curtain_20 : decode cX10_curtain 20 = .ok (.invokevirtual 225, 3) := by decide +kernel
theorem dX10_curtain_23 : decode cX10_curtain 23 = .ok (.goto 4, 3) := by decide +kernel
theorem dX10_curtain_26 : decode cX10_curtain 26 = .ok (.iconst (-1), 1) := by decide +kernel
theorem dX10_curtain_27 : decode cX10_curtain 27 = .ok (.ireturn, 1) := by decide +kernel
theorem dX10_clear_0 : decode cX10_clear 0 = .ok (.iload_n 1, 1) := by decide +kernel
theorem dX10_clear_1 : decode cX10_clear 1 = .ok (.invokestatic 124, 3) := by decide +kernel
theorem dX10_clear_4 : decode cX10_clear 4 = .ok (.ifCond .eq 22, 3) := by decide +kernel
theorem dX10_clear_7 : decode cX10_clear 7 = .ok (.iload_n 2, 1) := by decide +kernel
theorem dX10_clear_8 : decode cX10_clear 8 = .ok (.iconst 0, 1) := by decide +kernel
theorem dX10_clear_9 : decode cX10_clear 9 = .ok (.iconst 1, 1) := by decide +kernel
theorem dX10_clear_10 : decode cX10_clear 10 = .ok (.invokestatic 77, 3) := by decide +kernel
theorem dX10_clear_13 : decode cX10_clear 13 = .ok (.ifCond .eq 13, 3) := by decide +kernel
theorem dX10_clear_16 : decode cX10_clear 16 = .ok (.aload_n 0, 1) := by decide +kernel
theorem dX10_clear_17 : decode cX10_clear 17 = .ok (.iload_n 1, 1) := by decide +kernel
theorem dX10_clear_18 : decode cX10_clear 18 = .ok (.iload_n 2, 1) := by decide +kernel
theorem dX10_clear_19 : decode cX10_clear 19 = .ok (.iconst 0, 1) := by decide +kernel
theorem dX10_clear_20 : decode cX10_clear 20 = .ok (.invokevirtual 225, 3) := by decide +kernel
theorem dX10_clear_23 : decode cX10_clear 23 = .ok (.goto 4, 3) := by decide +kernel
theorem dX10_clear_26 : decode cX10_clear 26 = .ok (.iconst (-1), 1) := by decide +kernel
theorem dX10_clear_27 : decode cX10_clear 27 = .ok (.ireturn, 1) := by decide +kernel
theorem dX10_hours_0 : decode cX10_hours 0 = .ok (.iconst 0, 1) := by decide +kernel
theorem dX10_hours_1 : decode cX10_hours 1 = .ok (.istore_n 1, 1) := by decide +kernel
theorem dX10_hours_2 : decode cX10_hours 2 = .ok (.iconst 0, 1) := by decide +kernel
theorem dX10_hours_3 : decode cX10_hours 3 = .ok (.istore_n 2, 1) := by decide +kernel
theorem dX10_hours_4 : decode cX10_hours 4 = .ok (.iload_n 2, 1) := by decide +kernel
theorem dX10_hours_5 : decode cX10_hours 5 = .ok (.bipush 12, 2) := by decide +kernel
theorem dX10_hours_7 : decode cX10_hours 7 = .ok (.if_icmp .ge 30, 3) := by decide +kernel
theorem dX10_hours_10 : decode cX10_hours 10 = .ok (.aload_n 0, 1) := by decide +kernel
theorem dX10_hours_11 : decode cX10_hours 11 = .ok (.getfield 36, 3) := by decide +kernel
theorem dX10_hours_14 : decode cX10_hours 14 = .ok (.aload_n 0, 1) := by decide +kernel
theorem dX10_hours_15 : decode cX10_hours 15 = .ok (.getfield 10, 3) := by decide +kernel
theorem dX10_hours_18 : decode cX10_hours 18 = .ok (.iload_n 2, 1) := by decide +kernel
theorem dX10_hours_19 : decode cX10_hours 19 = .ok (.invokevirtual 208, 3) := by decide +kernel
theorem dX10_hours_22 : decode cX10_hours 22 = .ok (.ifCond .ne 9, 3) := by decide +kernel
theorem dX10_hours_25 : decode cX10_hours 25 = .ok (.iload_n 1, 1) := by decide +kernel
theorem dX10_hours_26 : decode cX10_hours 26 = .ok (.iconst 1, 1) := by decide +kernel
theorem dX10_hours_27 : decode cX10_hours 27 = .ok (.iload_n 2, 1) := by decide +kernel
theorem dX10_hours_28 : decode cX10_hours 28 = .ok (.ishl, 1) := by decide +kernel
theorem dX10_hours_29 : decode cX10_hours 29 = .ok (.ior, 1) := by decide +kernel
theorem dX10_hours_30 : decode cX10_hours 30 = .ok (.istore_n 1, 1) := by decide +kernel
theorem dX10_hours_31 : decode cX10_hours 31 = .ok (.iinc 2 1, 3) := by decide +kernel
theorem dX10_hours_34 : decode cX10_hours 34 = .ok (.goto (-30), 3) := by decide +kernel
theorem dX10_hours_37 : decode cX10_hours 37 = .ok (.iload_n 1, 1) := by decide +kernel
theorem dX10_hours_38 : decode cX10_hours 38 = .ok (.ireturn, 1) := by decide +kernel
theorem dX10_days_0 : decode cX10_days 0 = .ok (.iload_n 1, 1) := by decide +kernel
theorem dX10_days_1 : decode cX10_days 1 = .ok (.invokestatic 124, 3) := by decide +kernel
theorem dX10_days_4 : decode cX10_days 4 = .ok (.ifCond .eq 22, 3) := by decide +kernel
theorem dX10_days_7 : decode cX10_days 7 = .ok (.iload_n 2, 1) := by decide +kernel
theorem dX10_days_8 : decode cX10_days 8 = .ok (.iconst 0, 1) := by decide +kernel
theorem dX10_days_9 : decode cX10_days 9 = .ok (.bipush 9, 2) := by decide +kernel
theorem dX10_days_11 : decode cX10_days 11 = .ok (.invokestatic 77, 3) := by decide +kernel
theorem dX10_days_14 : decode cX10_days 14 = .ok (.ifCond .eq 12, 3) := by decide +kernel
theorem dX10_days_17 : decode cX10_days 17 = .ok (.iload_n 3, 1) := by decide +kernel
theorem dX10_days_18 : decode cX10_days 18 = .ok (.iconst 0, 1) := by decide +kernel
theorem dX10_days_19 : decode cX10_days 19 = .ok (.iconst 2, 1) := by decide +kernel
theorem dX10_days_20 : decode cX10_days 20 = .ok (.invokestatic 77, 3) := by decide +kernel
theorem dX10_days_23 : decode cX10_days 23 = .ok (.ifCond .ne 5, 3) := by decide +kernel
theorem dX10_days_26 : decode cX10_days 26 = .ok (.iconst (-1), 1) := by decide +kernel
theorem dX10_days_27 : decode cX10_days 27 = .ok (.ireturn, 1) := by decide +kernel
theorem dX10_days_28 : decode cX10_days 28 = .ok (.iconst 0, 1) := by decide +kernel
theorem dX10_days_29 : decode cX10_days 29 = .ok (.istore 4, 2) := by decide +kernel
theorem dX10_days_31 : decode cX10_days 31 = .ok (.iconst 0, 1) := by decide +kernel
theorem dX10_days_32 : decode cX10_days 32 = .ok (.istore 5, 2) := by decide +kernel
theorem dX10_days_34 : decode cX10_days 34 = .ok (.iconst 0, 1) := by decide +kernel
theorem dX10_days_35 : decode cX10_days 35 = .ok (.istore 6, 2) := by decide +kernel
theorem dX10_days_37 : decode cX10_days 37 = .ok (.iconst 0, 1) := by decide +kernel
theorem dX10_days_38 : decode cX10_days 38 = .ok (.istore 7, 2) := by decide +kernel
theorem dX10_days_40 : decode cX10_days 40 = .ok (.iload 7, 2) := by decide +kernel
theorem dX10_days_42 : decode cX10_days 42 = .ok (.aload_n 0, 1) := by decide +kernel
theorem dX10_days_43 : decode cX10_days 43 = .ok (.getfield 10, 3) := by decide +kernel
theorem dX10_days_46 : decode cX10_days 46 = .ok (.getfield 127, 3) := by decide +kernel
theorem dX10_days_49 : decode cX10_days 49 = .ok (.getfield 199, 3) := by decide +kernel
theorem dX10_days_52 : decode cX10_days 52 = .ok (.if_icmp .ge 68, 3) := by decide +kernel
theorem dX10_days_55 : decode cX10_days 55 = .ok (.aload_n 0, 1) := by decide +kernel
theorem dX10_days_56 : decode cX10_days 56 = .ok (.getfield 36, 3) := by decide +kernel
theorem dX10_days_59 : decode cX10_days 59 = .ok (.aload_n 0, 1) := by decide +kernel
theorem dX10_days_60 : decode cX10_days 60 = .ok (.getfield 10, 3) := by decide +kernel
theorem dX10_days_63 : decode cX10_days 63 = .ok (.iload 7, 2) := by decide +kernel
theorem dX10_days_65 : decode cX10_days 65 = .ok (.iload_n 1, 1) := by decide +kernel
theorem dX10_days_66 : decode cX10_days 66 = .ok (.invokevirtual 196, 3) := by decide +kernel
theorem dX10_days_69 : decode cX10_days 69 = .ok (.istore 8, 2) := by decide +kernel
theorem dX10_days_71 : decode cX10_days 71 = .ok (.aload_n 0, 1) := by decide +kernel
