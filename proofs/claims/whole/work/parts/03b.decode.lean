theorem d_Composer_init_0 : decode b_Composer_init 0 = .ok (.aload_n 0, 1) := by decide +kernel
theorem d_Composer_init_1 : decode b_Composer_init 1 = .ok (.invokespecial 3, 3) := by decide +kernel
theorem d_Composer_init_4 : decode b_Composer_init 4 = .ok (.aload_n 0, 1) := by decide +kernel
theorem d_Composer_init_5 : decode b_Composer_init 5 = .ok (.new 9, 3) := by decide +kernel
theorem d_Composer_init_8 : decode b_Composer_init 8 = .ok (.dup, 1) := by decide +kernel
theorem d_Composer_init_9 : decode b_Composer_init 9 = .ok (.bipush 96, 2) := by decide +kernel
theorem d_Composer_init_11 : decode b_Composer_init 11 = .ok (.invokespecial 11, 3) := by decide +kernel
theorem d_Composer_init_14 : decode b_Composer_init 14 = .ok (.putfield 14, 3) := by decide +kernel
theorem d_Composer_init_17 : decode b_Composer_init 17 = .ok (.return_, 1) := by decide +kernel
theorem d_Composer_form_0 : decode b_Composer_form 0 = .ok (.aload_n 0, 1) := by decide +kernel
theorem d_Composer_form_1 : decode b_Composer_form 1 = .ok (.aload_n 1, 1) := by decide +kernel
theorem d_Composer_form_2 : decode b_Composer_form 2 = .ok (.invokevirtual 20, 3) := by decide +kernel
theorem d_Composer_form_5 : decode b_Composer_form 5 = .ok (.aload_n 0, 1) := by decide +kernel
theorem d_Composer_form_6 : decode b_Composer_form 6 = .ok (.invokevirtual 24, 3) := by decide +kernel
theorem d_Composer_form_9 : decode b_Composer_form 9 = .ok (.aload_n 0, 1) := by decide +kernel
theorem d_Composer_form_10 : decode b_Composer_form 10 = .ok (.aload_n 2, 1) := by decide +kernel
theorem d_Composer_form_11 : decode b_Composer_form 11 = .ok (.invokevirtual 27, 3) := by decide +kernel
theorem d_Composer_form_14 : decode b_Composer_form 14 = .ok (.return_, 1) := by decide +kernel
theorem d_Composer_takeApart_0 : decode b_Composer_takeApart 0 = .ok (.aload_n 0, 1) := by decide +kernel
theorem d_Composer_takeApart_1 : decode b_Composer_takeApart 1 = .ok (.getfield 14, 3) := by decide +kernel
theorem d_Composer_takeApart_4 : decode b_Composer_takeApart 4 = .ok (.invokevirtual 30, 3) := by decide +kernel
theorem d_Composer_takeApart_7 : decode b_Composer_takeApart 7 = .ok (.iconst 0, 1) := by decide +kernel
theorem d_Composer_takeApart_8 : decode b_Composer_takeApart 8 = .ok (.istore_n 2, 1) := by decide +kernel
theorem d_Composer_takeApart_9 : decode b_Composer_takeApart 9 = .ok (.iload_n 2, 1) := by decide +kernel
theorem d_Composer_takeApart_10 : decode b_Composer_takeApart 10 = .ok (.aload_n 1, 1) := by decide +kernel
theorem d_Composer_takeApart_11 : decode b_Composer_takeApart 11 = .ok (.invokevirtual 33, 3) := by decide +kernel
theorem d_Composer_takeApart_14 : decode b_Composer_takeApart 14 = .ok (.if_icmp .ge 67, 3) := by decide +kernel
theorem d_Composer_takeApart_17 : decode b_Composer_takeApart 17 = .ok (.aload_n 1, 1) := by decide +kernel
theorem d_Composer_takeApart_18 : decode b_Composer_takeApart 18 = .ok (.iload_n 2, 1) := by decide +kernel
theorem d_Composer_takeApart_19 : decode b_Composer_takeApart 19 = .ok (.invokevirtual 37, 3) := by decide +kernel
theorem d_Composer_takeApart_22 : decode b_Composer_takeApart 22 = .ok (.istore_n 3, 1) := by decide +kernel
theorem d_Composer_takeApart_23 : decode b_Composer_takeApart 23 = .ok (.iload_n 3, 1) := by decide +kernel
theorem d_Composer_takeApart_24 : decode b_Composer_takeApart 24 = .ok (.invokestatic 41, 3) := by decide +kernel
theorem d_Composer_takeApart_27 : decode b_Composer_takeApart 27 = .ok (.istore 4, 2) := by decide +kernel
theorem d_Composer_takeApart_29 : decode b_Composer_takeApart 29 = .ok (.iload 4, 2) := by decide +kernel
theorem d_Composer_takeApart_31 : decode b_Composer_takeApart 31 = .ok (.iconst (-1), 1) := by decide +kernel
theorem d_Composer_takeApart_32 : decode b_Composer_takeApart 32 = .ok (.if_icmp .ne 15, 3) := by decide +kernel
theorem d_Composer_takeApart_35 : decode b_Composer_takeApart 35 = .ok (.aload_n 0, 1) := by decide +kernel
theorem d_Composer_takeApart_36 : decode b_Composer_takeApart 36 = .ok (.getfield 14, 3) := by decide +kernel
theorem d_Composer_takeApart_39 : decode b_Composer_takeApart 39 = .ok (.iload_n 3, 1) := by decide +kernel
theorem d_Composer_takeApart_40 : decode b_Composer_takeApart 40 = .ok (.invokevirtual 44, 3) := by decide +kernel
theorem d_Composer_takeApart_43 : decode b_Composer_takeApart 43 = .ok (.pop, 1) := by decide +kernel
theorem d_Composer_takeApart_44 : decode b_Composer_takeApart 44 = .ok (.goto 31, 3) := by decide +kernel
theorem d_Composer_takeApart_47 : decode b_Composer_takeApart 47 = .ok (.aload_n 0, 1) := by decide +kernel
theorem d_Composer_takeApart_48 : decode b_Composer_takeApart 48 = .ok (.getfield 14, 3) := by decide +kernel
theorem d_Composer_takeApart_51 : decode b_Composer_takeApart 51 = .ok (.getstatic 48, 3) := by decide +kernel
theorem d_Composer_takeApart_54 : decode b_Composer_takeApart 54 = .ok (.iload 4, 2) := by decide +kernel
theorem d_Composer_takeApart_56 : decode b_Composer_takeApart 56 = .ok (.iaload, 1) := by decide +kernel
theorem d_Composer_takeApart_57 : decode b_Composer_takeApart 57 = .ok (.invokevirtual 44, 3) := by decide +kernel
theorem d_Composer_takeApart_60 : decode b_Composer_takeApart 60 = .ok (.pop, 1) := by decide +kernel
theorem d_Composer_takeApart_61 : decode b_Composer_takeApart 61 = .ok (.aload_n 0, 1) := by decide +kernel
theorem d_Composer_takeApart_62 : decode b_Composer_takeApart 62 = .ok (.getfield 14, 3) := by decide +kernel
theorem d_Composer_takeApart_65 : decode b_Composer_takeApart 65 = .ok (.getstatic 52, 3) := by decide +kernel
theorem d_Composer_takeApart_68 : decode b_Composer_takeApart 68 = .ok (.iload 4, 2) := by decide +kernel
theorem d_Composer_takeApart_70 : decode b_Composer_takeApart 70 = .ok (.iaload, 1) := by decide +kernel
theorem d_Composer_takeApart_71 : decode b_Composer_takeApart 71 = .ok (.invokevirtual 44, 3) := by decide +kernel
theorem d_Composer_takeApart_74 : decode b_Composer_takeApart 74 = .ok (.pop, 1) := by decide +kernel
theorem d_Composer_takeApart_75 : decode b_Composer_takeApart 75 = .ok (.iinc 2 1, 3) := by decide +kernel
theorem d_Composer_takeApart_78 : decode b_Composer_takeApart 78 = .ok (.goto (-69), 3) := by decide +kernel
theorem d_Composer_takeApart_81 : decode b_Composer_takeApart 81 = .ok (.return_, 1) := by decide +kernel
theorem d_Composer_pairOfCode_0 : decode b_Composer_pairOfCode 0 = .ok (.iconst 0, 1) := by decide +kernel
theorem d_Composer_pairOfCode_1 : decode b_Composer_pairOfCode 1 = .ok (.istore_n 1, 1) := by decide +kernel
theorem d_Composer_pairOfCode_2 : decode b_Composer_pairOfCode 2 = .ok (.iload_n 1, 1) := by decide +kernel
theorem d_Composer_pairOfCode_3 : decode b_Composer_pairOfCode 3 = .ok (.getstatic 55, 3) := by decide +kernel
theorem d_Composer_pairOfCode_6 : decode b_Composer_pairOfCode 6 = .ok (.arraylength, 1) := by decide +kernel
theorem d_Composer_pairOfCode_7 : decode b_Composer_pairOfCode 7 = .ok (.if_icmp .ge 20, 3) := by decide +kernel
theorem d_Composer_pairOfCode_10 : decode b_Composer_pairOfCode 10 = .ok (.getstatic 55, 3) := by decide +kernel
theorem d_Composer_pairOfCode_13 : decode b_Composer_pairOfCode 13 = .ok (.iload_n 1, 1) := by decide +kernel
theorem d_Composer_pairOfCode_14 : decode b_Composer_pairOfCode 14 = .ok (.iaload, 1) := by decide +kernel
theorem d_Composer_pairOfCode_15 : decode b_Composer_pairOfCode 15 = .ok (.iload_n 0, 1) := by decide +kernel
theorem d_Composer_pairOfCode_16 : decode b_Composer_pairOfCode 16 = .ok (.if_icmp .ne 5, 3) := by decide +kernel
theorem d_Composer_pairOfCode_19 : decode b_Composer_pairOfCode 19 = .ok (.iload_n 1, 1) := by decide +kernel
theorem d_Composer_pairOfCode_20 : decode b_Composer_pairOfCode 20 = .ok (.ireturn, 1) := by decide +kernel
theorem d_Composer_pairOfCode_21 : decode b_Composer_pairOfCode 21 = .ok (.iinc 1 1, 3) := by decide +kernel
theorem d_Composer_pairOfCode_24 : decode b_Composer_pairOfCode 24 = .ok (.goto (-22), 3) := by decide +kernel
theorem d_Composer_pairOfCode_27 : decode b_Composer_pairOfCode 27 = .ok (.iconst (-1), 1) := by decide +kernel
theorem d_Composer_pairOfCode_28 : decode b_Composer_pairOfCode 28 = .ok (.ireturn, 1) := by decide +kernel
theorem d_Composer_sortMarks_0 : decode b_Composer_sortMarks 0 = .ok (.iconst 1, 1) := by decide +kernel
theorem d_Composer_sortMarks_1 : decode b_Composer_sortMarks 1 = .ok (.istore_n 1, 1) := by decide +kernel
theorem d_Composer_sortMarks_2 : decode b_Composer_sortMarks 2 = .ok (.iload_n 1, 1) := by decide +kernel
theorem d_Composer_sortMarks_3 : decode b_Composer_sortMarks 3 = .ok (.aload_n 0, 1) := by decide +kernel
theorem d_Composer_sortMarks_4 : decode b_Composer_sortMarks 4 = .ok (.getfield 14, 3) := by decide +kernel
theorem d_Composer_sortMarks_7 : decode b_Composer_sortMarks 7 = .ok (.invokevirtual 33, 3) := by decide +kernel
theorem d_Composer_sortMarks_10 : decode b_Composer_sortMarks 10 = .ok (.if_icmp .ge 96, 3) := by decide +kernel
theorem d_Composer_sortMarks_13 : decode b_Composer_sortMarks 13 = .ok (.aload_n 0, 1) := by decide +kernel
theorem d_Composer_sortMarks_14 : decode b_Composer_sortMarks 14 = .ok (.getfield 14, 3) := by decide +kernel
theorem d_Composer_sortMarks_17 : decode b_Composer_sortMarks 17 = .ok (.iload_n 1, 1) := by decide +kernel
theorem d_Composer_sortMarks_18 : decode b_Composer_sortMarks 18 = .ok (.invokevirtual 37, 3) := by decide +kernel
theorem d_Composer_sortMarks_21 : decode b_Composer_sortMarks 21 = .ok (.istore_n 2, 1) := by decide +kernel
theorem d_Composer_sortMarks_22 : decode b_Composer_sortMarks 22 = .ok (.iload_n 2, 1) := by decide +kernel
theorem d_Composer_sortMarks_23 : decode b_Composer_sortMarks 23 = .ok (.invokestatic 58, 3) := by decide +kernel
theorem d_Composer_sortMarks_26 : decode b_Composer_sortMarks 26 = .ok (.istore_n 3, 1) := by decide +kernel
theorem d_Composer_sortMarks_27 : decode b_Composer_sortMarks 27 = .ok (.iload_n 1, 1) := by decide +kernel
theorem d_Composer_sortMarks_28 : decode b_Composer_sortMarks 28 = .ok (.istore 4, 2) := by decide +kernel
theorem d_Composer_sortMarks_30 : decode b_Composer_sortMarks 30 = .ok (.iload_n 1, 1) := by decide +kernel
theorem d_Composer_sortMarks_31 : decode b_Composer_sortMarks 31 = .ok (.iconst 1, 1) := by decide +kernel
theorem d_Composer_sortMarks_32 : decode b_Composer_sortMarks 32 = .ok (.isub, 1) := by decide +kernel
theorem d_Composer_sortMarks_33 : decode b_Composer_sortMarks 33 = .ok (.istore 5, 2) := by decide +kernel
theorem d_Composer_sortMarks_35 : decode b_Composer_sortMarks 35 = .ok (.iload 5, 2) := by decide +kernel
theorem d_Composer_sortMarks_37 : decode b_Composer_sortMarks 37 = .ok (.ifCond .lt 53, 3) := by decide +kernel
theorem d_Composer_sortMarks_40 : decode b_Composer_sortMarks 40 = .ok (.iload_n 3, 1) := by decide +kernel
theorem d_Composer_sortMarks_41 : decode b_Composer_sortMarks 41 = .ok (.ifCond .le 49, 3) := by decide +kernel
theorem d_Composer_sortMarks_44 : decode b_Composer_sortMarks 44 = .ok (.aload_n 0, 1) := by decide +kernel
theorem d_Composer_sortMarks_45 : decode b_Composer_sortMarks 45 = .ok (.getfield 14, 3) := by decide +kernel
theorem d_Composer_sortMarks_48 : decode b_Composer_sortMarks 48 = .ok (.iload 5, 2) := by decide +kernel
theorem d_Composer_sortMarks_50 : decode b_Composer_sortMarks 50 = .ok (.invokevirtual 37, 3) := by decide +kernel
theorem d_Composer_sortMarks_53 : decode b_Composer_sortMarks 53 = .ok (.invokestatic 58, 3) := by decide +kernel
theorem d_Composer_sortMarks_56 : decode b_Composer_sortMarks 56 = .ok (.iload_n 3, 1) := by decide +kernel
theorem d_Composer_sortMarks_57 : decode b_Composer_sortMarks 57 = .ok (.if_icmp .le 33, 3) := by decide +kernel
theorem d_Composer_sortMarks_60 : decode b_Composer_sortMarks 60 = .ok (.aload_n 0, 1) := by decide +kernel
theorem d_Composer_sortMarks_61 : decode b_Composer_sortMarks 61 = .ok (.getfield 14, 3) := by decide +kernel
theorem d_Composer_sortMarks_64 : decode b_Composer_sortMarks 64 = .ok (.iload 5, 2) := by decide +kernel
theorem d_Composer_sortMarks_66 : decode b_Composer_sortMarks 66 = .ok (.iconst 1, 1) := by decide +kernel
theorem d_Composer_sortMarks_67 : decode b_Composer_sortMarks 67 = .ok (.iadd, 1) := by decide +kernel
theorem d_Composer_sortMarks_68 : decode b_Composer_sortMarks 68 = .ok (.aload_n 0, 1) := by decide +kernel
theorem d_Composer_sortMarks_69 : decode b_Composer_sortMarks 69 = .ok (.getfield 14, 3) := by decide +kernel
theorem d_Composer_sortMarks_72 : decode b_Composer_sortMarks 72 = .ok (.iload 5, 2) := by decide +kernel
theorem d_Composer_sortMarks_74 : decode b_Composer_sortMarks 74 = .ok (.invokevirtual 37, 3) := by decide +kernel
theorem d_Composer_sortMarks_77 : decode b_Composer_sortMarks 77 = .ok (.invokevirtual 63, 3) := by decide +kernel
theorem d_Composer_sortMarks_80 : decode b_Composer_sortMarks 80 = .ok (.iload 5, 2) := by decide +kernel
theorem d_Composer_sortMarks_82 : decode b_Composer_sortMarks 82 = .ok (.istore 4, 2) := by decide +kernel
theorem d_Composer_sortMarks_84 : decode b_Composer_sortMarks 84 = .ok (.iinc 5 ( -1), 3) := by decide +kernel
theorem d_Composer_sortMarks_87 : decode b_Composer_sortMarks 87 = .ok (.goto (-52), 3) := by decide +kernel
theorem d_Composer_sortMarks_90 : decode b_Composer_sortMarks 90 = .ok (.aload_n 0, 1) := by decide +kernel
theorem d_Composer_sortMarks_91 : decode b_Composer_sortMarks 91 = .ok (.getfield 14, 3) := by decide +kernel
theorem d_Composer_sortMarks_94 : decode b_Composer_sortMarks 94 = .ok (.iload 4, 2) := by decide +kernel
theorem d_Composer_sortMarks_96 : decode b_Composer_sortMarks 96 = .ok (.iload_n 2, 1) := by decide +kernel
theorem d_Composer_sortMarks_97 : decode b_Composer_sortMarks 97 = .ok (.invokevirtual 63, 3) := by decide +kernel
theorem d_Composer_sortMarks_100 : decode b_Composer_sortMarks 100 = .ok (.iinc 1 1, 3) := by decide +kernel
theorem d_Composer_sortMarks_103 : decode b_Composer_sortMarks 103 = .ok (.goto (-101), 3) := by decide +kernel
theorem d_Composer_sortMarks_106 : decode b_Composer_sortMarks 106 = .ok (.return_, 1) := by decide +kernel
theorem d_Composer_join_0 : decode b_Composer_join 0 = .ok (.aload_n 1, 1) := by decide +kernel
theorem d_Composer_join_1 : decode b_Composer_join 1 = .ok (.invokevirtual 30, 3) := by decide +kernel
theorem d_Composer_join_4 : decode b_Composer_join 4 = .ok (.iconst (-1), 1) := by decide +kernel
theorem d_Composer_join_5 : decode b_Composer_join 5 = .ok (.istore_n 2, 1) := by decide +kernel
theorem d_Composer_join_6 : decode b_Composer_join 6 = .ok (.iconst 0, 1) := by decide +kernel
theorem d_Composer_join_7 : decode b_Composer_join 7 = .ok (.istore_n 3, 1) := by decide +kernel
theorem d_Composer_join_8 : decode b_Composer_join 8 = .ok (.iload_n 3, 1) := by decide +kernel
theorem d_Composer_join_9 : decode b_Composer_join 9 = .ok (.aload_n 0, 1) := by decide +kernel
theorem d_Composer_join_10 : decode b_Composer_join 10 = .ok (.getfield 14, 3) := by decide +kernel
theorem d_Composer_join_13 : decode b_Composer_join 13 = .ok (.invokevirtual 33, 3) := by decide +kernel
theorem d_Composer_join_16 : decode b_Composer_join 16 = .ok (.if_icmp .ge 121, 3) := by decide +kernel
theorem d_Composer_join_19 : decode b_Composer_join 19 = .ok (.aload_n 0, 1) := by decide +kernel
theorem d_Composer_join_20 : decode b_Composer_join 20 = .ok (.getfield 14, 3) := by decide +kernel
theorem d_Composer_join_23 : decode b_Composer_join 23 = .ok (.iload_n 3, 1) := by decide +kernel
theorem d_Composer_join_24 : decode b_Composer_join 24 = .ok (.invokevirtual 37, 3) := by decide +kernel
theorem d_Composer_join_27 : decode b_Composer_join 27 = .ok (.istore 4, 2) := by decide +kernel
theorem d_Composer_join_29 : decode b_Composer_join 29 = .ok (.iload 4, 2) := by decide +kernel
theorem d_Composer_join_31 : decode b_Composer_join 31 = .ok (.invokestatic 58, 3) := by decide +kernel
theorem d_Composer_join_34 : decode b_Composer_join 34 = .ok (.istore 5, 2) := by decide +kernel
theorem d_Composer_join_36 : decode b_Composer_join 36 = .ok (.aload_n 1, 1) := by decide +kernel
theorem d_Composer_join_37 : decode b_Composer_join 37 = .ok (.invokevirtual 33, 3) := by decide +kernel
theorem d_Composer_join_40 : decode b_Composer_join 40 = .ok (.iconst 1, 1) := by decide +kernel
theorem d_Composer_join_41 : decode b_Composer_join 41 = .ok (.isub, 1) := by decide +kernel
theorem d_Composer_join_42 : decode b_Composer_join 42 = .ok (.iload_n 2, 1) := by decide +kernel
theorem d_Composer_join_43 : decode b_Composer_join 43 = .ok (.if_icmp .ne 7, 3) := by decide +kernel
theorem d_Composer_join_46 : decode b_Composer_join 46 = .ok (.iconst 0, 1) := by decide +kernel
theorem d_Composer_join_47 : decode b_Composer_join 47 = .ok (.goto 16, 3) := by decide +kernel
theorem d_Composer_join_50 : decode b_Composer_join 50 = .ok (.aload_n 1, 1) := by decide +kernel
theorem d_Composer_join_51 : decode b_Composer_join 51 = .ok (.aload_n 1, 1) := by decide +kernel
theorem d_Composer_join_52 : decode b_Composer_join 52 = .ok (.invokevirtual 33, 3) := by decide +kernel
theorem d_Composer_join_55 : decode b_Composer_join 55 = .ok (.iconst 1, 1) := by decide +kernel
theorem d_Composer_join_56 : decode b_Composer_join 56 = .ok (.isub, 1) := by decide +kernel
theorem d_Composer_join_57 : decode b_Composer_join 57 = .ok (.invokevirtual 37, 3) := by decide +kernel
theorem d_Composer_join_60 : decode b_Composer_join 60 = .ok (.invokestatic 58, 3) := by decide +kernel
theorem d_Composer_join_63 : decode b_Composer_join 63 = .ok (.istore 6, 2) := by decide +kernel
theorem d_Composer_join_65 : decode b_Composer_join 65 = .ok (.iload 6, 2) := by decide +kernel
theorem d_Composer_join_67 : decode b_Composer_join 67 = .ok (.iload 5, 2) := by decide +kernel
theorem d_Composer_join_69 : decode b_Composer_join 69 = .ok (.if_icmp .ge 16, 3) := by decide +kernel
theorem d_Composer_join_72 : decode b_Composer_join 72 = .ok (.aload_n 1, 1) := by decide +kernel
theorem d_Composer_join_73 : decode b_Composer_join 73 = .ok (.iload_n 2, 1) := by decide +kernel
theorem d_Composer_join_74 : decode b_Composer_join 74 = .ok (.invokevirtual 37, 3) := by decide +kernel
theorem d_Composer_join_77 : decode b_Composer_join 77 = .ok (.iload 4, 2) := by decide +kernel
theorem d_Composer_join_79 : decode b_Composer_join 79 = .ok (.invokestatic 67, 3) := by decide +kernel
theorem d_Composer_join_82 : decode b_Composer_join 82 = .ok (.goto 4, 3) := by decide +kernel
theorem d_Composer_join_85 : decode b_Composer_join 85 = .ok (.iconst (-1), 1) := by decide +kernel
theorem d_Composer_join_86 : decode b_Composer_join 86 = .ok (.istore 7, 2) := by decide +kernel
theorem d_Composer_join_88 : decode b_Composer_join 88 = .ok (.iload 7, 2) := by decide +kernel
theorem d_Composer_join_90 : decode b_Composer_join 90 = .ok (.iconst (-1), 1) := by decide +kernel
theorem d_Composer_join_91 : decode b_Composer_join 91 = .ok (.if_icmp .eq 17, 3) := by decide +kernel
theorem d_Composer_join_94 : decode b_Composer_join 94 = .ok (.aload_n 1, 1) := by decide +kernel
theorem d_Composer_join_95 : decode b_Composer_join 95 = .ok (.iload_n 2, 1) := by decide +kernel
theorem d_Composer_join_96 : decode b_Composer_join 96 = .ok (.getstatic 55, 3) := by decide +kernel
theorem d_Composer_join_99 : decode b_Composer_join 99 = .ok (.iload 7, 2) := by decide +kernel
theorem d_Composer_join_101 : decode b_Composer_join 101 = .ok (.iaload, 1) := by decide +kernel
theorem d_Composer_join_102 : decode b_Composer_join 102 = .ok (.invokevirtual 63, 3) := by decide +kernel
theorem d_Composer_join_105 : decode b_Composer_join 105 = .ok (.goto 26, 3) := by decide +kernel
theorem d_Composer_join_108 : decode b_Composer_join 108 = .ok (.aload_n 1, 1) := by decide +kernel
theorem d_Composer_join_109 : decode b_Composer_join 109 = .ok (.iload 4, 2) := by decide +kernel
theorem d_Composer_join_111 : decode b_Composer_join 111 = .ok (.invokevirtual 44, 3) := by decide +kernel
theorem d_Composer_join_114 : decode b_Composer_join 114 = .ok (.pop, 1) := by decide +kernel
theorem d_Composer_join_115 : decode b_Composer_join 115 = .ok (.iload 5, 2) := by decide +kernel
theorem d_Composer_join_117 : decode b_Composer_join 117 = .ok (.ifCond .le 7, 3) := by decide +kernel
theorem d_Composer_join_120 : decode b_Composer_join 120 = .ok (.iload_n 2, 1) := by decide +kernel
theorem d_Composer_join_121 : decode b_Composer_join 121 = .ok (.goto 9, 3) := by decide +kernel
theorem d_Composer_join_124 : decode b_Composer_join 124 = .ok (.aload_n 1, 1) := by decide +kernel
theorem d_Composer_join_125 : decode b_Composer_join 125 = .ok (.invokevirtual 33, 3) := by decide +kernel
theorem d_Composer_join_128 : decode b_Composer_join 128 = .ok (.iconst 1, 1) := by decide +kernel
theorem d_Composer_join_129 : decode b_Composer_join 129 = .ok (.isub, 1) := by decide +kernel
theorem d_Composer_join_130 : decode b_Composer_join 130 = .ok (.istore_n 2, 1) := by decide +kernel
theorem d_Composer_join_131 : decode b_Composer_join 131 = .ok (.iinc 3 1, 3) := by decide +kernel
theorem d_Composer_join_134 : decode b_Composer_join 134 = .ok (.goto (-126), 3) := by decide +kernel
theorem d_Composer_join_137 : decode b_Composer_join 137 = .ok (.return_, 1) := by decide +kernel
theorem d_Composer_pairOfParts_0 : decode b_Composer_pairOfParts 0 = .ok (.iconst 0, 1) := by decide +kernel
theorem d_Composer_pairOfParts_1 : decode b_Composer_pairOfParts 1 = .ok (.istore_n 2, 1) := by decide +kernel
theorem d_Composer_pairOfParts_2 : decode b_Composer_pairOfParts 2 = .ok (.iload_n 2, 1) := by decide +kernel
theorem d_Composer_pairOfParts_3 : decode b_Composer_pairOfParts 3 = .ok (.getstatic 55, 3) := by decide +kernel
theorem d_Composer_pairOfParts_6 : decode b_Composer_pairOfParts 6 = .ok (.arraylength, 1) := by decide +kernel
theorem d_Composer_pairOfParts_7 : decode b_Composer_pairOfParts 7 = .ok (.if_icmp .ge 29, 3) := by decide +kernel
theorem d_Composer_pairOfParts_10 : decode b_Composer_pairOfParts 10 = .ok (.getstatic 48, 3) := by decide +kernel
theorem d_Composer_pairOfParts_13 : decode b_Composer_pairOfParts 13 = .ok (.iload_n 2, 1) := by decide +kernel
theorem d_Composer_pairOfParts_14 : decode b_Composer_pairOfParts 14 = .ok (.iaload, 1) := by decide +kernel
theorem d_Composer_pairOfParts_15 : decode b_Composer_pairOfParts 15 = .ok (.iload_n 0, 1) := by decide +kernel
theorem d_Composer_pairOfParts_16 : decode b_Composer_pairOfParts 16 = .ok (.if_icmp .ne 14, 3) := by decide +kernel
theorem d_Composer_pairOfParts_19 : decode b_Composer_pairOfParts 19 = .ok (.getstatic 52, 3) := by decide +kernel
theorem d_Composer_pairOfParts_22 : decode b_Composer_pairOfParts 22 = .ok (.iload_n 2, 1) := by decide +kernel
theorem d_Composer_pairOfParts_23 : decode b_Composer_pairOfParts 23 = .ok (.iaload, 1) := by decide +kernel
theorem d_Composer_pairOfParts_24 : decode b_Composer_pairOfParts 24 = .ok (.iload_n 1, 1) := by decide +kernel
theorem d_Composer_pairOfParts_25 : decode b_Composer_pairOfParts 25 = .ok (.if_icmp .ne 5, 3) := by decide +kernel
theorem d_Composer_pairOfParts_28 : decode b_Composer_pairOfParts 28 = .ok (.iload_n 2, 1) := by decide +kernel
theorem d_Composer_pairOfParts_29 : decode b_Composer_pairOfParts 29 = .ok (.ireturn, 1) := by decide +kernel
theorem d_Composer_pairOfParts_30 : decode b_Composer_pairOfParts 30 = .ok (.iinc 2 1, 3) := by decide +kernel
theorem d_Composer_pairOfParts_33 : decode b_Composer_pairOfParts 33 = .ok (.goto (-31), 3) := by decide +kernel
theorem d_Composer_pairOfParts_36 : decode b_Composer_pairOfParts 36 = .ok (.iconst (-1), 1) := by decide +kernel
theorem d_Composer_pairOfParts_37 : decode b_Composer_pairOfParts 37 = .ok (.ireturn, 1) := by decide +kernel
theorem d_Packer_init_0 : decode b_Packer_init 0 = .ok (.aload_n 0, 1) := by decide +kernel
theorem d_Packer_init_1 : decode b_Packer_init 1 = .ok (.invokespecial 3, 3) := by decide +kernel
theorem d_Packer_init_4 : decode b_Packer_init 4 = .ok (.aload_n 0, 1) := by decide +kernel
theorem d_Packer_init_5 : decode b_Packer_init 5 = .ok (.bipush 72, 2) := by decide +kernel
theorem d_Packer_init_7 : decode b_Packer_init 7 = .ok (.putfield 11, 3) := by decide +kernel
theorem d_Packer_init_10 : decode b_Packer_init 10 = .ok (.aload_n 0, 1) := by decide +kernel
theorem d_Packer_init_11 : decode b_Packer_init 11 = .ok (.iconst 0, 1) := by decide +kernel
theorem d_Packer_init_12 : decode b_Packer_init 12 = .ok (.putfield 15, 3) := by decide +kernel
theorem d_Packer_init_15 : decode b_Packer_init 15 = .ok (.return_, 1) := by decide +kernel
theorem d_Packer_write_0 : decode b_Packer_write 0 = .ok (.aload_n 1, 1) := by decide +kernel
theorem d_Packer_write_1 : decode b_Packer_write 1 = .ok (.aload_n 2, 1) := by decide +kernel
theorem d_Packer_write_2 : decode b_Packer_write 2 = .ok (.invokestatic 18, 3) := by decide +kernel
theorem d_Packer_write_5 : decode b_Packer_write 5 = .ok (.istore_n 3, 1) := by decide +kernel
theorem d_Packer_write_6 : decode b_Packer_write 6 = .ok (.iload_n 3, 1) := by decide +kernel
theorem d_Packer_write_7 : decode b_Packer_write 7 = .ok (.istore 4, 2) := by decide +kernel
theorem d_Packer_write_9 : decode b_Packer_write 9 = .ok (.sipush 128, 3) := by decide +kernel
theorem d_Packer_write_12 : decode b_Packer_write 12 = .ok (.istore 5, 2) := by decide +kernel
theorem d_Packer_write_14 : decode b_Packer_write 14 = .ok (.iconst 0, 1) := by decide +kernel
theorem d_Packer_write_15 : decode b_Packer_write 15 = .ok (.istore 6, 2) := by decide +kernel
theorem d_Packer_write_17 : decode b_Packer_write 17 = .ok (.aload_n 0, 1) := by decide +kernel
theorem d_Packer_write_18 : decode b_Packer_write 18 = .ok (.bipush 72, 2) := by decide +kernel
theorem d_Packer_write_20 : decode b_Packer_write 20 = .ok (.putfield 11, 3) := by decide +kernel
theorem d_Packer_write_23 : decode b_Packer_write 23 = .ok (.iconst 0, 1) := by decide +kernel
theorem d_Packer_write_24 : decode b_Packer_write 24 = .ok (.istore 7, 2) := by decide +kernel
theorem d_Packer_write_26 : decode b_Packer_write 26 = .ok (.iload 7, 2) := by decide +kernel
theorem d_Packer_write_28 : decode b_Packer_write 28 = .ok (.aload_n 1, 1) := by decide +kernel
theorem d_Packer_write_29 : decode b_Packer_write 29 = .ok (.invokevirtual 22, 3) := by decide +kernel
theorem d_Packer_write_32 : decode b_Packer_write 32 = .ok (.if_icmp .ge 131, 3) := by decide +kernel
theorem d_Packer_write_35 : decode b_Packer_write 35 = .ok (.iload 4, 2) := by decide +kernel
theorem d_Packer_write_37 : decode b_Packer_write 37 = .ok (.aload_n 1, 1) := by decide +kernel
theorem d_Packer_write_38 : decode b_Packer_write 38 = .ok (.invokevirtual 22, 3) := by decide +kernel
theorem d_Packer_write_41 : decode b_Packer_write 41 = .ok (.if_icmp .ge 122, 3) := by decide +kernel
theorem d_Packer_write_44 : decode b_Packer_write 44 = .ok (.aload_n 1, 1) := by decide +kernel
theorem d_Packer_write_45 : decode b_Packer_write 45 = .ok (.iload 5, 2) := by decide +kernel
theorem d_Packer_write_47 : decode b_Packer_write 47 = .ok (.invokestatic 28, 3) := by decide +kernel
theorem d_Packer_write_50 : decode b_Packer_write 50 = .ok (.istore 8, 2) := by decide +kernel
theorem d_Packer_write_52 : decode b_Packer_write 52 = .ok (.iload 6, 2) := by decide +kernel
theorem d_Packer_write_54 : decode b_Packer_write 54 = .ok (.iload 8, 2) := by decide +kernel
theorem d_Packer_write_56 : decode b_Packer_write 56 = .ok (.iload 5, 2) := by decide +kernel
theorem d_Packer_write_58 : decode b_Packer_write 58 = .ok (.isub, 1) := by decide +kernel
theorem d_Packer_write_59 : decode b_Packer_write 59 = .ok (.iload 4, 2) := by decide +kernel
theorem d_Packer_write_61 : decode b_Packer_write 61 = .ok (.iconst 1, 1) := by decide +kernel
theorem d_Packer_write_62 : decode b_Packer_write 62 = .ok (.iadd, 1) := by decide +kernel
theorem d_Packer_write_63 : decode b_Packer_write 63 = .ok (.imul, 1) := by decide +kernel
theorem d_Packer_write_64 : decode b_Packer_write 64 = .ok (.iadd, 1) := by decide +kernel
theorem d_Packer_write_65 : decode b_Packer_write 65 = .ok (.istore 6, 2) := by decide +kernel
theorem d_Packer_write_67 : decode b_Packer_write 67 = .ok (.iload 8, 2) := by decide +kernel
theorem d_Packer_write_69 : decode b_Packer_write 69 = .ok (.istore 5, 2) := by decide +kernel
theorem d_Packer_write_71 : decode b_Packer_write 71 = .ok (.iconst 0, 1) := by decide +kernel
theorem d_Packer_write_72 : decode b_Packer_write 72 = .ok (.istore 9, 2) := by decide +kernel
theorem d_Packer_write_74 : decode b_Packer_write 74 = .ok (.iload 9, 2) := by decide +kernel
theorem d_Packer_write_76 : decode b_Packer_write 76 = .ok (.aload_n 1, 1) := by decide +kernel
theorem d_Packer_write_77 : decode b_Packer_write 77 = .ok (.invokevirtual 22, 3) := by decide +kernel
theorem d_Packer_write_80 : decode b_Packer_write 80 = .ok (.if_icmp .ge 71, 3) := by decide +kernel
theorem d_Packer_write_83 : decode b_Packer_write 83 = .ok (.aload_n 1, 1) := by decide +kernel
theorem d_Packer_write_84 : decode b_Packer_write 84 = .ok (.iload 9, 2) := by decide +kernel
theorem d_Packer_write_86 : decode b_Packer_write 86 = .ok (.invokevirtual 32, 3) := by decide +kernel
theorem d_Packer_write_89 : decode b_Packer_write 89 = .ok (.istore 10, 2) := by decide +kernel
theorem d_Packer_write_91 : decode b_Packer_write 91 = .ok (.iload 10, 2) := by decide +kernel
theorem d_Packer_write_93 : decode b_Packer_write 93 = .ok (.iload 5, 2) := by decide +kernel
theorem d_Packer_write_95 : decode b_Packer_write 95 = .ok (.if_icmp .ge 9, 3) := by decide +kernel
theorem d_Packer_write_98 : decode b_Packer_write 98 = .ok (.iinc 6 1, 3) := by decide +kernel
theorem d_Packer_write_101 : decode b_Packer_write 101 = .ok (.goto 44, 3) := by decide +kernel
theorem d_Packer_write_104 : decode b_Packer_write 104 = .ok (.iload 10, 2) := by decide +kernel
theorem d_Packer_write_106 : decode b_Packer_write 106 = .ok (.iload 5, 2) := by decide +kernel
theorem d_Packer_write_108 : decode b_Packer_write 108 = .ok (.if_icmp .ne 37, 3) := by decide +kernel
theorem d_Packer_write_111 : decode b_Packer_write 111 = .ok (.aload_n 0, 1) := by decide +kernel
theorem d_Packer_write_112 : decode b_Packer_write 112 = .ok (.iload 6, 2) := by decide +kernel
theorem d_Packer_write_114 : decode b_Packer_write 114 = .ok (.aload_n 2, 1) := by decide +kernel
theorem d_Packer_write_115 : decode b_Packer_write 115 = .ok (.invokevirtual 36, 3) := by decide +kernel
theorem d_Packer_write_118 : decode b_Packer_write 118 = .ok (.aload_n 0, 1) := by decide +kernel
theorem d_Packer_write_119 : decode b_Packer_write 119 = .ok (.iload 6, 2) := by decide +kernel
theorem d_Packer_write_121 : decode b_Packer_write 121 = .ok (.iload 4, 2) := by decide +kernel
theorem d_Packer_write_123 : decode b_Packer_write 123 = .ok (.iconst 1, 1) := by decide +kernel
theorem d_Packer_write_124 : decode b_Packer_write 124 = .ok (.iadd, 1) := by decide +kernel
theorem d_Packer_write_125 : decode b_Packer_write 125 = .ok (.iload 4, 2) := by decide +kernel
theorem d_Packer_write_127 : decode b_Packer_write 127 = .ok (.iload_n 3, 1) := by decide +kernel
theorem d_Packer_write_128 : decode b_Packer_write 128 = .ok (.if_icmp .ne 7, 3) := by decide +kernel
theorem d_Packer_write_131 : decode b_Packer_write 131 = .ok (.iconst 1, 1) := by decide +kernel
theorem d_Packer_write_132 : decode b_Packer_write 132 = .ok (.goto 4, 3) := by decide +kernel
theorem d_Packer_write_135 : decode b_Packer_write 135 = .ok (.iconst 0, 1) := by decide +kernel
theorem d_Packer_write_136 : decode b_Packer_write 136 = .ok (.invokevirtual 40, 3) := by decide +kernel
theorem d_Packer_write_139 : decode b_Packer_write 139 = .ok (.iconst 0, 1) := by decide +kernel
theorem d_Packer_write_140 : decode b_Packer_write 140 = .ok (.istore 6, 2) := by decide +kernel
theorem d_Packer_write_142 : decode b_Packer_write 142 = .ok (.iinc 4 1, 3) := by decide +kernel
theorem d_Packer_write_145 : decode b_Packer_write 145 = .ok (.iinc 9 1, 3) := by decide +kernel
theorem d_Packer_write_148 : decode b_Packer_write 148 = .ok (.goto (-74), 3) := by decide +kernel
theorem d_Packer_write_151 : decode b_Packer_write 151 = .ok (.iinc 6 1, 3) := by decide +kernel
theorem d_Packer_write_154 : decode b_Packer_write 154 = .ok (.iinc 5 1, 3) := by decide +kernel
theorem d_Packer_write_157 : decode b_Packer_write 157 = .ok (.iinc 7 1, 3) := by decide +kernel
theorem d_Packer_write_160 : decode b_Packer_write 160 = .ok (.goto (-134), 3) := by decide +kernel
theorem d_Packer_write_163 : decode b_Packer_write 163 = .ok (.return_, 1) := by decide +kernel
theorem d_Packer_writeBasic_0 : decode b_Packer_writeBasic 0 = .ok (.iconst 0, 1) := by decide +kernel
theorem d_Packer_writeBasic_1 : decode b_Packer_writeBasic 1 = .ok (.istore_n 2, 1) := by decide +kernel
theorem d_Packer_writeBasic_2 : decode b_Packer_writeBasic 2 = .ok (.iconst 0, 1) := by decide +kernel
theorem d_Packer_writeBasic_3 : decode b_Packer_writeBasic 3 = .ok (.istore_n 3, 1) := by decide +kernel
theorem d_Packer_writeBasic_4 : decode b_Packer_writeBasic 4 = .ok (.iload_n 3, 1) := by decide +kernel
theorem d_Packer_writeBasic_5 : decode b_Packer_writeBasic 5 = .ok (.aload_n 0, 1) := by decide +kernel
theorem d_Packer_writeBasic_6 : decode b_Packer_writeBasic 6 = .ok (.invokevirtual 22, 3) := by decide +kernel
theorem d_Packer_writeBasic_9 : decode b_Packer_writeBasic 9 = .ok (.if_icmp .ge 33, 3) := by decide +kernel
theorem d_Packer_writeBasic_12 : decode b_Packer_writeBasic 12 = .ok (.aload_n 0, 1) := by decide +kernel
theorem d_Packer_writeBasic_13 : decode b_Packer_writeBasic 13 = .ok (.iload_n 3, 1) := by decide +kernel
theorem d_Packer_writeBasic_14 : decode b_Packer_writeBasic 14 = .ok (.invokevirtual 32, 3) := by decide +kernel
theorem d_Packer_writeBasic_17 : decode b_Packer_writeBasic 17 = .ok (.sipush 128, 3) := by decide +kernel
theorem d_Packer_writeBasic_20 : decode b_Packer_writeBasic 20 = .ok (.if_icmp .ge 16, 3) := by decide +kernel
theorem d_Packer_writeBasic_23 : decode b_Packer_writeBasic 23 = .ok (.aload_n 1, 1) := by decide +kernel
theorem d_Packer_writeBasic_24 : decode b_Packer_writeBasic 24 = .ok (.aload_n 0, 1) := by decide +kernel
theorem d_Packer_writeBasic_25 : decode b_Packer_writeBasic 25 = .ok (.iload_n 3, 1) := by decide +kernel
theorem d_Packer_writeBasic_26 : decode b_Packer_writeBasic 26 = .ok (.invokevirtual 32, 3) := by decide +kernel
theorem d_Packer_writeBasic_29 : decode b_Packer_writeBasic 29 = .ok (.invokevirtual 44, 3) := by decide +kernel
theorem d_Packer_writeBasic_32 : decode b_Packer_writeBasic 32 = .ok (.pop, 1) := by decide +kernel
theorem d_Packer_writeBasic_33 : decode b_Packer_writeBasic 33 = .ok (.iinc 2 1, 3) := by decide +kernel
theorem d_Packer_writeBasic_36 : decode b_Packer_writeBasic 36 = .ok (.iinc 3 1, 3) := by decide +kernel
theorem d_Packer_writeBasic_39 : decode b_Packer_writeBasic 39 = .ok (.goto (-35), 3) := by decide +kernel
theorem d_Packer_writeBasic_42 : decode b_Packer_writeBasic 42 = .ok (.iload_n 2, 1) := by decide +kernel
theorem d_Packer_writeBasic_43 : decode b_Packer_writeBasic 43 = .ok (.ifCond .le 10, 3) := by decide +kernel
theorem d_Packer_writeBasic_46 : decode b_Packer_writeBasic 46 = .ok (.aload_n 1, 1) := by decide +kernel
theorem d_Packer_writeBasic_47 : decode b_Packer_writeBasic 47 = .ok (.bipush 45, 2) := by decide +kernel
theorem d_Packer_writeBasic_49 : decode b_Packer_writeBasic 49 = .ok (.invokevirtual 44, 3) := by decide +kernel
theorem d_Packer_writeBasic_52 : decode b_Packer_writeBasic 52 = .ok (.pop, 1) := by decide +kernel
theorem d_Packer_writeBasic_53 : decode b_Packer_writeBasic 53 = .ok (.iload_n 2, 1) := by decide +kernel
theorem d_Packer_writeBasic_54 : decode b_Packer_writeBasic 54 = .ok (.ireturn, 1) := by decide +kernel
theorem d_Packer_leastFrom_0 : decode b_Packer_leastFrom 0 = .ok (.ldc 48, 2) := by decide +kernel
theorem d_Packer_leastFrom_2 : decode b_Packer_leastFrom 2 = .ok (.istore_n 2, 1) := by decide +kernel
theorem d_Packer_leastFrom_3 : decode b_Packer_leastFrom 3 = .ok (.iconst 0, 1) := by decide +kernel
theorem d_Packer_leastFrom_4 : decode b_Packer_leastFrom 4 = .ok (.istore_n 3, 1) := by decide +kernel
theorem d_Packer_leastFrom_5 : decode b_Packer_leastFrom 5 = .ok (.iload_n 3, 1) := by decide +kernel
theorem d_Packer_leastFrom_6 : decode b_Packer_leastFrom 6 = .ok (.aload_n 0, 1) := by decide +kernel
theorem d_Packer_leastFrom_7 : decode b_Packer_leastFrom 7 = .ok (.invokevirtual 22, 3) := by decide +kernel
theorem d_Packer_leastFrom_10 : decode b_Packer_leastFrom 10 = .ok (.if_icmp .ge 33, 3) := by decide +kernel
theorem d_Packer_leastFrom_13 : decode b_Packer_leastFrom 13 = .ok (.aload_n 0, 1) := by decide +kernel
theorem d_Packer_leastFrom_14 : decode b_Packer_leastFrom 14 = .ok (.iload_n 3, 1) := by decide +kernel
theorem d_Packer_leastFrom_15 : decode b_Packer_leastFrom 15 = .ok (.invokevirtual 32, 3) := by decide +kernel
theorem d_Packer_leastFrom_18 : decode b_Packer_leastFrom 18 = .ok (.iload_n 1, 1) := by decide +kernel
theorem d_Packer_leastFrom_19 : decode b_Packer_leastFrom 19 = .ok (.if_icmp .lt 18, 3) := by decide +kernel
theorem d_Packer_leastFrom_22 : decode b_Packer_leastFrom 22 = .ok (.aload_n 0, 1) := by decide +kernel
theorem d_Packer_leastFrom_23 : decode b_Packer_leastFrom 23 = .ok (.iload_n 3, 1) := by decide +kernel
theorem d_Packer_leastFrom_24 : decode b_Packer_leastFrom 24 = .ok (.invokevirtual 32, 3) := by decide +kernel
theorem d_Packer_leastFrom_27 : decode b_Packer_leastFrom 27 = .ok (.iload_n 2, 1) := by decide +kernel
theorem d_Packer_leastFrom_28 : decode b_Packer_leastFrom 28 = .ok (.if_icmp .ge 9, 3) := by decide +kernel
theorem d_Packer_leastFrom_31 : decode b_Packer_leastFrom 31 = .ok (.aload_n 0, 1) := by decide +kernel
theorem d_Packer_leastFrom_32 : decode b_Packer_leastFrom 32 = .ok (.iload_n 3, 1) := by decide +kernel
theorem d_Packer_leastFrom_33 : decode b_Packer_leastFrom 33 = .ok (.invokevirtual 32, 3) := by decide +kernel
theorem d_Packer_leastFrom_36 : decode b_Packer_leastFrom 36 = .ok (.istore_n 2, 1) := by decide +kernel
theorem d_Packer_leastFrom_37 : decode b_Packer_leastFrom 37 = .ok (.iinc 3 1, 3) := by decide +kernel
theorem d_Packer_leastFrom_40 : decode b_Packer_leastFrom 40 = .ok (.goto (-35), 3) := by decide +kernel
theorem d_Packer_leastFrom_43 : decode b_Packer_leastFrom 43 = .ok (.iload_n 2, 1) := by decide +kernel
theorem d_Packer_leastFrom_44 : decode b_Packer_leastFrom 44 = .ok (.ireturn, 1) := by decide +kernel
theorem d_Packer_threshold_0 : decode b_Packer_threshold 0 = .ok (.iconst 1, 1) := by decide +kernel
theorem d_Packer_threshold_1 : decode b_Packer_threshold 1 = .ok (.bipush 26, 2) := by decide +kernel
theorem d_Packer_threshold_3 : decode b_Packer_threshold 3 = .ok (.bipush 36, 2) := by decide +kernel
theorem d_Packer_threshold_5 : decode b_Packer_threshold 5 = .ok (.iload_n 1, 1) := by decide +kernel
theorem d_Packer_threshold_6 : decode b_Packer_threshold 6 = .ok (.iconst 1, 1) := by decide +kernel
theorem d_Packer_threshold_7 : decode b_Packer_threshold 7 = .ok (.iadd, 1) := by decide +kernel
theorem d_Packer_threshold_8 : decode b_Packer_threshold 8 = .ok (.imul, 1) := by decide +kernel
theorem d_Packer_threshold_9 : decode b_Packer_threshold 9 = .ok (.aload_n 0, 1) := by decide +kernel
theorem d_Packer_threshold_10 : decode b_Packer_threshold 10 = .ok (.getfield 11, 3) := by decide +kernel
theorem d_Packer_threshold_13 : decode b_Packer_threshold 13 = .ok (.isub, 1) := by decide +kernel
theorem d_Packer_threshold_14 : decode b_Packer_threshold 14 = .ok (.invokestatic 49, 3) := by decide +kernel
theorem d_Packer_threshold_17 : decode b_Packer_threshold 17 = .ok (.invokestatic 55, 3) := by decide +kernel
theorem d_Packer_threshold_20 : decode b_Packer_threshold 20 = .ok (.ireturn, 1) := by decide +kernel
theorem d_Packer_writeNumber_0 : decode b_Packer_writeNumber 0 = .ok (.iload_n 1, 1) := by decide +kernel
theorem d_Packer_writeNumber_1 : decode b_Packer_writeNumber 1 = .ok (.istore_n 3, 1) := by decide +kernel
theorem d_Packer_writeNumber_2 : decode b_Packer_writeNumber 2 = .ok (.iconst 0, 1) := by decide +kernel
theorem d_Packer_writeNumber_3 : decode b_Packer_writeNumber 3 = .ok (.istore 4, 2) := by decide +kernel
theorem d_Packer_writeNumber_5 : decode b_Packer_writeNumber 5 = .ok (.iload 4, 2) := by decide +kernel
theorem d_Packer_writeNumber_7 : decode b_Packer_writeNumber 7 = .ok (.bipush 100, 2) := by decide +kernel
theorem d_Packer_writeNumber_9 : decode b_Packer_writeNumber 9 = .ok (.if_icmp .ge 58, 3) := by decide +kernel
theorem d_Packer_writeNumber_12 : decode b_Packer_writeNumber 12 = .ok (.aload_n 0, 1) := by decide +kernel
theorem d_Packer_writeNumber_13 : decode b_Packer_writeNumber 13 = .ok (.iload 4, 2) := by decide +kernel
theorem d_Packer_writeNumber_15 : decode b_Packer_writeNumber 15 = .ok (.invokevirtual 58, 3) := by decide +kernel
theorem d_Packer_writeNumber_18 : decode b_Packer_writeNumber 18 = .ok (.istore 5, 2) := by decide +kernel
theorem d_Packer_writeNumber_20 : decode b_Packer_writeNumber 20 = .ok (.iload_n 3, 1) := by decide +kernel
theorem d_Packer_writeNumber_21 : decode b_Packer_writeNumber 21 = .ok (.iload 5, 2) := by decide +kernel
theorem d_Packer_writeNumber_23 : decode b_Packer_writeNumber 23 = .ok (.if_icmp .ge 6, 3) := by decide +kernel
theorem d_Packer_writeNumber_26 : decode b_Packer_writeNumber 26 = .ok (.goto 41, 3) := by decide +kernel
theorem d_Packer_writeNumber_29 : decode b_Packer_writeNumber 29 = .ok (.aload_n 2, 1) := by decide +kernel
theorem d_Packer_writeNumber_30 : decode b_Packer_writeNumber 30 = .ok (.iload 5, 2) := by decide +kernel
theorem d_Packer_writeNumber_32 : decode b_Packer_writeNumber 32 = .ok (.iload_n 3, 1) := by decide +kernel
theorem d_Packer_writeNumber_33 : decode b_Packer_writeNumber 33 = .ok (.iload 5, 2) := by decide +kernel
theorem d_Packer_writeNumber_35 : decode b_Packer_writeNumber 35 = .ok (.isub, 1) := by decide +kernel
theorem d_Packer_writeNumber_36 : decode b_Packer_writeNumber 36 = .ok (.bipush 36, 2) := by decide +kernel
theorem d_Packer_writeNumber_38 : decode b_Packer_writeNumber 38 = .ok (.iload 5, 2) := by decide +kernel
theorem d_Packer_writeNumber_40 : decode b_Packer_writeNumber 40 = .ok (.isub, 1) := by decide +kernel
theorem d_Packer_writeNumber_41 : decode b_Packer_writeNumber 41 = .ok (.irem, 1) := by decide +kernel
theorem d_Packer_writeNumber_42 : decode b_Packer_writeNumber 42 = .ok (.iadd, 1) := by decide +kernel
theorem d_Packer_writeNumber_43 : decode b_Packer_writeNumber 43 = .ok (.invokestatic 61, 3) := by decide +kernel
theorem d_Packer_writeNumber_46 : decode b_Packer_writeNumber 46 = .ok (.invokevirtual 44, 3) := by decide +kernel
theorem d_Packer_writeNumber_49 : decode b_Packer_writeNumber 49 = .ok (.pop, 1) := by decide +kernel
theorem d_Packer_writeNumber_50 : decode b_Packer_writeNumber 50 = .ok (.iload_n 3, 1) := by decide +kernel
theorem d_Packer_writeNumber_51 : decode b_Packer_writeNumber 51 = .ok (.iload 5, 2) := by decide +kernel
theorem d_Packer_writeNumber_53 : decode b_Packer_writeNumber 53 = .ok (.isub, 1) := by decide +kernel
theorem d_Packer_writeNumber_54 : decode b_Packer_writeNumber 54 = .ok (.bipush 36, 2) := by decide +kernel
theorem d_Packer_writeNumber_56 : decode b_Packer_writeNumber 56 = .ok (.iload 5, 2) := by decide +kernel
theorem d_Packer_writeNumber_58 : decode b_Packer_writeNumber 58 = .ok (.isub, 1) := by decide +kernel
theorem d_Packer_writeNumber_59 : decode b_Packer_writeNumber 59 = .ok (.idiv, 1) := by decide +kernel
theorem d_Packer_writeNumber_60 : decode b_Packer_writeNumber 60 = .ok (.istore_n 3, 1) := by decide +kernel
theorem d_Packer_writeNumber_61 : decode b_Packer_writeNumber 61 = .ok (.iinc 4 1, 3) := by decide +kernel
theorem d_Packer_writeNumber_64 : decode b_Packer_writeNumber 64 = .ok (.goto (-59), 3) := by decide +kernel
theorem d_Packer_writeNumber_67 : decode b_Packer_writeNumber 67 = .ok (.aload_n 2, 1) := by decide +kernel
theorem d_Packer_writeNumber_68 : decode b_Packer_writeNumber 68 = .ok (.iload_n 3, 1) := by decide +kernel
theorem d_Packer_writeNumber_69 : decode b_Packer_writeNumber 69 = .ok (.invokestatic 61, 3) := by decide +kernel
theorem d_Packer_writeNumber_72 : decode b_Packer_writeNumber 72 = .ok (.invokevirtual 44, 3) := by decide +kernel
theorem d_Packer_writeNumber_75 : decode b_Packer_writeNumber 75 = .ok (.pop, 1) := by decide +kernel
theorem d_Packer_writeNumber_76 : decode b_Packer_writeNumber 76 = .ok (.return_, 1) := by decide +kernel
theorem d_Packer_codeOfDigit_0 : decode b_Packer_codeOfDigit 0 = .ok (.iload_n 0, 1) := by decide +kernel
theorem d_Packer_codeOfDigit_1 : decode b_Packer_codeOfDigit 1 = .ok (.bipush 26, 2) := by decide +kernel
theorem d_Packer_codeOfDigit_3 : decode b_Packer_codeOfDigit 3 = .ok (.if_icmp .ge 10, 3) := by decide +kernel
theorem d_Packer_codeOfDigit_6 : decode b_Packer_codeOfDigit 6 = .ok (.bipush 97, 2) := by decide +kernel
theorem d_Packer_codeOfDigit_8 : decode b_Packer_codeOfDigit 8 = .ok (.iload_n 0, 1) := by decide +kernel
theorem d_Packer_codeOfDigit_9 : decode b_Packer_codeOfDigit 9 = .ok (.iadd, 1) := by decide +kernel
theorem d_Packer_codeOfDigit_10 : decode b_Packer_codeOfDigit 10 = .ok (.goto 10, 3) := by decide +kernel
theorem d_Packer_codeOfDigit_13 : decode b_Packer_codeOfDigit 13 = .ok (.bipush 48, 2) := by decide +kernel
theorem d_Packer_codeOfDigit_15 : decode b_Packer_codeOfDigit 15 = .ok (.iload_n 0, 1) := by decide +kernel
theorem d_Packer_codeOfDigit_16 : decode b_Packer_codeOfDigit 16 = .ok (.iadd, 1) := by decide +kernel
theorem d_Packer_codeOfDigit_17 : decode b_Packer_codeOfDigit 17 = .ok (.bipush 26, 2) := by decide +kernel
theorem d_Packer_codeOfDigit_19 : decode b_Packer_codeOfDigit 19 = .ok (.isub, 1) := by decide +kernel
theorem d_Packer_codeOfDigit_20 : decode b_Packer_codeOfDigit 20 = .ok (.ireturn, 1) := by decide +kernel
theorem d_Packer_digitOfCode_0 : decode b_Packer_digitOfCode 0 = .ok (.iload_n 0, 1) := by decide +kernel
theorem d_Packer_digitOfCode_1 : decode b_Packer_digitOfCode 1 = .ok (.bipush 97, 2) := by decide +kernel
theorem d_Packer_digitOfCode_3 : decode b_Packer_digitOfCode 3 = .ok (.bipush 122, 2) := by decide +kernel
theorem d_Packer_digitOfCode_5 : decode b_Packer_digitOfCode 5 = .ok (.invokestatic 64, 3) := by decide +kernel
theorem d_Packer_digitOfCode_8 : decode b_Packer_digitOfCode 8 = .ok (.ifCond .eq 8, 3) := by decide +kernel
theorem d_Packer_digitOfCode_11 : decode b_Packer_digitOfCode 11 = .ok (.iload_n 0, 1) := by decide +kernel
theorem d_Packer_digitOfCode_12 : decode b_Packer_digitOfCode 12 = .ok (.bipush 97, 2) := by decide +kernel
theorem d_Packer_digitOfCode_14 : decode b_Packer_digitOfCode 14 = .ok (.isub, 1) := by decide +kernel
theorem d_Packer_digitOfCode_15 : decode b_Packer_digitOfCode 15 = .ok (.ireturn, 1) := by decide +kernel
theorem d_Packer_digitOfCode_16 : decode b_Packer_digitOfCode 16 = .ok (.iload_n 0, 1) := by decide +kernel
theorem d_Packer_digitOfCode_17 : decode b_Packer_digitOfCode 17 = .ok (.invokestatic 70, 3) := by decide +kernel
theorem d_Packer_digitOfCode_20 : decode b_Packer_digitOfCode 20 = .ok (.ifCond .eq 8, 3) := by decide +kernel
theorem d_Packer_digitOfCode_23 : decode b_Packer_digitOfCode 23 = .ok (.iload_n 0, 1) := by decide +kernel
theorem d_Packer_digitOfCode_24 : decode b_Packer_digitOfCode 24 = .ok (.bipush 65, 2) := by decide +kernel
theorem d_Packer_digitOfCode_26 : decode b_Packer_digitOfCode 26 = .ok (.isub, 1) := by decide +kernel
theorem d_Packer_digitOfCode_27 : decode b_Packer_digitOfCode 27 = .ok (.ireturn, 1) := by decide +kernel
theorem d_Packer_digitOfCode_28 : decode b_Packer_digitOfCode 28 = .ok (.iload_n 0, 1) := by decide +kernel
theorem d_Packer_digitOfCode_29 : decode b_Packer_digitOfCode 29 = .ok (.bipush 48, 2) := by decide +kernel
theorem d_Packer_digitOfCode_31 : decode b_Packer_digitOfCode 31 = .ok (.bipush 57, 2) := by decide +kernel
theorem d_Packer_digitOfCode_33 : decode b_Packer_digitOfCode 33 = .ok (.invokestatic 64, 3) := by decide +kernel
theorem d_Packer_digitOfCode_36 : decode b_Packer_digitOfCode 36 = .ok (.ifCond .eq 13, 3) := by decide +kernel
theorem d_Packer_digitOfCode_39 : decode b_Packer_digitOfCode 39 = .ok (.iload_n 0, 1) := by decide +kernel
theorem d_Packer_digitOfCode_40 : decode b_Packer_digitOfCode 40 = .ok (.bipush 48, 2) := by decide +kernel
theorem d_Packer_digitOfCode_42 : decode b_Packer_digitOfCode 42 = .ok (.isub, 1) := by decide +kernel
theorem d_Packer_digitOfCode_43 : decode b_Packer_digitOfCode 43 = .ok (.bipush 26, 2) := by decide +kernel
theorem d_Packer_digitOfCode_45 : decode b_Packer_digitOfCode 45 = .ok (.iadd, 1) := by decide +kernel
theorem d_Packer_digitOfCode_46 : decode b_Packer_digitOfCode 46 = .ok (.goto 4, 3) := by decide +kernel
theorem d_Packer_digitOfCode_49 : decode b_Packer_digitOfCode 49 = .ok (.iconst (-1), 1) := by decide +kernel
theorem d_Packer_digitOfCode_50 : decode b_Packer_digitOfCode 50 = .ok (.ireturn, 1) := by decide +kernel
theorem d_Packer_adapt_0 : decode b_Packer_adapt 0 = .ok (.iload_n 3, 1) := by decide +kernel
theorem d_Packer_adapt_1 : decode b_Packer_adapt 1 = .ok (.ifCond .eq 11, 3) := by decide +kernel
theorem d_Packer_adapt_4 : decode b_Packer_adapt 4 = .ok (.iload_n 1, 1) := by decide +kernel
theorem d_Packer_adapt_5 : decode b_Packer_adapt 5 = .ok (.sipush 700, 3) := by decide +kernel
theorem d_Packer_adapt_8 : decode b_Packer_adapt 8 = .ok (.idiv, 1) := by decide +kernel
theorem d_Packer_adapt_9 : decode b_Packer_adapt 9 = .ok (.goto 6, 3) := by decide +kernel
theorem d_Packer_adapt_12 : decode b_Packer_adapt 12 = .ok (.iload_n 1, 1) := by decide +kernel
theorem d_Packer_adapt_13 : decode b_Packer_adapt 13 = .ok (.iconst 2, 1) := by decide +kernel
theorem d_Packer_adapt_14 : decode b_Packer_adapt 14 = .ok (.idiv, 1) := by decide +kernel
theorem d_Packer_adapt_15 : decode b_Packer_adapt 15 = .ok (.istore 4, 2) := by decide +kernel
theorem d_Packer_adapt_17 : decode b_Packer_adapt 17 = .ok (.iload 4, 2) := by decide +kernel
theorem d_Packer_adapt_19 : decode b_Packer_adapt 19 = .ok (.iload 4, 2) := by decide +kernel
theorem d_Packer_adapt_21 : decode b_Packer_adapt 21 = .ok (.iconst 1, 1) := by decide +kernel
theorem d_Packer_adapt_22 : decode b_Packer_adapt 22 = .ok (.iload_n 2, 1) := by decide +kernel
theorem d_Packer_adapt_23 : decode b_Packer_adapt 23 = .ok (.invokestatic 55, 3) := by decide +kernel
theorem d_Packer_adapt_26 : decode b_Packer_adapt 26 = .ok (.idiv, 1) := by decide +kernel
theorem d_Packer_adapt_27 : decode b_Packer_adapt 27 = .ok (.iadd, 1) := by decide +kernel
theorem d_Packer_adapt_28 : decode b_Packer_adapt 28 = .ok (.istore 4, 2) := by decide +kernel
theorem d_Packer_adapt_30 : decode b_Packer_adapt 30 = .ok (.iconst 0, 1) := by decide +kernel
theorem d_Packer_adapt_31 : decode b_Packer_adapt 31 = .ok (.istore 5, 2) := by decide +kernel
theorem d_Packer_adapt_33 : decode b_Packer_adapt 33 = .ok (.iconst 0, 1) := by decide +kernel
theorem d_Packer_adapt_34 : decode b_Packer_adapt 34 = .ok (.istore 6, 2) := by decide +kernel
theorem d_Packer_adapt_36 : decode b_Packer_adapt 36 = .ok (.iload 6, 2) := by decide +kernel
theorem d_Packer_adapt_38 : decode b_Packer_adapt 38 = .ok (.bipush 100, 2) := by decide +kernel
theorem d_Packer_adapt_40 : decode b_Packer_adapt 40 = .ok (.if_icmp .ge 27, 3) := by decide +kernel
theorem d_Packer_adapt_43 : decode b_Packer_adapt 43 = .ok (.iload 4, 2) := by decide +kernel
theorem d_Packer_adapt_45 : decode b_Packer_adapt 45 = .ok (.sipush 455, 3) := by decide +kernel
theorem d_Packer_adapt_48 : decode b_Packer_adapt 48 = .ok (.if_icmp .le 19, 3) := by decide +kernel
theorem d_Packer_adapt_51 : decode b_Packer_adapt 51 = .ok (.iload 4, 2) := by decide +kernel
theorem d_Packer_adapt_53 : decode b_Packer_adapt 53 = .ok (.bipush 35, 2) := by decide +kernel
theorem d_Packer_adapt_55 : decode b_Packer_adapt 55 = .ok (.idiv, 1) := by decide +kernel
theorem d_Packer_adapt_56 : decode b_Packer_adapt 56 = .ok (.istore 4, 2) := by decide +kernel
theorem d_Packer_adapt_58 : decode b_Packer_adapt 58 = .ok (.iinc 5 36, 3) := by decide +kernel
theorem d_Packer_adapt_61 : decode b_Packer_adapt 61 = .ok (.iinc 6 1, 3) := by decide +kernel
theorem d_Packer_adapt_64 : decode b_Packer_adapt 64 = .ok (.goto (-28), 3) := by decide +kernel
theorem d_Packer_adapt_67 : decode b_Packer_adapt 67 = .ok (.aload_n 0, 1) := by decide +kernel
theorem d_Packer_adapt_68 : decode b_Packer_adapt 68 = .ok (.iload 5, 2) := by decide +kernel
theorem d_Packer_adapt_70 : decode b_Packer_adapt 70 = .ok (.bipush 36, 2) := by decide +kernel
theorem d_Packer_adapt_72 : decode b_Packer_adapt 72 = .ok (.iload 4, 2) := by decide +kernel
theorem d_Packer_adapt_74 : decode b_Packer_adapt 74 = .ok (.imul, 1) := by decide +kernel
theorem d_Packer_adapt_75 : decode b_Packer_adapt 75 = .ok (.iload 4, 2) := by decide +kernel
theorem d_Packer_adapt_77 : decode b_Packer_adapt 77 = .ok (.bipush 38, 2) := by decide +kernel
theorem d_Packer_adapt_79 : decode b_Packer_adapt 79 = .ok (.iadd, 1) := by decide +kernel
theorem d_Packer_adapt_80 : decode b_Packer_adapt 80 = .ok (.idiv, 1) := by decide +kernel
theorem d_Packer_adapt_81 : decode b_Packer_adapt 81 = .ok (.iadd, 1) := by decide +kernel
theorem d_Packer_adapt_82 : decode b_Packer_adapt 82 = .ok (.putfield 11, 3) := by decide +kernel
theorem d_Packer_adapt_85 : decode b_Packer_adapt 85 = .ok (.return_, 1) := by decide +kernel
theorem d_Packer_read_0 : decode b_Packer_read 0 = .ok (.aload_n 3, 1) := by decide +kernel
theorem d_Packer_read_1 : decode b_Packer_read 1 = .ok (.invokevirtual 73, 3) := by decide +kernel
theorem d_Packer_read_4 : decode b_Packer_read 4 = .ok (.aload_n 0, 1) := by decide +kernel
theorem d_Packer_read_5 : decode b_Packer_read 5 = .ok (.aload_n 1, 1) := by decide +kernel
theorem d_Packer_read_6 : decode b_Packer_read 6 = .ok (.iload_n 2, 1) := by decide +kernel
theorem d_Packer_read_7 : decode b_Packer_read 7 = .ok (.aload_n 3, 1) := by decide +kernel
theorem d_Packer_read_8 : decode b_Packer_read 8 = .ok (.invokevirtual 76, 3) := by decide +kernel
theorem d_Packer_read_11 : decode b_Packer_read 11 = .ok (.ifCond .ne 5, 3) := by decide +kernel
theorem d_Packer_read_14 : decode b_Packer_read 14 = .ok (.iconst 0, 1) := by decide +kernel
theorem d_Packer_read_15 : decode b_Packer_read 15 = .ok (.ireturn, 1) := by decide +kernel
theorem d_Packer_read_16 : decode b_Packer_read 16 = .ok (.lconst 0, 1) := by decide +kernel
theorem d_Packer_read_17 : decode b_Packer_read 17 = .ok (.lstore 4, 2) := by decide +kernel
theorem d_Packer_read_19 : decode b_Packer_read 19 = .ok (.ldc2_w 80, 3) := by decide +kernel
theorem d_Packer_read_22 : decode b_Packer_read 22 = .ok (.lstore 6, 2) := by decide +kernel
theorem d_Packer_read_24 : decode b_Packer_read 24 = .ok (.aload_n 0, 1) := by decide +kernel
theorem d_Packer_read_25 : decode b_Packer_read 25 = .ok (.bipush 72, 2) := by decide +kernel
theorem d_Packer_read_27 : decode b_Packer_read 27 = .ok (.putfield 11, 3) := by decide +kernel
theorem d_Packer_read_30 : decode b_Packer_read 30 = .ok (.iconst 0, 1) := by decide +kernel
theorem d_Packer_read_31 : decode b_Packer_read 31 = .ok (.istore 8, 2) := by decide +kernel
theorem d_Packer_read_33 : decode b_Packer_read 33 = .ok (.iload 8, 2) := by decide +kernel
theorem d_Packer_read_35 : decode b_Packer_read 35 = .ok (.aload_n 1, 1) := by decide +kernel
theorem d_Packer_read_36 : decode b_Packer_read 36 = .ok (.invokevirtual 22, 3) := by decide +kernel
theorem d_Packer_read_39 : decode b_Packer_read 39 = .ok (.if_icmp .ge 130, 3) := by decide +kernel
theorem d_Packer_read_42 : decode b_Packer_read 42 = .ok (.aload_n 0, 1) := by decide +kernel
theorem d_Packer_read_43 : decode b_Packer_read 43 = .ok (.getfield 15, 3) := by decide +kernel
theorem d_Packer_read_46 : decode b_Packer_read 46 = .ok (.aload_n 1, 1) := by decide +kernel
theorem d_Packer_read_47 : decode b_Packer_read 47 = .ok (.invokevirtual 22, 3) := by decide +kernel
theorem d_Packer_read_50 : decode b_Packer_read 50 = .ok (.if_icmp .ge 119, 3) := by decide +kernel
theorem d_Packer_read_53 : decode b_Packer_read 53 = .ok (.lload 4, 2) := by decide +kernel
theorem d_Packer_read_55 : decode b_Packer_read 55 = .ok (.lstore 9, 2) := by decide +kernel
theorem d_Packer_read_57 : decode b_Packer_read 57 = .ok (.aload_n 0, 1) := by decide +kernel
theorem d_Packer_read_58 : decode b_Packer_read 58 = .ok (.aload_n 1, 1) := by decide +kernel
theorem d_Packer_read_59 : decode b_Packer_read 59 = .ok (.lload 9, 2) := by decide +kernel
theorem d_Packer_read_61 : decode b_Packer_read 61 = .ok (.invokevirtual 82, 3) := by decide +kernel
theorem d_Packer_read_64 : decode b_Packer_read 64 = .ok (.lstore 4, 2) := by decide +kernel
theorem d_Packer_read_66 : decode b_Packer_read 66 = .ok (.lload 4, 2) := by decide +kernel
theorem d_Packer_read_68 : decode b_Packer_read 68 = .ok (.ldc2_w 86, 3) := by decide +kernel
theorem d_Packer_read_71 : decode b_Packer_read 71 = .ok (.lcmp, 1) := by decide +kernel
theorem d_Packer_read_72 : decode b_Packer_read 72 = .ok (.ifCond .ne 5, 3) := by decide +kernel
theorem d_Packer_read_75 : decode b_Packer_read 75 = .ok (.iconst 0, 1) := by decide +kernel
theorem d_Packer_read_76 : decode b_Packer_read 76 = .ok (.ireturn, 1) := by decide +kernel
theorem d_Packer_read_77 : decode b_Packer_read 77 = .ok (.aload_n 3, 1) := by decide +kernel
theorem d_Packer_read_78 : decode b_Packer_read 78 = .ok (.invokevirtual 22, 3) := by decide +kernel
theorem d_Packer_read_81 : decode b_Packer_read 81 = .ok (.iconst 1, 1) := by decide +kernel
theorem d_Packer_read_82 : decode b_Packer_read 82 = .ok (.iadd, 1) := by decide +kernel
theorem d_Packer_read_83 : decode b_Packer_read 83 = .ok (.istore 11, 2) := by decide +kernel
theorem d_Packer_read_85 : decode b_Packer_read 85 = .ok (.aload_n 0, 1) := by decide +kernel
theorem d_Packer_read_86 : decode b_Packer_read 86 = .ok (.lload 4, 2) := by decide +kernel
theorem d_Packer_read_88 : decode b_Packer_read 88 = .ok (.lload 9, 2) := by decide +kernel
theorem d_Packer_read_90 : decode b_Packer_read 90 = .ok (.lsub, 1) := by decide +kernel
theorem d_Packer_read_91 : decode b_Packer_read 91 = .ok (.l2i, 1) := by decide +kernel
theorem d_Packer_read_92 : decode b_Packer_read 92 = .ok (.iload 11, 2) := by decide +kernel
theorem d_Packer_read_94 : decode b_Packer_read 94 = .ok (.lload 9, 2) := by decide +kernel
theorem d_Packer_read_96 : decode b_Packer_read 96 = .ok (.lconst 0, 1) := by decide +kernel
theorem d_Packer_read_97 : decode b_Packer_read 97 = .ok (.lcmp, 1) := by decide +kernel
theorem d_Packer_read_98 : decode b_Packer_read 98 = .ok (.ifCond .ne 7, 3) := by decide +kernel
theorem d_Packer_read_101 : decode b_Packer_read 101 = .ok (.iconst 1, 1) := by decide +kernel
theorem d_Packer_read_102 : decode b_Packer_read 102 = .ok (.goto 4, 3) := by decide +kernel
theorem d_Packer_read_105 : decode b_Packer_read 105 = .ok (.iconst 0, 1) := by decide +kernel
theorem d_Packer_read_106 : decode b_Packer_read 106 = .ok (.invokevirtual 40, 3) := by decide +kernel
theorem d_Packer_read_109 : decode b_Packer_read 109 = .ok (.lload 6, 2) := by decide +kernel
theorem d_Packer_read_111 : decode b_Packer_read 111 = .ok (.lload 4, 2) := by decide +kernel
theorem d_Packer_read_113 : decode b_Packer_read 113 = .ok (.iload 11, 2) := by decide +kernel
theorem d_Packer_read_115 : decode b_Packer_read 115 = .ok (.i2l, 1) := by decide +kernel
theorem d_Packer_read_116 : decode b_Packer_read 116 = .ok (.ldiv, 1) := by decide +kernel
theorem d_Packer_read_117 : decode b_Packer_read 117 = .ok (.ladd, 1) := by decide +kernel
theorem d_Packer_read_118 : decode b_Packer_read 118 = .ok (.lstore 6, 2) := by decide +kernel
theorem d_Packer_read_120 : decode b_Packer_read 120 = .ok (.lload 4, 2) := by decide +kernel
theorem d_Packer_read_122 : decode b_Packer_read 122 = .ok (.iload 11, 2) := by decide +kernel
theorem d_Packer_read_124 : decode b_Packer_read 124 = .ok (.i2l, 1) := by decide +kernel
theorem d_Packer_read_125 : decode b_Packer_read 125 = .ok (.lrem, 1) := by decide +kernel
theorem d_Packer_read_126 : decode b_Packer_read 126 = .ok (.lstore 4, 2) := by decide +kernel
theorem d_Packer_read_128 : decode b_Packer_read 128 = .ok (.lload 6, 2) := by decide +kernel
theorem d_Packer_read_130 : decode b_Packer_read 130 = .ok (.ldc2_w 88, 3) := by decide +kernel
theorem d_Packer_read_133 : decode b_Packer_read 133 = .ok (.lcmp, 1) := by decide +kernel
theorem d_Packer_read_134 : decode b_Packer_read 134 = .ok (.ifCond .gt 10, 3) := by decide +kernel
theorem d_Packer_read_137 : decode b_Packer_read 137 = .ok (.iload 11, 2) := by decide +kernel
theorem d_Packer_read_139 : decode b_Packer_read 139 = .ok (.bipush 48, 2) := by decide +kernel
theorem d_Packer_read_141 : decode b_Packer_read 141 = .ok (.if_icmp .le 5, 3) := by decide +kernel
theorem d_Packer_read_144 : decode b_Packer_read 144 = .ok (.iconst 0, 1) := by decide +kernel
theorem d_Packer_read_145 : decode b_Packer_read 145 = .ok (.ireturn, 1) := by decide +kernel
theorem d_Packer_read_146 : decode b_Packer_read 146 = .ok (.aload_n 3, 1) := by decide +kernel
theorem d_Packer_read_147 : decode b_Packer_read 147 = .ok (.lload 4, 2) := by decide +kernel
theorem d_Packer_read_149 : decode b_Packer_read 149 = .ok (.l2i, 1) := by decide +kernel
theorem d_Packer_read_150 : decode b_Packer_read 150 = .ok (.lload 6, 2) := by decide +kernel
theorem d_Packer_read_152 : decode b_Packer_read 152 = .ok (.l2i, 1) := by decide +kernel
theorem d_Packer_read_153 : decode b_Packer_read 153 = .ok (.invokevirtual 90, 3) := by decide +kernel
theorem d_Packer_read_156 : decode b_Packer_read 156 = .ok (.pop, 1) := by decide +kernel
theorem d_Packer_read_157 : decode b_Packer_read 157 = .ok (.lload 4, 2) := by decide +kernel
theorem d_Packer_read_159 : decode b_Packer_read 159 = .ok (.lconst 1, 1) := by decide +kernel
theorem d_Packer_read_160 : decode b_Packer_read 160 = .ok (.ladd, 1) := by decide +kernel
theorem d_Packer_read_161 : decode b_Packer_read 161 = .ok (.lstore 4, 2) := by decide +kernel
theorem d_Packer_read_163 : decode b_Packer_read 163 = .ok (.iinc 8 1, 3) := by decide +kernel
theorem d_Packer_read_166 : decode b_Packer_read 166 = .ok (.goto (-133), 3) := by decide +kernel
theorem d_Packer_read_169 : decode b_Packer_read 169 = .ok (.iconst 1, 1) := by decide +kernel
theorem d_Packer_read_170 : decode b_Packer_read 170 = .ok (.ireturn, 1) := by decide +kernel
theorem d_Packer_readBasic_0 : decode b_Packer_readBasic 0 = .ok (.aload_n 0, 1) := by decide +kernel
theorem d_Packer_readBasic_1 : decode b_Packer_readBasic 1 = .ok (.iload_n 2, 1) := by decide +kernel
theorem d_Packer_readBasic_2 : decode b_Packer_readBasic 2 = .ok (.putfield 15, 3) := by decide +kernel
theorem d_Packer_readBasic_5 : decode b_Packer_readBasic 5 = .ok (.iload_n 2, 1) := by decide +kernel
theorem d_Packer_readBasic_6 : decode b_Packer_readBasic 6 = .ok (.istore 4, 2) := by decide +kernel
theorem d_Packer_readBasic_8 : decode b_Packer_readBasic 8 = .ok (.iload_n 2, 1) := by decide +kernel
theorem d_Packer_readBasic_9 : decode b_Packer_readBasic 9 = .ok (.istore 5, 2) := by decide +kernel
theorem d_Packer_readBasic_11 : decode b_Packer_readBasic 11 = .ok (.iload 5, 2) := by decide +kernel
theorem d_Packer_readBasic_13 : decode b_Packer_readBasic 13 = .ok (.aload_n 1, 1) := by decide +kernel
theorem d_Packer_readBasic_14 : decode b_Packer_readBasic 14 = .ok (.invokevirtual 22, 3) := by decide +kernel
theorem d_Packer_readBasic_17 : decode b_Packer_readBasic 17 = .ok (.if_icmp .ge 32, 3) := by decide +kernel
theorem d_Packer_readBasic_20 : decode b_Packer_readBasic 20 = .ok (.aload_n 1, 1) := by decide +kernel
theorem d_Packer_readBasic_21 : decode b_Packer_readBasic 21 = .ok (.iload 5, 2) := by decide +kernel
theorem d_Packer_readBasic_23 : decode b_Packer_readBasic 23 = .ok (.invokevirtual 32, 3) := by decide +kernel
theorem d_Packer_readBasic_26 : decode b_Packer_readBasic 26 = .ok (.bipush 45, 2) := by decide +kernel
theorem d_Packer_readBasic_28 : decode b_Packer_readBasic 28 = .ok (.if_icmp .ne 15, 3) := by decide +kernel
theorem d_Packer_readBasic_31 : decode b_Packer_readBasic 31 = .ok (.iload 5, 2) := by decide +kernel
theorem d_Packer_readBasic_33 : decode b_Packer_readBasic 33 = .ok (.istore 4, 2) := by decide +kernel
theorem d_Packer_readBasic_35 : decode b_Packer_readBasic 35 = .ok (.aload_n 0, 1) := by decide +kernel
theorem d_Packer_readBasic_36 : decode b_Packer_readBasic 36 = .ok (.iload 5, 2) := by decide +kernel
theorem d_Packer_readBasic_38 : decode b_Packer_readBasic 38 = .ok (.iconst 1, 1) := by decide +kernel
theorem d_Packer_readBasic_39 : decode b_Packer_readBasic 39 = .ok (.iadd, 1) := by decide +kernel
theorem d_Packer_readBasic_40 : decode b_Packer_readBasic 40 = .ok (.putfield 15, 3) := by decide +kernel
theorem d_Packer_readBasic_43 : decode b_Packer_readBasic 43 = .ok (.iinc 5 1, 3) := by decide +kernel
theorem d_Packer_readBasic_46 : decode b_Packer_readBasic 46 = .ok (.goto (-35), 3) := by decide +kernel
theorem d_Packer_readBasic_49 : decode b_Packer_readBasic 49 = .ok (.iload_n 2, 1) := by decide +kernel
theorem d_Packer_readBasic_50 : decode b_Packer_readBasic 50 = .ok (.istore 5, 2) := by decide +kernel
theorem d_Packer_readBasic_52 : decode b_Packer_readBasic 52 = .ok (.iload 5, 2) := by decide +kernel
theorem d_Packer_readBasic_54 : decode b_Packer_readBasic 54 = .ok (.iload 4, 2) := by decide +kernel
theorem d_Packer_readBasic_56 : decode b_Packer_readBasic 56 = .ok (.if_icmp .ge 43, 3) := by decide +kernel
theorem d_Packer_readBasic_59 : decode b_Packer_readBasic 59 = .ok (.aload_n 1, 1) := by decide +kernel
theorem d_Packer_readBasic_60 : decode b_Packer_readBasic 60 = .ok (.iload 5, 2) := by decide +kernel
theorem d_Packer_readBasic_62 : decode b_Packer_readBasic 62 = .ok (.invokevirtual 32, 3) := by decide +kernel
theorem d_Packer_readBasic_65 : decode b_Packer_readBasic 65 = .ok (.sipush 128, 3) := by decide +kernel
theorem d_Packer_readBasic_68 : decode b_Packer_readBasic 68 = .ok (.if_icmp .ge 12, 3) := by decide +kernel
theorem d_Packer_readBasic_71 : decode b_Packer_readBasic 71 = .ok (.aload_n 3, 1) := by decide +kernel
theorem d_Packer_readBasic_72 : decode b_Packer_readBasic 72 = .ok (.invokevirtual 22, 3) := by decide +kernel
theorem d_Packer_readBasic_75 : decode b_Packer_readBasic 75 = .ok (.bipush 48, 2) := by decide +kernel
theorem d_Packer_readBasic_77 : decode b_Packer_readBasic 77 = .ok (.if_icmp .lt 5, 3) := by decide +kernel
theorem d_Packer_readBasic_80 : decode b_Packer_readBasic 80 = .ok (.iconst 0, 1) := by decide +kernel
theorem d_Packer_readBasic_81 : decode b_Packer_readBasic 81 = .ok (.ireturn, 1) := by decide +kernel
theorem d_Packer_readBasic_82 : decode b_Packer_readBasic 82 = .ok (.aload_n 3, 1) := by decide +kernel
theorem d_Packer_readBasic_83 : decode b_Packer_readBasic 83 = .ok (.aload_n 1, 1) := by decide +kernel
theorem d_Packer_readBasic_84 : decode b_Packer_readBasic 84 = .ok (.iload 5, 2) := by decide +kernel
theorem d_Packer_readBasic_86 : decode b_Packer_readBasic 86 = .ok (.invokevirtual 32, 3) := by decide +kernel
theorem d_Packer_readBasic_89 : decode b_Packer_readBasic 89 = .ok (.invokevirtual 44, 3) := by decide +kernel
theorem d_Packer_readBasic_92 : decode b_Packer_readBasic 92 = .ok (.pop, 1) := by decide +kernel
theorem d_Packer_readBasic_93 : decode b_Packer_readBasic 93 = .ok (.iinc 5 1, 3) := by decide +kernel
theorem d_Packer_readBasic_96 : decode b_Packer_readBasic 96 = .ok (.goto (-44), 3) := by decide +kernel
theorem d_Packer_readBasic_99 : decode b_Packer_readBasic 99 = .ok (.iconst 1, 1) := by decide +kernel
theorem d_Packer_readBasic_100 : decode b_Packer_readBasic 100 = .ok (.ireturn, 1) := by decide +kernel
theorem d_Packer_readNumber_0 : decode b_Packer_readNumber 0 = .ok (.lload_n 2, 1) := by decide +kernel
theorem d_Packer_readNumber_1 : decode b_Packer_readNumber 1 = .ok (.lstore 4, 2) := by decide +kernel
theorem d_Packer_readNumber_3 : decode b_Packer_readNumber 3 = .ok (.lconst 1, 1) := by decide +kernel
theorem d_Packer_readNumber_4 : decode b_Packer_readNumber 4 = .ok (.lstore 6, 2) := by decide +kernel
theorem d_Packer_readNumber_6 : decode b_Packer_readNumber 6 = .ok (.iconst 0, 1) := by decide +kernel
theorem d_Packer_readNumber_7 : decode b_Packer_readNumber 7 = .ok (.istore 8, 2) := by decide +kernel
theorem d_Packer_readNumber_9 : decode b_Packer_readNumber 9 = .ok (.iload 8, 2) := by decide +kernel
theorem d_Packer_readNumber_11 : decode b_Packer_readNumber 11 = .ok (.bipush 100, 2) := by decide +kernel
theorem d_Packer_readNumber_13 : decode b_Packer_readNumber 13 = .ok (.if_icmp .ge 119, 3) := by decide +kernel
theorem d_Packer_readNumber_16 : decode b_Packer_readNumber 16 = .ok (.aload_n 0, 1) := by decide +kernel
theorem d_Packer_readNumber_17 : decode b_Packer_readNumber 17 = .ok (.getfield 15, 3) := by decide +kernel
theorem d_Packer_readNumber_20 : decode b_Packer_readNumber 20 = .ok (.aload_n 1, 1) := by decide +kernel
theorem d_Packer_readNumber_21 : decode b_Packer_readNumber 21 = .ok (.invokevirtual 22, 3) := by decide +kernel
theorem d_Packer_readNumber_24 : decode b_Packer_readNumber 24 = .ok (.if_icmp .ge 108, 3) := by decide +kernel
theorem d_Packer_readNumber_27 : decode b_Packer_readNumber 27 = .ok (.aload_n 1, 1) := by decide +kernel
theorem d_Packer_readNumber_28 : decode b_Packer_readNumber 28 = .ok (.aload_n 0, 1) := by decide +kernel
theorem d_Packer_readNumber_29 : decode b_Packer_readNumber 29 = .ok (.getfield 15, 3) := by decide +kernel
theorem d_Packer_readNumber_32 : decode b_Packer_readNumber 32 = .ok (.invokevirtual 32, 3) := by decide +kernel
theorem d_Packer_readNumber_35 : decode b_Packer_readNumber 35 = .ok (.invokestatic 94, 3) := by decide +kernel
theorem d_Packer_readNumber_38 : decode b_Packer_readNumber 38 = .ok (.istore 9, 2) := by decide +kernel
theorem d_Packer_readNumber_40 : decode b_Packer_readNumber 40 = .ok (.aload_n 0, 1) := by decide +kernel
theorem d_Packer_readNumber_41 : decode b_Packer_readNumber 41 = .ok (.dup, 1) := by decide +kernel
theorem d_Packer_readNumber_42 : decode b_Packer_readNumber 42 = .ok (.getfield 15, 3) := by decide +kernel
theorem d_Packer_readNumber_45 : decode b_Packer_readNumber 45 = .ok (.iconst 1, 1) := by decide +kernel
theorem d_Packer_readNumber_46 : decode b_Packer_readNumber 46 = .ok (.iadd, 1) := by decide +kernel
theorem d_Packer_readNumber_47 : decode b_Packer_readNumber 47 = .ok (.putfield 15, 3) := by decide +kernel
theorem d_Packer_readNumber_50 : decode b_Packer_readNumber 50 = .ok (.iload 9, 2) := by decide +kernel
theorem d_Packer_readNumber_52 : decode b_Packer_readNumber 52 = .ok (.iconst (-1), 1) := by decide +kernel
theorem d_Packer_readNumber_53 : decode b_Packer_readNumber 53 = .ok (.if_icmp .ne 7, 3) := by decide +kernel
theorem d_Packer_readNumber_56 : decode b_Packer_readNumber 56 = .ok (.ldc2_w 86, 3) := by decide +kernel
theorem d_Packer_readNumber_59 : decode b_Packer_readNumber 59 = .ok (.lreturn, 1) := by decide +kernel
theorem d_Packer_readNumber_60 : decode b_Packer_readNumber 60 = .ok (.lload 4, 2) := by decide +kernel
theorem d_Packer_readNumber_62 : decode b_Packer_readNumber 62 = .ok (.iload 9, 2) := by decide +kernel
theorem d_Packer_readNumber_64 : decode b_Packer_readNumber 64 = .ok (.i2l, 1) := by decide +kernel
theorem d_Packer_readNumber_65 : decode b_Packer_readNumber 65 = .ok (.lload 6, 2) := by decide +kernel
theorem d_Packer_readNumber_67 : decode b_Packer_readNumber 67 = .ok (.lmul, 1) := by decide +kernel
theorem d_Packer_readNumber_68 : decode b_Packer_readNumber 68 = .ok (.ladd, 1) := by decide +kernel
theorem d_Packer_readNumber_69 : decode b_Packer_readNumber 69 = .ok (.lstore 4, 2) := by decide +kernel
theorem d_Packer_readNumber_71 : decode b_Packer_readNumber 71 = .ok (.aload_n 0, 1) := by decide +kernel
theorem d_Packer_readNumber_72 : decode b_Packer_readNumber 72 = .ok (.iload 8, 2) := by decide +kernel
theorem d_Packer_readNumber_74 : decode b_Packer_readNumber 74 = .ok (.invokevirtual 58, 3) := by decide +kernel
theorem d_Packer_readNumber_77 : decode b_Packer_readNumber 77 = .ok (.istore 10, 2) := by decide +kernel
theorem d_Packer_readNumber_79 : decode b_Packer_readNumber 79 = .ok (.lload 4, 2) := by decide +kernel
theorem d_Packer_readNumber_81 : decode b_Packer_readNumber 81 = .ok (.ldc2_w 97, 3) := by decide +kernel
theorem d_Packer_readNumber_84 : decode b_Packer_readNumber 84 = .ok (.lcmp, 1) := by decide +kernel
theorem d_Packer_readNumber_85 : decode b_Packer_readNumber 85 = .ok (.ifCond .le 7, 3) := by decide +kernel
theorem d_Packer_readNumber_88 : decode b_Packer_readNumber 88 = .ok (.ldc2_w 86, 3) := by decide +kernel
theorem d_Packer_readNumber_91 : decode b_Packer_readNumber 91 = .ok (.lreturn, 1) := by decide +kernel
theorem d_Packer_readNumber_92 : decode b_Packer_readNumber 92 = .ok (.iload 9, 2) := by decide +kernel
theorem d_Packer_readNumber_94 : decode b_Packer_readNumber 94 = .ok (.iload 10, 2) := by decide +kernel
theorem d_Packer_readNumber_96 : decode b_Packer_readNumber 96 = .ok (.if_icmp .ge 6, 3) := by decide +kernel
theorem d_Packer_readNumber_99 : decode b_Packer_readNumber 99 = .ok (.lload 4, 2) := by decide +kernel
theorem d_Packer_readNumber_101 : decode b_Packer_readNumber 101 = .ok (.lreturn, 1) := by decide +kernel
theorem d_Packer_readNumber_102 : decode b_Packer_readNumber 102 = .ok (.lload 6, 2) := by decide +kernel
theorem d_Packer_readNumber_104 : decode b_Packer_readNumber 104 = .ok (.bipush 36, 2) := by decide +kernel
theorem d_Packer_readNumber_106 : decode b_Packer_readNumber 106 = .ok (.iload 10, 2) := by decide +kernel
theorem d_Packer_readNumber_108 : decode b_Packer_readNumber 108 = .ok (.isub, 1) := by decide +kernel
theorem d_Packer_readNumber_109 : decode b_Packer_readNumber 109 = .ok (.i2l, 1) := by decide +kernel
theorem d_Packer_readNumber_110 : decode b_Packer_readNumber 110 = .ok (.lmul, 1) := by decide +kernel
theorem d_Packer_readNumber_111 : decode b_Packer_readNumber 111 = .ok (.lstore 6, 2) := by decide +kernel
theorem d_Packer_readNumber_113 : decode b_Packer_readNumber 113 = .ok (.lload 6, 2) := by decide +kernel
theorem d_Packer_readNumber_115 : decode b_Packer_readNumber 115 = .ok (.ldc2_w 97, 3) := by decide +kernel
theorem d_Packer_readNumber_118 : decode b_Packer_readNumber 118 = .ok (.lcmp, 1) := by decide +kernel
theorem d_Packer_readNumber_119 : decode b_Packer_readNumber 119 = .ok (.ifCond .le 7, 3) := by decide +kernel
theorem d_Packer_readNumber_122 : decode b_Packer_readNumber 122 = .ok (.ldc2_w 86, 3) := by decide +kernel
theorem d_Packer_readNumber_125 : decode b_Packer_readNumber 125 = .ok (.lreturn, 1) := by decide +kernel
theorem d_Packer_readNumber_126 : decode b_Packer_readNumber 126 = .ok (.iinc 8 1, 3) := by decide +kernel
theorem d_Packer_readNumber_129 : decode b_Packer_readNumber 129 = .ok (.goto (-120), 3) := by decide +kernel
theorem d_Packer_readNumber_132 : decode b_Packer_readNumber 132 = .ok (.ldc2_w 86, 3) := by decide +kernel
theorem d_Packer_readNumber_135 : decode b_Packer_readNumber 135 = .ok (.lreturn, 1) := by decide +kernel
