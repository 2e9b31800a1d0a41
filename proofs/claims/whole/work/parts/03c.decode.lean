theorem d_Checker_init_0 : decode b_Checker_init 0 = .ok (.aload_n 0, 1) := by decide +kernel
theorem d_Checker_init_1 : decode b_Checker_init 1 = .ok (.invokespecial 3, 3) := by decide +kernel
theorem d_Checker_init_4 : decode b_Checker_init 4 = .ok (.aload_n 0, 1) := by decide +kernel
theorem d_Checker_init_5 : decode b_Checker_init 5 = .ok (.new 9, 3) := by decide +kernel
theorem d_Checker_init_8 : decode b_Checker_init 8 = .ok (.dup, 1) := by decide +kernel
theorem d_Checker_init_9 : decode b_Checker_init 9 = .ok (.invokespecial 11, 3) := by decide +kernel
theorem d_Checker_init_12 : decode b_Checker_init 12 = .ok (.putfield 12, 3) := by decide +kernel
theorem d_Checker_init_15 : decode b_Checker_init 15 = .ok (.aload_n 0, 1) := by decide +kernel
theorem d_Checker_init_16 : decode b_Checker_init 16 = .ok (.new 18, 3) := by decide +kernel
theorem d_Checker_init_19 : decode b_Checker_init 19 = .ok (.dup, 1) := by decide +kernel
theorem d_Checker_init_20 : decode b_Checker_init 20 = .ok (.bipush 96, 2) := by decide +kernel
theorem d_Checker_init_22 : decode b_Checker_init 22 = .ok (.invokespecial 20, 3) := by decide +kernel
theorem d_Checker_init_25 : decode b_Checker_init 25 = .ok (.putfield 23, 3) := by decide +kernel
theorem d_Checker_init_28 : decode b_Checker_init 28 = .ok (.return_, 1) := by decide +kernel
theorem d_Checker_isTagged_0 : decode b_Checker_isTagged 0 = .ok (.iconst 0, 1) := by decide +kernel
theorem d_Checker_isTagged_1 : decode b_Checker_isTagged 1 = .ok (.istore_n 1, 1) := by decide +kernel
theorem d_Checker_isTagged_2 : decode b_Checker_isTagged 2 = .ok (.iload_n 1, 1) := by decide +kernel
theorem d_Checker_isTagged_3 : decode b_Checker_isTagged 3 = .ok (.getstatic 27, 3) := by decide +kernel
theorem d_Checker_isTagged_6 : decode b_Checker_isTagged 6 = .ok (.arraylength, 1) := by decide +kernel
theorem d_Checker_isTagged_7 : decode b_Checker_isTagged 7 = .ok (.if_icmp .ge 24, 3) := by decide +kernel
theorem d_Checker_isTagged_10 : decode b_Checker_isTagged 10 = .ok (.aload_n 0, 1) := by decide +kernel
theorem d_Checker_isTagged_11 : decode b_Checker_isTagged 11 = .ok (.iload_n 1, 1) := by decide +kernel
theorem d_Checker_isTagged_12 : decode b_Checker_isTagged 12 = .ok (.invokevirtual 31, 3) := by decide +kernel
theorem d_Checker_isTagged_15 : decode b_Checker_isTagged 15 = .ok (.getstatic 27, 3) := by decide +kernel
theorem d_Checker_isTagged_18 : decode b_Checker_isTagged 18 = .ok (.iload_n 1, 1) := by decide +kernel
theorem d_Checker_isTagged_19 : decode b_Checker_isTagged 19 = .ok (.iaload, 1) := by decide +kernel
theorem d_Checker_isTagged_20 : decode b_Checker_isTagged 20 = .ok (.if_icmp .eq 5, 3) := by decide +kernel
theorem d_Checker_isTagged_23 : decode b_Checker_isTagged 23 = .ok (.iconst 0, 1) := by decide +kernel
theorem d_Checker_isTagged_24 : decode b_Checker_isTagged 24 = .ok (.ireturn, 1) := by decide +kernel
theorem d_Checker_isTagged_25 : decode b_Checker_isTagged 25 = .ok (.iinc 1 1, 3) := by decide +kernel
theorem d_Checker_isTagged_28 : decode b_Checker_isTagged 28 = .ok (.goto (-26), 3) := by decide +kernel
theorem d_Checker_isTagged_31 : decode b_Checker_isTagged 31 = .ok (.iconst 1, 1) := by decide +kernel
theorem d_Checker_isTagged_32 : decode b_Checker_isTagged 32 = .ok (.ireturn, 1) := by decide +kernel
theorem d_Checker_addTag_0 : decode b_Checker_addTag 0 = .ok (.iconst 0, 1) := by decide +kernel
theorem d_Checker_addTag_1 : decode b_Checker_addTag 1 = .ok (.istore_n 1, 1) := by decide +kernel
theorem d_Checker_addTag_2 : decode b_Checker_addTag 2 = .ok (.iload_n 1, 1) := by decide +kernel
theorem d_Checker_addTag_3 : decode b_Checker_addTag 3 = .ok (.getstatic 27, 3) := by decide +kernel
theorem d_Checker_addTag_6 : decode b_Checker_addTag 6 = .ok (.arraylength, 1) := by decide +kernel
theorem d_Checker_addTag_7 : decode b_Checker_addTag 7 = .ok (.if_icmp .ge 19, 3) := by decide +kernel
theorem d_Checker_addTag_10 : decode b_Checker_addTag 10 = .ok (.aload_n 0, 1) := by decide +kernel
theorem d_Checker_addTag_11 : decode b_Checker_addTag 11 = .ok (.getstatic 27, 3) := by decide +kernel
theorem d_Checker_addTag_14 : decode b_Checker_addTag 14 = .ok (.iload_n 1, 1) := by decide +kernel
theorem d_Checker_addTag_15 : decode b_Checker_addTag 15 = .ok (.iaload, 1) := by decide +kernel
theorem d_Checker_addTag_16 : decode b_Checker_addTag 16 = .ok (.invokevirtual 35, 3) := by decide +kernel
theorem d_Checker_addTag_19 : decode b_Checker_addTag 19 = .ok (.pop, 1) := by decide +kernel
theorem d_Checker_addTag_20 : decode b_Checker_addTag 20 = .ok (.iinc 1 1, 3) := by decide +kernel
theorem d_Checker_addTag_23 : decode b_Checker_addTag 23 = .ok (.goto (-21), 3) := by decide +kernel
theorem d_Checker_addTag_26 : decode b_Checker_addTag 26 = .ok (.return_, 1) := by decide +kernel
theorem d_Checker_brokenRules_0 : decode b_Checker_brokenRules 0 = .ok (.aload_n 0, 1) := by decide +kernel
theorem d_Checker_brokenRules_1 : decode b_Checker_brokenRules 1 = .ok (.getfield 12, 3) := by decide +kernel
theorem d_Checker_brokenRules_4 : decode b_Checker_brokenRules 4 = .ok (.aload_n 1, 1) := by decide +kernel
theorem d_Checker_brokenRules_5 : decode b_Checker_brokenRules 5 = .ok (.aload_n 0, 1) := by decide +kernel
theorem d_Checker_brokenRules_6 : decode b_Checker_brokenRules 6 = .ok (.getfield 23, 3) := by decide +kernel
theorem d_Checker_brokenRules_9 : decode b_Checker_brokenRules 9 = .ok (.invokevirtual 39, 3) := by decide +kernel
theorem d_Checker_brokenRules_12 : decode b_Checker_brokenRules 12 = .ok (.aload_n 0, 1) := by decide +kernel
theorem d_Checker_brokenRules_13 : decode b_Checker_brokenRules 13 = .ok (.getfield 23, 3) := by decide +kernel
theorem d_Checker_brokenRules_16 : decode b_Checker_brokenRules 16 = .ok (.aload_n 1, 1) := by decide +kernel
theorem d_Checker_brokenRules_17 : decode b_Checker_brokenRules 17 = .ok (.invokevirtual 42, 3) := by decide +kernel
theorem d_Checker_brokenRules_20 : decode b_Checker_brokenRules 20 = .ok (.ifCond .eq 7, 3) := by decide +kernel
theorem d_Checker_brokenRules_23 : decode b_Checker_brokenRules 23 = .ok (.iconst 0, 1) := by decide +kernel
theorem d_Checker_brokenRules_24 : decode b_Checker_brokenRules 24 = .ok (.goto 7, 3) := by decide +kernel
theorem d_Checker_brokenRules_27 : decode b_Checker_brokenRules 27 = .ok (.iconst 3, 1) := by decide +kernel
theorem d_Checker_brokenRules_28 : decode b_Checker_brokenRules 28 = .ok (.invokestatic 46, 3) := by decide +kernel
theorem d_Checker_brokenRules_31 : decode b_Checker_brokenRules 31 = .ok (.istore 4, 2) := by decide +kernel
theorem d_Checker_brokenRules_33 : decode b_Checker_brokenRules 33 = .ok (.iload_n 2, 1) := by decide +kernel
theorem d_Checker_brokenRules_34 : decode b_Checker_brokenRules 34 = .ok (.iconst 4, 1) := by decide +kernel
theorem d_Checker_brokenRules_35 : decode b_Checker_brokenRules 35 = .ok (.iand, 1) := by decide +kernel
theorem d_Checker_brokenRules_36 : decode b_Checker_brokenRules 36 = .ok (.ifCond .eq 12, 3) := by decide +kernel
theorem d_Checker_brokenRules_39 : decode b_Checker_brokenRules 39 = .ok (.iload 4, 2) := by decide +kernel
theorem d_Checker_brokenRules_41 : decode b_Checker_brokenRules 41 = .ok (.aload_n 1, 1) := by decide +kernel
theorem d_Checker_brokenRules_42 : decode b_Checker_brokenRules 42 = .ok (.invokestatic 49, 3) := by decide +kernel
theorem d_Checker_brokenRules_45 : decode b_Checker_brokenRules 45 = .ok (.ior, 1) := by decide +kernel
theorem d_Checker_brokenRules_46 : decode b_Checker_brokenRules 46 = .ok (.istore 4, 2) := by decide +kernel
theorem d_Checker_brokenRules_48 : decode b_Checker_brokenRules 48 = .ok (.aload_n 1, 1) := by decide +kernel
theorem d_Checker_brokenRules_49 : decode b_Checker_brokenRules 49 = .ok (.invokestatic 53, 3) := by decide +kernel
theorem d_Checker_brokenRules_52 : decode b_Checker_brokenRules 52 = .ok (.ifCond .eq 13, 3) := by decide +kernel
theorem d_Checker_brokenRules_55 : decode b_Checker_brokenRules 55 = .ok (.iload 4, 2) := by decide +kernel
theorem d_Checker_brokenRules_57 : decode b_Checker_brokenRules 57 = .ok (.bipush 6, 2) := by decide +kernel
theorem d_Checker_brokenRules_59 : decode b_Checker_brokenRules 59 = .ok (.invokestatic 46, 3) := by decide +kernel
theorem d_Checker_brokenRules_62 : decode b_Checker_brokenRules 62 = .ok (.ior, 1) := by decide +kernel
theorem d_Checker_brokenRules_63 : decode b_Checker_brokenRules 63 = .ok (.istore 4, 2) := by decide +kernel
theorem d_Checker_brokenRules_65 : decode b_Checker_brokenRules 65 = .ok (.aload_n 1, 1) := by decide +kernel
theorem d_Checker_brokenRules_66 : decode b_Checker_brokenRules 66 = .ok (.iconst 0, 1) := by decide +kernel
theorem d_Checker_brokenRules_67 : decode b_Checker_brokenRules 67 = .ok (.invokevirtual 31, 3) := by decide +kernel
theorem d_Checker_brokenRules_70 : decode b_Checker_brokenRules 70 = .ok (.invokestatic 56, 3) := by decide +kernel
theorem d_Checker_brokenRules_73 : decode b_Checker_brokenRules 73 = .ok (.ifCond .eq 13, 3) := by decide +kernel
theorem d_Checker_brokenRules_76 : decode b_Checker_brokenRules 76 = .ok (.iload 4, 2) := by decide +kernel
theorem d_Checker_brokenRules_78 : decode b_Checker_brokenRules 78 = .ok (.bipush 7, 2) := by decide +kernel
theorem d_Checker_brokenRules_80 : decode b_Checker_brokenRules 80 = .ok (.invokestatic 46, 3) := by decide +kernel
theorem d_Checker_brokenRules_83 : decode b_Checker_brokenRules 83 = .ok (.ior, 1) := by decide +kernel
theorem d_Checker_brokenRules_84 : decode b_Checker_brokenRules 84 = .ok (.istore 4, 2) := by decide +kernel
theorem d_Checker_brokenRules_86 : decode b_Checker_brokenRules 86 = .ok (.aload_n 1, 1) := by decide +kernel
theorem d_Checker_brokenRules_87 : decode b_Checker_brokenRules 87 = .ok (.iload_n 2, 1) := by decide +kernel
theorem d_Checker_brokenRules_88 : decode b_Checker_brokenRules 88 = .ok (.iconst 1, 1) := by decide +kernel
theorem d_Checker_brokenRules_89 : decode b_Checker_brokenRules 89 = .ok (.iand, 1) := by decide +kernel
theorem d_Checker_brokenRules_90 : decode b_Checker_brokenRules 90 = .ok (.ifCond .eq 7, 3) := by decide +kernel
theorem d_Checker_brokenRules_93 : decode b_Checker_brokenRules 93 = .ok (.iconst 1, 1) := by decide +kernel
theorem d_Checker_brokenRules_94 : decode b_Checker_brokenRules 94 = .ok (.goto 4, 3) := by decide +kernel
theorem d_Checker_brokenRules_97 : decode b_Checker_brokenRules 97 = .ok (.iconst 0, 1) := by decide +kernel
theorem d_Checker_brokenRules_98 : decode b_Checker_brokenRules 98 = .ok (.iload_n 2, 1) := by decide +kernel
theorem d_Checker_brokenRules_99 : decode b_Checker_brokenRules 99 = .ok (.iconst 2, 1) := by decide +kernel
theorem d_Checker_brokenRules_100 : decode b_Checker_brokenRules 100 = .ok (.iand, 1) := by decide +kernel
theorem d_Checker_brokenRules_101 : decode b_Checker_brokenRules 101 = .ok (.ifCond .eq 7, 3) := by decide +kernel
theorem d_Checker_brokenRules_104 : decode b_Checker_brokenRules 104 = .ok (.iconst 1, 1) := by decide +kernel
theorem d_Checker_brokenRules_105 : decode b_Checker_brokenRules 105 = .ok (.goto 4, 3) := by decide +kernel
theorem d_Checker_brokenRules_108 : decode b_Checker_brokenRules 108 = .ok (.iconst 0, 1) := by decide +kernel
theorem d_Checker_brokenRules_109 : decode b_Checker_brokenRules 109 = .ok (.invokestatic 61, 3) := by decide +kernel
theorem d_Checker_brokenRules_112 : decode b_Checker_brokenRules 112 = .ok (.ifCond .ne 13, 3) := by decide +kernel
theorem d_Checker_brokenRules_115 : decode b_Checker_brokenRules 115 = .ok (.iload 4, 2) := by decide +kernel
theorem d_Checker_brokenRules_117 : decode b_Checker_brokenRules 117 = .ok (.bipush 8, 2) := by decide +kernel
theorem d_Checker_brokenRules_119 : decode b_Checker_brokenRules 119 = .ok (.invokestatic 46, 3) := by decide +kernel
theorem d_Checker_brokenRules_122 : decode b_Checker_brokenRules 122 = .ok (.ior, 1) := by decide +kernel
theorem d_Checker_brokenRules_123 : decode b_Checker_brokenRules 123 = .ok (.istore 4, 2) := by decide +kernel
theorem d_Checker_brokenRules_125 : decode b_Checker_brokenRules 125 = .ok (.iload_n 2, 1) := by decide +kernel
theorem d_Checker_brokenRules_126 : decode b_Checker_brokenRules 126 = .ok (.bipush 8, 2) := by decide +kernel
theorem d_Checker_brokenRules_128 : decode b_Checker_brokenRules 128 = .ok (.iand, 1) := by decide +kernel
theorem d_Checker_brokenRules_129 : decode b_Checker_brokenRules 129 = .ok (.ifCond .eq 20, 3) := by decide +kernel
theorem d_Checker_brokenRules_132 : decode b_Checker_brokenRules 132 = .ok (.aload_n 1, 1) := by decide +kernel
theorem d_Checker_brokenRules_133 : decode b_Checker_brokenRules 133 = .ok (.invokestatic 65, 3) := by decide +kernel
theorem d_Checker_brokenRules_136 : decode b_Checker_brokenRules 136 = .ok (.ifCond .ne 13, 3) := by decide +kernel
theorem d_Checker_brokenRules_139 : decode b_Checker_brokenRules 139 = .ok (.iload 4, 2) := by decide +kernel
theorem d_Checker_brokenRules_141 : decode b_Checker_brokenRules 141 = .ok (.bipush 9, 2) := by decide +kernel
theorem d_Checker_brokenRules_143 : decode b_Checker_brokenRules 143 = .ok (.invokestatic 46, 3) := by decide +kernel
theorem d_Checker_brokenRules_146 : decode b_Checker_brokenRules 146 = .ok (.ior, 1) := by decide +kernel
theorem d_Checker_brokenRules_147 : decode b_Checker_brokenRules 147 = .ok (.istore 4, 2) := by decide +kernel
theorem d_Checker_brokenRules_149 : decode b_Checker_brokenRules 149 = .ok (.iload_n 3, 1) := by decide +kernel
theorem d_Checker_brokenRules_150 : decode b_Checker_brokenRules 150 = .ok (.ifCond .eq 20, 3) := by decide +kernel
theorem d_Checker_brokenRules_153 : decode b_Checker_brokenRules 153 = .ok (.aload_n 1, 1) := by decide +kernel
theorem d_Checker_brokenRules_154 : decode b_Checker_brokenRules 154 = .ok (.invokestatic 68, 3) := by decide +kernel
theorem d_Checker_brokenRules_157 : decode b_Checker_brokenRules 157 = .ok (.ifCond .ne 13, 3) := by decide +kernel
theorem d_Checker_brokenRules_160 : decode b_Checker_brokenRules 160 = .ok (.iload 4, 2) := by decide +kernel
theorem d_Checker_brokenRules_162 : decode b_Checker_brokenRules 162 = .ok (.bipush 10, 2) := by decide +kernel
theorem d_Checker_brokenRules_164 : decode b_Checker_brokenRules 164 = .ok (.invokestatic 46, 3) := by decide +kernel
theorem d_Checker_brokenRules_167 : decode b_Checker_brokenRules 167 = .ok (.ior, 1) := by decide +kernel
theorem d_Checker_brokenRules_168 : decode b_Checker_brokenRules 168 = .ok (.istore 4, 2) := by decide +kernel
theorem d_Checker_brokenRules_170 : decode b_Checker_brokenRules 170 = .ok (.iload 4, 2) := by decide +kernel
theorem d_Checker_brokenRules_172 : decode b_Checker_brokenRules 172 = .ok (.ireturn, 1) := by decide +kernel
theorem d_Checker_brokenHyphenRules_0 : decode b_Checker_brokenHyphenRules 0 = .ok (.iconst 0, 1) := by decide +kernel
theorem d_Checker_brokenHyphenRules_1 : decode b_Checker_brokenHyphenRules 1 = .ok (.istore_n 1, 1) := by decide +kernel
theorem d_Checker_brokenHyphenRules_2 : decode b_Checker_brokenHyphenRules 2 = .ok (.aload_n 0, 1) := by decide +kernel
theorem d_Checker_brokenHyphenRules_3 : decode b_Checker_brokenHyphenRules 3 = .ok (.iconst 2, 1) := by decide +kernel
theorem d_Checker_brokenHyphenRules_4 : decode b_Checker_brokenHyphenRules 4 = .ok (.invokevirtual 31, 3) := by decide +kernel
theorem d_Checker_brokenHyphenRules_7 : decode b_Checker_brokenHyphenRules 7 = .ok (.bipush 45, 2) := by decide +kernel
theorem d_Checker_brokenHyphenRules_9 : decode b_Checker_brokenHyphenRules 9 = .ok (.if_icmp .ne 20, 3) := by decide +kernel
theorem d_Checker_brokenHyphenRules_12 : decode b_Checker_brokenHyphenRules 12 = .ok (.aload_n 0, 1) := by decide +kernel
theorem d_Checker_brokenHyphenRules_13 : decode b_Checker_brokenHyphenRules 13 = .ok (.iconst 3, 1) := by decide +kernel
theorem d_Checker_brokenHyphenRules_14 : decode b_Checker_brokenHyphenRules 14 = .ok (.invokevirtual 31, 3) := by decide +kernel
theorem d_Checker_brokenHyphenRules_17 : decode b_Checker_brokenHyphenRules 17 = .ok (.bipush 45, 2) := by decide +kernel
theorem d_Checker_brokenHyphenRules_19 : decode b_Checker_brokenHyphenRules 19 = .ok (.if_icmp .ne 10, 3) := by decide +kernel
theorem d_Checker_brokenHyphenRules_22 : decode b_Checker_brokenHyphenRules 22 = .ok (.iload_n 1, 1) := by decide +kernel
theorem d_Checker_brokenHyphenRules_23 : decode b_Checker_brokenHyphenRules 23 = .ok (.iconst 4, 1) := by decide +kernel
theorem d_Checker_brokenHyphenRules_24 : decode b_Checker_brokenHyphenRules 24 = .ok (.invokestatic 46, 3) := by decide +kernel
theorem d_Checker_brokenHyphenRules_27 : decode b_Checker_brokenHyphenRules 27 = .ok (.ior, 1) := by decide +kernel
theorem d_Checker_brokenHyphenRules_28 : decode b_Checker_brokenHyphenRules 28 = .ok (.istore_n 1, 1) := by decide +kernel
theorem d_Checker_brokenHyphenRules_29 : decode b_Checker_brokenHyphenRules 29 = .ok (.aload_n 0, 1) := by decide +kernel
theorem d_Checker_brokenHyphenRules_30 : decode b_Checker_brokenHyphenRules 30 = .ok (.iconst 0, 1) := by decide +kernel
theorem d_Checker_brokenHyphenRules_31 : decode b_Checker_brokenHyphenRules 31 = .ok (.invokevirtual 31, 3) := by decide +kernel
theorem d_Checker_brokenHyphenRules_34 : decode b_Checker_brokenHyphenRules 34 = .ok (.bipush 45, 2) := by decide +kernel
theorem d_Checker_brokenHyphenRules_36 : decode b_Checker_brokenHyphenRules 36 = .ok (.if_icmp .eq 18, 3) := by decide +kernel
theorem d_Checker_brokenHyphenRules_39 : decode b_Checker_brokenHyphenRules 39 = .ok (.aload_n 0, 1) := by decide +kernel
theorem d_Checker_brokenHyphenRules_40 : decode b_Checker_brokenHyphenRules 40 = .ok (.aload_n 0, 1) := by decide +kernel
theorem d_Checker_brokenHyphenRules_41 : decode b_Checker_brokenHyphenRules 41 = .ok (.invokevirtual 71, 3) := by decide +kernel
theorem d_Checker_brokenHyphenRules_44 : decode b_Checker_brokenHyphenRules 44 = .ok (.iconst 1, 1) := by decide +kernel
theorem d_Checker_brokenHyphenRules_45 : decode b_Checker_brokenHyphenRules 45 = .ok (.isub, 1) := by decide +kernel
theorem d_Checker_brokenHyphenRules_46 : decode b_Checker_brokenHyphenRules 46 = .ok (.invokevirtual 31, 3) := by decide +kernel
theorem d_Checker_brokenHyphenRules_49 : decode b_Checker_brokenHyphenRules 49 = .ok (.bipush 45, 2) := by decide +kernel
theorem d_Checker_brokenHyphenRules_51 : decode b_Checker_brokenHyphenRules 51 = .ok (.if_icmp .ne 10, 3) := by decide +kernel
theorem d_Checker_brokenHyphenRules_54 : decode b_Checker_brokenHyphenRules 54 = .ok (.iload_n 1, 1) := by decide +kernel
theorem d_Checker_brokenHyphenRules_55 : decode b_Checker_brokenHyphenRules 55 = .ok (.iconst 5, 1) := by decide +kernel
theorem d_Checker_brokenHyphenRules_56 : decode b_Checker_brokenHyphenRules 56 = .ok (.invokestatic 46, 3) := by decide +kernel
theorem d_Checker_brokenHyphenRules_59 : decode b_Checker_brokenHyphenRules 59 = .ok (.ior, 1) := by decide +kernel
theorem d_Checker_brokenHyphenRules_60 : decode b_Checker_brokenHyphenRules 60 = .ok (.istore_n 1, 1) := by decide +kernel
theorem d_Checker_brokenHyphenRules_61 : decode b_Checker_brokenHyphenRules 61 = .ok (.iload_n 1, 1) := by decide +kernel
theorem d_Checker_brokenHyphenRules_62 : decode b_Checker_brokenHyphenRules 62 = .ok (.ireturn, 1) := by decide +kernel
theorem d_Checker_isAllGood_0 : decode b_Checker_isAllGood 0 = .ok (.iconst 0, 1) := by decide +kernel
theorem d_Checker_isAllGood_1 : decode b_Checker_isAllGood 1 = .ok (.istore_n 3, 1) := by decide +kernel
theorem d_Checker_isAllGood_2 : decode b_Checker_isAllGood 2 = .ok (.iload_n 3, 1) := by decide +kernel
theorem d_Checker_isAllGood_3 : decode b_Checker_isAllGood 3 = .ok (.aload_n 0, 1) := by decide +kernel
theorem d_Checker_isAllGood_4 : decode b_Checker_isAllGood 4 = .ok (.invokevirtual 71, 3) := by decide +kernel
theorem d_Checker_isAllGood_7 : decode b_Checker_isAllGood 7 = .ok (.if_icmp .ge 24, 3) := by decide +kernel
theorem d_Checker_isAllGood_10 : decode b_Checker_isAllGood 10 = .ok (.aload_n 0, 1) := by decide +kernel
theorem d_Checker_isAllGood_11 : decode b_Checker_isAllGood 11 = .ok (.iload_n 3, 1) := by decide +kernel
theorem d_Checker_isAllGood_12 : decode b_Checker_isAllGood 12 = .ok (.invokevirtual 31, 3) := by decide +kernel
theorem d_Checker_isAllGood_15 : decode b_Checker_isAllGood 15 = .ok (.iload_n 1, 1) := by decide +kernel
theorem d_Checker_isAllGood_16 : decode b_Checker_isAllGood 16 = .ok (.iload_n 2, 1) := by decide +kernel
theorem d_Checker_isAllGood_17 : decode b_Checker_isAllGood 17 = .ok (.invokestatic 75, 3) := by decide +kernel
theorem d_Checker_isAllGood_20 : decode b_Checker_isAllGood 20 = .ok (.ifCond .ne 5, 3) := by decide +kernel
theorem d_Checker_isAllGood_23 : decode b_Checker_isAllGood 23 = .ok (.iconst 0, 1) := by decide +kernel
theorem d_Checker_isAllGood_24 : decode b_Checker_isAllGood 24 = .ok (.ireturn, 1) := by decide +kernel
theorem d_Checker_isAllGood_25 : decode b_Checker_isAllGood 25 = .ok (.iinc 3 1, 3) := by decide +kernel
theorem d_Checker_isAllGood_28 : decode b_Checker_isAllGood 28 = .ok (.goto (-26), 3) := by decide +kernel
theorem d_Checker_isAllGood_31 : decode b_Checker_isAllGood 31 = .ok (.iconst 1, 1) := by decide +kernel
theorem d_Checker_isAllGood_32 : decode b_Checker_isAllGood 32 = .ok (.ireturn, 1) := by decide +kernel
theorem d_Checker_areJoinersRight_0 : decode b_Checker_areJoinersRight 0 = .ok (.iconst 0, 1) := by decide +kernel
theorem d_Checker_areJoinersRight_1 : decode b_Checker_areJoinersRight 1 = .ok (.istore_n 1, 1) := by decide +kernel
theorem d_Checker_areJoinersRight_2 : decode b_Checker_areJoinersRight 2 = .ok (.iload_n 1, 1) := by decide +kernel
theorem d_Checker_areJoinersRight_3 : decode b_Checker_areJoinersRight 3 = .ok (.aload_n 0, 1) := by decide +kernel
theorem d_Checker_areJoinersRight_4 : decode b_Checker_areJoinersRight 4 = .ok (.invokevirtual 71, 3) := by decide +kernel
theorem d_Checker_areJoinersRight_7 : decode b_Checker_areJoinersRight 7 = .ok (.if_icmp .ge 70, 3) := by decide +kernel
theorem d_Checker_areJoinersRight_10 : decode b_Checker_areJoinersRight 10 = .ok (.aload_n 0, 1) := by decide +kernel
theorem d_Checker_areJoinersRight_11 : decode b_Checker_areJoinersRight 11 = .ok (.iload_n 1, 1) := by decide +kernel
theorem d_Checker_areJoinersRight_12 : decode b_Checker_areJoinersRight 12 = .ok (.invokevirtual 31, 3) := by decide +kernel
theorem d_Checker_areJoinersRight_15 : decode b_Checker_areJoinersRight 15 = .ok (.istore_n 2, 1) := by decide +kernel
theorem d_Checker_areJoinersRight_16 : decode b_Checker_areJoinersRight 16 = .ok (.aload_n 0, 1) := by decide +kernel
theorem d_Checker_areJoinersRight_17 : decode b_Checker_areJoinersRight 17 = .ok (.iload_n 1, 1) := by decide +kernel
theorem d_Checker_areJoinersRight_18 : decode b_Checker_areJoinersRight 18 = .ok (.iconst 1, 1) := by decide +kernel
theorem d_Checker_areJoinersRight_19 : decode b_Checker_areJoinersRight 19 = .ok (.isub, 1) := by decide +kernel
theorem d_Checker_areJoinersRight_20 : decode b_Checker_areJoinersRight 20 = .ok (.invokevirtual 31, 3) := by decide +kernel
theorem d_Checker_areJoinersRight_23 : decode b_Checker_areJoinersRight 23 = .ok (.invokestatic 79, 3) := by decide +kernel
theorem d_Checker_areJoinersRight_26 : decode b_Checker_areJoinersRight 26 = .ok (.bipush 9, 2) := by decide +kernel
theorem d_Checker_areJoinersRight_28 : decode b_Checker_areJoinersRight 28 = .ok (.if_icmp .ne 7, 3) := by decide +kernel
theorem d_Checker_areJoinersRight_31 : decode b_Checker_areJoinersRight 31 = .ok (.iconst 1, 1) := by decide +kernel
theorem d_Checker_areJoinersRight_32 : decode b_Checker_areJoinersRight 32 = .ok (.goto 4, 3) := by decide +kernel
theorem d_Checker_areJoinersRight_35 : decode b_Checker_areJoinersRight 35 = .ok (.iconst 0, 1) := by decide +kernel
theorem d_Checker_areJoinersRight_36 : decode b_Checker_areJoinersRight 36 = .ok (.istore_n 3, 1) := by decide +kernel
theorem d_Checker_areJoinersRight_37 : decode b_Checker_areJoinersRight 37 = .ok (.iload_n 2, 1) := by decide +kernel
theorem d_Checker_areJoinersRight_38 : decode b_Checker_areJoinersRight 38 = .ok (.sipush 8205, 3) := by decide +kernel
theorem d_Checker_areJoinersRight_41 : decode b_Checker_areJoinersRight 41 = .ok (.if_icmp .ne 9, 3) := by decide +kernel
theorem d_Checker_areJoinersRight_44 : decode b_Checker_areJoinersRight 44 = .ok (.iload_n 3, 1) := by decide +kernel
theorem d_Checker_areJoinersRight_45 : decode b_Checker_areJoinersRight 45 = .ok (.ifCond .ne 5, 3) := by decide +kernel
theorem d_Checker_areJoinersRight_48 : decode b_Checker_areJoinersRight 48 = .ok (.iconst 0, 1) := by decide +kernel
theorem d_Checker_areJoinersRight_49 : decode b_Checker_areJoinersRight 49 = .ok (.ireturn, 1) := by decide +kernel
theorem d_Checker_areJoinersRight_50 : decode b_Checker_areJoinersRight 50 = .ok (.iload_n 2, 1) := by decide +kernel
theorem d_Checker_areJoinersRight_51 : decode b_Checker_areJoinersRight 51 = .ok (.sipush 8204, 3) := by decide +kernel
theorem d_Checker_areJoinersRight_54 : decode b_Checker_areJoinersRight 54 = .ok (.if_icmp .ne 17, 3) := by decide +kernel
theorem d_Checker_areJoinersRight_57 : decode b_Checker_areJoinersRight 57 = .ok (.iload_n 3, 1) := by decide +kernel
theorem d_Checker_areJoinersRight_58 : decode b_Checker_areJoinersRight 58 = .ok (.ifCond .ne 13, 3) := by decide +kernel
theorem d_Checker_areJoinersRight_61 : decode b_Checker_areJoinersRight 61 = .ok (.aload_n 0, 1) := by decide +kernel
theorem d_Checker_areJoinersRight_62 : decode b_Checker_areJoinersRight 62 = .ok (.iload_n 1, 1) := by decide +kernel
theorem d_Checker_areJoinersRight_63 : decode b_Checker_areJoinersRight 63 = .ok (.invokestatic 82, 3) := by decide +kernel
theorem d_Checker_areJoinersRight_66 : decode b_Checker_areJoinersRight 66 = .ok (.ifCond .ne 5, 3) := by decide +kernel
theorem d_Checker_areJoinersRight_69 : decode b_Checker_areJoinersRight 69 = .ok (.iconst 0, 1) := by decide +kernel
theorem d_Checker_areJoinersRight_70 : decode b_Checker_areJoinersRight 70 = .ok (.ireturn, 1) := by decide +kernel
theorem d_Checker_areJoinersRight_71 : decode b_Checker_areJoinersRight 71 = .ok (.iinc 1 1, 3) := by decide +kernel
theorem d_Checker_areJoinersRight_74 : decode b_Checker_areJoinersRight 74 = .ok (.goto (-72), 3) := by decide +kernel
theorem d_Checker_areJoinersRight_77 : decode b_Checker_areJoinersRight 77 = .ok (.iconst 1, 1) := by decide +kernel
theorem d_Checker_areJoinersRight_78 : decode b_Checker_areJoinersRight 78 = .ok (.ireturn, 1) := by decide +kernel
theorem d_Checker_isBetweenJoining_0 : decode b_Checker_isBetweenJoining 0 = .ok (.aload_n 0, 1) := by decide +kernel
theorem d_Checker_isBetweenJoining_1 : decode b_Checker_isBetweenJoining 1 = .ok (.iload_n 1, 1) := by decide +kernel
theorem d_Checker_isBetweenJoining_2 : decode b_Checker_isBetweenJoining 2 = .ok (.iconst (-1), 1) := by decide +kernel
theorem d_Checker_isBetweenJoining_3 : decode b_Checker_isBetweenJoining 3 = .ok (.invokestatic 86, 3) := by decide +kernel
theorem d_Checker_isBetweenJoining_6 : decode b_Checker_isBetweenJoining 6 = .ok (.istore_n 2, 1) := by decide +kernel
theorem d_Checker_isBetweenJoining_7 : decode b_Checker_isBetweenJoining 7 = .ok (.aload_n 0, 1) := by decide +kernel
theorem d_Checker_isBetweenJoining_8 : decode b_Checker_isBetweenJoining 8 = .ok (.iload_n 1, 1) := by decide +kernel
theorem d_Checker_isBetweenJoining_9 : decode b_Checker_isBetweenJoining 9 = .ok (.iconst 1, 1) := by decide +kernel
theorem d_Checker_isBetweenJoining_10 : decode b_Checker_isBetweenJoining 10 = .ok (.invokestatic 86, 3) := by decide +kernel
theorem d_Checker_isBetweenJoining_13 : decode b_Checker_isBetweenJoining 13 = .ok (.istore_n 3, 1) := by decide +kernel
theorem d_Checker_isBetweenJoining_14 : decode b_Checker_isBetweenJoining 14 = .ok (.iload_n 3, 1) := by decide +kernel
theorem d_Checker_isBetweenJoining_15 : decode b_Checker_isBetweenJoining 15 = .ok (.iconst 1, 1) := by decide +kernel
theorem d_Checker_isBetweenJoining_16 : decode b_Checker_isBetweenJoining 16 = .ok (.if_icmp .eq 8, 3) := by decide +kernel
theorem d_Checker_isBetweenJoining_19 : decode b_Checker_isBetweenJoining 19 = .ok (.iload_n 3, 1) := by decide +kernel
theorem d_Checker_isBetweenJoining_20 : decode b_Checker_isBetweenJoining 20 = .ok (.iconst 2, 1) := by decide +kernel
theorem d_Checker_isBetweenJoining_21 : decode b_Checker_isBetweenJoining 21 = .ok (.if_icmp .ne 7, 3) := by decide +kernel
theorem d_Checker_isBetweenJoining_24 : decode b_Checker_isBetweenJoining 24 = .ok (.iconst 1, 1) := by decide +kernel
theorem d_Checker_isBetweenJoining_25 : decode b_Checker_isBetweenJoining 25 = .ok (.goto 4, 3) := by decide +kernel
theorem d_Checker_isBetweenJoining_28 : decode b_Checker_isBetweenJoining 28 = .ok (.iconst 0, 1) := by decide +kernel
theorem d_Checker_isBetweenJoining_29 : decode b_Checker_isBetweenJoining 29 = .ok (.istore 4, 2) := by decide +kernel
theorem d_Checker_isBetweenJoining_31 : decode b_Checker_isBetweenJoining 31 = .ok (.iload_n 2, 1) := by decide +kernel
theorem d_Checker_isBetweenJoining_32 : decode b_Checker_isBetweenJoining 32 = .ok (.iconst 2, 1) := by decide +kernel
theorem d_Checker_isBetweenJoining_33 : decode b_Checker_isBetweenJoining 33 = .ok (.if_icmp .ne 12, 3) := by decide +kernel
theorem d_Checker_isBetweenJoining_36 : decode b_Checker_isBetweenJoining 36 = .ok (.iload 4, 2) := by decide +kernel
theorem d_Checker_isBetweenJoining_38 : decode b_Checker_isBetweenJoining 38 = .ok (.ifCond .eq 7, 3) := by decide +kernel
theorem d_Checker_isBetweenJoining_41 : decode b_Checker_isBetweenJoining 41 = .ok (.iconst 1, 1) := by decide +kernel
theorem d_Checker_isBetweenJoining_42 : decode b_Checker_isBetweenJoining 42 = .ok (.goto 4, 3) := by decide +kernel
theorem d_Checker_isBetweenJoining_45 : decode b_Checker_isBetweenJoining 45 = .ok (.iconst 0, 1) := by decide +kernel
theorem d_Checker_isBetweenJoining_46 : decode b_Checker_isBetweenJoining 46 = .ok (.ireturn, 1) := by decide +kernel
theorem d_Checker_joiningBeyond_0 : decode b_Checker_joiningBeyond 0 = .ok (.iconst 1, 1) := by decide +kernel
theorem d_Checker_joiningBeyond_1 : decode b_Checker_joiningBeyond 1 = .ok (.istore_n 3, 1) := by decide +kernel
theorem d_Checker_joiningBeyond_2 : decode b_Checker_joiningBeyond 2 = .ok (.iload_n 3, 1) := by decide +kernel
theorem d_Checker_joiningBeyond_3 : decode b_Checker_joiningBeyond 3 = .ok (.aload_n 0, 1) := by decide +kernel
theorem d_Checker_joiningBeyond_4 : decode b_Checker_joiningBeyond 4 = .ok (.invokevirtual 71, 3) := by decide +kernel
theorem d_Checker_joiningBeyond_7 : decode b_Checker_joiningBeyond 7 = .ok (.if_icmp .gt 32, 3) := by decide +kernel
theorem d_Checker_joiningBeyond_10 : decode b_Checker_joiningBeyond 10 = .ok (.aload_n 0, 1) := by decide +kernel
theorem d_Checker_joiningBeyond_11 : decode b_Checker_joiningBeyond 11 = .ok (.iload_n 1, 1) := by decide +kernel
theorem d_Checker_joiningBeyond_12 : decode b_Checker_joiningBeyond 12 = .ok (.iload_n 3, 1) := by decide +kernel
theorem d_Checker_joiningBeyond_13 : decode b_Checker_joiningBeyond 13 = .ok (.iload_n 2, 1) := by decide +kernel
theorem d_Checker_joiningBeyond_14 : decode b_Checker_joiningBeyond 14 = .ok (.imul, 1) := by decide +kernel
theorem d_Checker_joiningBeyond_15 : decode b_Checker_joiningBeyond 15 = .ok (.iadd, 1) := by decide +kernel
theorem d_Checker_joiningBeyond_16 : decode b_Checker_joiningBeyond 16 = .ok (.invokevirtual 31, 3) := by decide +kernel
theorem d_Checker_joiningBeyond_19 : decode b_Checker_joiningBeyond 19 = .ok (.invokestatic 90, 3) := by decide +kernel
theorem d_Checker_joiningBeyond_22 : decode b_Checker_joiningBeyond 22 = .ok (.istore 4, 2) := by decide +kernel
theorem d_Checker_joiningBeyond_24 : decode b_Checker_joiningBeyond 24 = .ok (.iload 4, 2) := by decide +kernel
theorem d_Checker_joiningBeyond_26 : decode b_Checker_joiningBeyond 26 = .ok (.iconst 3, 1) := by decide +kernel
theorem d_Checker_joiningBeyond_27 : decode b_Checker_joiningBeyond 27 = .ok (.if_icmp .eq 6, 3) := by decide +kernel
theorem d_Checker_joiningBeyond_30 : decode b_Checker_joiningBeyond 30 = .ok (.iload 4, 2) := by decide +kernel
theorem d_Checker_joiningBeyond_32 : decode b_Checker_joiningBeyond 32 = .ok (.ireturn, 1) := by decide +kernel
theorem d_Checker_joiningBeyond_33 : decode b_Checker_joiningBeyond 33 = .ok (.iinc 3 1, 3) := by decide +kernel
theorem d_Checker_joiningBeyond_36 : decode b_Checker_joiningBeyond 36 = .ok (.goto (-34), 3) := by decide +kernel
theorem d_Checker_joiningBeyond_39 : decode b_Checker_joiningBeyond 39 = .ok (.iconst 0, 1) := by decide +kernel
theorem d_Checker_joiningBeyond_40 : decode b_Checker_joiningBeyond 40 = .ok (.ireturn, 1) := by decide +kernel
theorem d_Checker_isDirectionRight_0 : decode b_Checker_isDirectionRight 0 = .ok (.aload_n 0, 1) := by decide +kernel
theorem d_Checker_isDirectionRight_1 : decode b_Checker_isDirectionRight 1 = .ok (.iconst 0, 1) := by decide +kernel
theorem d_Checker_isDirectionRight_2 : decode b_Checker_isDirectionRight 2 = .ok (.invokevirtual 31, 3) := by decide +kernel
theorem d_Checker_isDirectionRight_5 : decode b_Checker_isDirectionRight 5 = .ok (.invokestatic 93, 3) := by decide +kernel
theorem d_Checker_isDirectionRight_8 : decode b_Checker_isDirectionRight 8 = .ok (.istore_n 1, 1) := by decide +kernel
theorem d_Checker_isDirectionRight_9 : decode b_Checker_isDirectionRight 9 = .ok (.iconst 0, 1) := by decide +kernel
theorem d_Checker_isDirectionRight_10 : decode b_Checker_isDirectionRight 10 = .ok (.istore_n 2, 1) := by decide +kernel
theorem d_Checker_isDirectionRight_11 : decode b_Checker_isDirectionRight 11 = .ok (.iload_n 1, 1) := by decide +kernel
theorem d_Checker_isDirectionRight_12 : decode b_Checker_isDirectionRight 12 = .ok (.istore_n 3, 1) := by decide +kernel
theorem d_Checker_isDirectionRight_13 : decode b_Checker_isDirectionRight 13 = .ok (.iconst 0, 1) := by decide +kernel
theorem d_Checker_isDirectionRight_14 : decode b_Checker_isDirectionRight 14 = .ok (.istore 4, 2) := by decide +kernel
theorem d_Checker_isDirectionRight_16 : decode b_Checker_isDirectionRight 16 = .ok (.iload 4, 2) := by decide +kernel
theorem d_Checker_isDirectionRight_18 : decode b_Checker_isDirectionRight 18 = .ok (.aload_n 0, 1) := by decide +kernel
theorem d_Checker_isDirectionRight_19 : decode b_Checker_isDirectionRight 19 = .ok (.invokevirtual 71, 3) := by decide +kernel
theorem d_Checker_isDirectionRight_22 : decode b_Checker_isDirectionRight 22 = .ok (.if_icmp .ge 39, 3) := by decide +kernel
theorem d_Checker_isDirectionRight_25 : decode b_Checker_isDirectionRight 25 = .ok (.aload_n 0, 1) := by decide +kernel
theorem d_Checker_isDirectionRight_26 : decode b_Checker_isDirectionRight 26 = .ok (.iload 4, 2) := by decide +kernel
theorem d_Checker_isDirectionRight_28 : decode b_Checker_isDirectionRight 28 = .ok (.invokevirtual 31, 3) := by decide +kernel
theorem d_Checker_isDirectionRight_31 : decode b_Checker_isDirectionRight 31 = .ok (.invokestatic 93, 3) := by decide +kernel
theorem d_Checker_isDirectionRight_34 : decode b_Checker_isDirectionRight 34 = .ok (.istore 5, 2) := by decide +kernel
theorem d_Checker_isDirectionRight_36 : decode b_Checker_isDirectionRight 36 = .ok (.iload_n 2, 1) := by decide +kernel
theorem d_Checker_isDirectionRight_37 : decode b_Checker_isDirectionRight 37 = .ok (.iload 5, 2) := by decide +kernel
theorem d_Checker_isDirectionRight_39 : decode b_Checker_isDirectionRight 39 = .ok (.ior, 1) := by decide +kernel
theorem d_Checker_isDirectionRight_40 : decode b_Checker_isDirectionRight 40 = .ok (.istore_n 2, 1) := by decide +kernel
theorem d_Checker_isDirectionRight_41 : decode b_Checker_isDirectionRight 41 = .ok (.iload 5, 2) := by decide +kernel
theorem d_Checker_isDirectionRight_43 : decode b_Checker_isDirectionRight 43 = .ok (.bipush 64, 2) := by decide +kernel
theorem d_Checker_isDirectionRight_45 : decode b_Checker_isDirectionRight 45 = .ok (.if_icmp .ne 7, 3) := by decide +kernel
theorem d_Checker_isDirectionRight_48 : decode b_Checker_isDirectionRight 48 = .ok (.iload_n 3, 1) := by decide +kernel
theorem d_Checker_isDirectionRight_49 : decode b_Checker_isDirectionRight 49 = .ok (.goto 5, 3) := by decide +kernel
theorem d_Checker_isDirectionRight_52 : decode b_Checker_isDirectionRight 52 = .ok (.iload 5, 2) := by decide +kernel
theorem d_Checker_isDirectionRight_54 : decode b_Checker_isDirectionRight 54 = .ok (.istore_n 3, 1) := by decide +kernel
theorem d_Checker_isDirectionRight_55 : decode b_Checker_isDirectionRight 55 = .ok (.iinc 4 1, 3) := by decide +kernel
theorem d_Checker_isDirectionRight_58 : decode b_Checker_isDirectionRight 58 = .ok (.goto (-42), 3) := by decide +kernel
theorem d_Checker_isDirectionRight_61 : decode b_Checker_isDirectionRight 61 = .ok (.iload_n 1, 1) := by decide +kernel
theorem d_Checker_isDirectionRight_62 : decode b_Checker_isDirectionRight 62 = .ok (.iconst 1, 1) := by decide +kernel
theorem d_Checker_isDirectionRight_63 : decode b_Checker_isDirectionRight 63 = .ok (.if_icmp .ne 35, 3) := by decide +kernel
theorem d_Checker_isDirectionRight_66 : decode b_Checker_isDirectionRight 66 = .ok (.iload_n 2, 1) := by decide +kernel
theorem d_Checker_isDirectionRight_67 : decode b_Checker_isDirectionRight 67 = .ok (.bipush 14, 2) := by decide +kernel
theorem d_Checker_isDirectionRight_69 : decode b_Checker_isDirectionRight 69 = .ok (.iand, 1) := by decide +kernel
theorem d_Checker_isDirectionRight_70 : decode b_Checker_isDirectionRight 70 = .ok (.ifCond .eq 7, 3) := by decide +kernel
theorem d_Checker_isDirectionRight_73 : decode b_Checker_isDirectionRight 73 = .ok (.iconst 1, 1) := by decide +kernel
theorem d_Checker_isDirectionRight_74 : decode b_Checker_isDirectionRight 74 = .ok (.goto 4, 3) := by decide +kernel
theorem d_Checker_isDirectionRight_77 : decode b_Checker_isDirectionRight 77 = .ok (.iconst 0, 1) := by decide +kernel
theorem d_Checker_isDirectionRight_78 : decode b_Checker_isDirectionRight 78 = .ok (.istore 4, 2) := by decide +kernel
theorem d_Checker_isDirectionRight_80 : decode b_Checker_isDirectionRight 80 = .ok (.iload 4, 2) := by decide +kernel
theorem d_Checker_isDirectionRight_82 : decode b_Checker_isDirectionRight 82 = .ok (.ifCond .ne 14, 3) := by decide +kernel
theorem d_Checker_isDirectionRight_85 : decode b_Checker_isDirectionRight 85 = .ok (.iload_n 3, 1) := by decide +kernel
theorem d_Checker_isDirectionRight_86 : decode b_Checker_isDirectionRight 86 = .ok (.bipush 17, 2) := by decide +kernel
theorem d_Checker_isDirectionRight_88 : decode b_Checker_isDirectionRight 88 = .ok (.iand, 1) := by decide +kernel
theorem d_Checker_isDirectionRight_89 : decode b_Checker_isDirectionRight 89 = .ok (.ifCond .eq 7, 3) := by decide +kernel
theorem d_Checker_isDirectionRight_92 : decode b_Checker_isDirectionRight 92 = .ok (.iconst 1, 1) := by decide +kernel
theorem d_Checker_isDirectionRight_93 : decode b_Checker_isDirectionRight 93 = .ok (.goto 4, 3) := by decide +kernel
theorem d_Checker_isDirectionRight_96 : decode b_Checker_isDirectionRight 96 = .ok (.iconst 0, 1) := by decide +kernel
theorem d_Checker_isDirectionRight_97 : decode b_Checker_isDirectionRight 97 = .ok (.ireturn, 1) := by decide +kernel
theorem d_Checker_isDirectionRight_98 : decode b_Checker_isDirectionRight 98 = .ok (.iload_n 1, 1) := by decide +kernel
theorem d_Checker_isDirectionRight_99 : decode b_Checker_isDirectionRight 99 = .ok (.iconst 2, 1) := by decide +kernel
theorem d_Checker_isDirectionRight_100 : decode b_Checker_isDirectionRight 100 = .ok (.if_icmp .eq 10, 3) := by decide +kernel
theorem d_Checker_isDirectionRight_103 : decode b_Checker_isDirectionRight 103 = .ok (.iload_n 1, 1) := by decide +kernel
theorem d_Checker_isDirectionRight_104 : decode b_Checker_isDirectionRight 104 = .ok (.iconst 4, 1) := by decide +kernel
theorem d_Checker_isDirectionRight_105 : decode b_Checker_isDirectionRight 105 = .ok (.if_icmp .eq 5, 3) := by decide +kernel
theorem d_Checker_isDirectionRight_108 : decode b_Checker_isDirectionRight 108 = .ok (.iconst 0, 1) := by decide +kernel
theorem d_Checker_isDirectionRight_109 : decode b_Checker_isDirectionRight 109 = .ok (.ireturn, 1) := by decide +kernel
theorem d_Checker_isDirectionRight_110 : decode b_Checker_isDirectionRight 110 = .ok (.iload_n 2, 1) := by decide +kernel
theorem d_Checker_isDirectionRight_111 : decode b_Checker_isDirectionRight 111 = .ok (.bipush 16, 2) := by decide +kernel
theorem d_Checker_isDirectionRight_113 : decode b_Checker_isDirectionRight 113 = .ok (.iand, 1) := by decide +kernel
theorem d_Checker_isDirectionRight_114 : decode b_Checker_isDirectionRight 114 = .ok (.ifCond .eq 14, 3) := by decide +kernel
theorem d_Checker_isDirectionRight_117 : decode b_Checker_isDirectionRight 117 = .ok (.iload_n 2, 1) := by decide +kernel
theorem d_Checker_isDirectionRight_118 : decode b_Checker_isDirectionRight 118 = .ok (.bipush 8, 2) := by decide +kernel
theorem d_Checker_isDirectionRight_120 : decode b_Checker_isDirectionRight 120 = .ok (.iand, 1) := by decide +kernel
theorem d_Checker_isDirectionRight_121 : decode b_Checker_isDirectionRight 121 = .ok (.ifCond .eq 7, 3) := by decide +kernel
theorem d_Checker_isDirectionRight_124 : decode b_Checker_isDirectionRight 124 = .ok (.iconst 1, 1) := by decide +kernel
theorem d_Checker_isDirectionRight_125 : decode b_Checker_isDirectionRight 125 = .ok (.goto 4, 3) := by decide +kernel
theorem d_Checker_isDirectionRight_128 : decode b_Checker_isDirectionRight 128 = .ok (.iconst 0, 1) := by decide +kernel
theorem d_Checker_isDirectionRight_129 : decode b_Checker_isDirectionRight 129 = .ok (.istore 4, 2) := by decide +kernel
theorem d_Checker_isDirectionRight_131 : decode b_Checker_isDirectionRight 131 = .ok (.iload_n 3, 1) := by decide +kernel
theorem d_Checker_isDirectionRight_132 : decode b_Checker_isDirectionRight 132 = .ok (.bipush 30, 2) := by decide +kernel
theorem d_Checker_isDirectionRight_134 : decode b_Checker_isDirectionRight 134 = .ok (.iand, 1) := by decide +kernel
theorem d_Checker_isDirectionRight_135 : decode b_Checker_isDirectionRight 135 = .ok (.ifCond .eq 7, 3) := by decide +kernel
theorem d_Checker_isDirectionRight_138 : decode b_Checker_isDirectionRight 138 = .ok (.iconst 1, 1) := by decide +kernel
theorem d_Checker_isDirectionRight_139 : decode b_Checker_isDirectionRight 139 = .ok (.goto 4, 3) := by decide +kernel
theorem d_Checker_isDirectionRight_142 : decode b_Checker_isDirectionRight 142 = .ok (.iconst 0, 1) := by decide +kernel
theorem d_Checker_isDirectionRight_143 : decode b_Checker_isDirectionRight 143 = .ok (.istore 5, 2) := by decide +kernel
theorem d_Checker_isDirectionRight_145 : decode b_Checker_isDirectionRight 145 = .ok (.iload_n 2, 1) := by decide +kernel
theorem d_Checker_isDirectionRight_146 : decode b_Checker_isDirectionRight 146 = .ok (.iconst 1, 1) := by decide +kernel
theorem d_Checker_isDirectionRight_147 : decode b_Checker_isDirectionRight 147 = .ok (.iand, 1) := by decide +kernel
theorem d_Checker_isDirectionRight_148 : decode b_Checker_isDirectionRight 148 = .ok (.ifCond .ne 17, 3) := by decide +kernel
theorem d_Checker_isDirectionRight_151 : decode b_Checker_isDirectionRight 151 = .ok (.iload 4, 2) := by decide +kernel
theorem d_Checker_isDirectionRight_153 : decode b_Checker_isDirectionRight 153 = .ok (.ifCond .ne 12, 3) := by decide +kernel
theorem d_Checker_isDirectionRight_156 : decode b_Checker_isDirectionRight 156 = .ok (.iload 5, 2) := by decide +kernel
theorem d_Checker_isDirectionRight_158 : decode b_Checker_isDirectionRight 158 = .ok (.ifCond .eq 7, 3) := by decide +kernel
theorem d_Checker_isDirectionRight_161 : decode b_Checker_isDirectionRight 161 = .ok (.iconst 1, 1) := by decide +kernel
theorem d_Checker_isDirectionRight_162 : decode b_Checker_isDirectionRight 162 = .ok (.goto 4, 3) := by decide +kernel
theorem d_Checker_isDirectionRight_165 : decode b_Checker_isDirectionRight 165 = .ok (.iconst 0, 1) := by decide +kernel
theorem d_Checker_isDirectionRight_166 : decode b_Checker_isDirectionRight 166 = .ok (.ireturn, 1) := by decide +kernel
