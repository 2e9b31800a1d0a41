theorem d_Mod_init_0 : decode b_Mod_init 0 = .ok (.aload_n 0, 1) := by decide +kernel
theorem d_Mod_init_1 : decode b_Mod_init 1 = .ok (.invokespecial 1, 3) := by decide +kernel
theorem d_Mod_init_4 : decode b_Mod_init 4 = .ok (.aload_n 0, 1) := by decide +kernel
theorem d_Mod_init_5 : decode b_Mod_init 5 = .ok (.bipush 48, 2) := by decide +kernel
theorem d_Mod_init_7 : decode b_Mod_init 7 = .ok (.newarray .int, 2) := by decide +kernel
theorem d_Mod_init_9 : decode b_Mod_init 9 = .ok (.putfield 7, 3) := by decide +kernel
theorem d_Mod_init_12 : decode b_Mod_init 12 = .ok (.aload_n 0, 1) := by decide +kernel
theorem d_Mod_init_13 : decode b_Mod_init 13 = .ok (.sipush 2000, 3) := by decide +kernel
theorem d_Mod_init_16 : decode b_Mod_init 16 = .ok (.newarray .int, 2) := by decide +kernel
theorem d_Mod_init_18 : decode b_Mod_init 18 = .ok (.putfield 13, 3) := by decide +kernel
theorem d_Mod_init_21 : decode b_Mod_init 21 = .ok (.aload_n 0, 1) := by decide +kernel
theorem d_Mod_init_22 : decode b_Mod_init 22 = .ok (.sipush 200, 3) := by decide +kernel
theorem d_Mod_init_25 : decode b_Mod_init 25 = .ok (.newarray .int, 2) := by decide +kernel
theorem d_Mod_init_27 : decode b_Mod_init 27 = .ok (.putfield 16, 3) := by decide +kernel
theorem d_Mod_init_30 : decode b_Mod_init 30 = .ok (.aload_n 0, 1) := by decide +kernel
theorem d_Mod_init_31 : decode b_Mod_init 31 = .ok (.sipush 200, 3) := by decide +kernel
theorem d_Mod_init_34 : decode b_Mod_init 34 = .ok (.newarray .int, 2) := by decide +kernel
theorem d_Mod_init_36 : decode b_Mod_init 36 = .ok (.putfield 19, 3) := by decide +kernel
theorem d_Mod_init_39 : decode b_Mod_init 39 = .ok (.aload_n 0, 1) := by decide +kernel
theorem d_Mod_init_40 : decode b_Mod_init 40 = .ok (.bipush 50, 2) := by decide +kernel
theorem d_Mod_init_42 : decode b_Mod_init 42 = .ok (.newarray .int, 2) := by decide +kernel
theorem d_Mod_init_44 : decode b_Mod_init 44 = .ok (.putfield 22, 3) := by decide +kernel
theorem d_Mod_init_47 : decode b_Mod_init 47 = .ok (.aload_n 0, 1) := by decide +kernel
theorem d_Mod_init_48 : decode b_Mod_init 48 = .ok (.bipush 50, 2) := by decide +kernel
theorem d_Mod_init_50 : decode b_Mod_init 50 = .ok (.newarray .int, 2) := by decide +kernel
theorem d_Mod_init_52 : decode b_Mod_init 52 = .ok (.putfield 25, 3) := by decide +kernel
theorem d_Mod_init_55 : decode b_Mod_init 55 = .ok (.aload_n 0, 1) := by decide +kernel
theorem d_Mod_init_56 : decode b_Mod_init 56 = .ok (.bipush 50, 2) := by decide +kernel
theorem d_Mod_init_58 : decode b_Mod_init 58 = .ok (.newarray .int, 2) := by decide +kernel
theorem d_Mod_init_60 : decode b_Mod_init 60 = .ok (.putfield 28, 3) := by decide +kernel
theorem d_Mod_init_63 : decode b_Mod_init 63 = .ok (.aload_n 0, 1) := by decide +kernel
theorem d_Mod_init_64 : decode b_Mod_init 64 = .ok (.bipush 50, 2) := by decide +kernel
theorem d_Mod_init_66 : decode b_Mod_init 66 = .ok (.newarray .boolean, 2) := by decide +kernel
theorem d_Mod_init_68 : decode b_Mod_init 68 = .ok (.putfield 31, 3) := by decide +kernel
theorem d_Mod_init_71 : decode b_Mod_init 71 = .ok (.aload_n 0, 1) := by decide +kernel
theorem d_Mod_init_72 : decode b_Mod_init 72 = .ok (.sipush 300, 3) := by decide +kernel
theorem d_Mod_init_75 : decode b_Mod_init 75 = .ok (.newarray .int, 2) := by decide +kernel
theorem d_Mod_init_77 : decode b_Mod_init 77 = .ok (.putfield 35, 3) := by decide +kernel
theorem d_Mod_init_80 : decode b_Mod_init 80 = .ok (.aload_n 0, 1) := by decide +kernel
theorem d_Mod_init_81 : decode b_Mod_init 81 = .ok (.sipush 200, 3) := by decide +kernel
theorem d_Mod_init_84 : decode b_Mod_init 84 = .ok (.newarray .boolean, 2) := by decide +kernel
theorem d_Mod_init_86 : decode b_Mod_init 86 = .ok (.putfield 38, 3) := by decide +kernel
theorem d_Mod_init_89 : decode b_Mod_init 89 = .ok (.return_, 1) := by decide +kernel
theorem d_Mod_within_0 : decode b_Mod_within 0 = .ok (.iload_n 0, 1) := by decide +kernel
theorem d_Mod_within_1 : decode b_Mod_within 1 = .ok (.iload_n 1, 1) := by decide +kernel
theorem d_Mod_within_2 : decode b_Mod_within 2 = .ok (.if_icmp .lt 12, 3) := by decide +kernel
theorem d_Mod_within_5 : decode b_Mod_within 5 = .ok (.iload_n 0, 1) := by decide +kernel
theorem d_Mod_within_6 : decode b_Mod_within 6 = .ok (.iload_n 2, 1) := by decide +kernel
theorem d_Mod_within_7 : decode b_Mod_within 7 = .ok (.if_icmp .gt 7, 3) := by decide +kernel
theorem d_Mod_within_10 : decode b_Mod_within 10 = .ok (.iconst 1, 1) := by decide +kernel
theorem d_Mod_within_11 : decode b_Mod_within 11 = .ok (.goto 4, 3) := by decide +kernel
theorem d_Mod_within_14 : decode b_Mod_within 14 = .ok (.iconst 0, 1) := by decide +kernel
theorem d_Mod_within_15 : decode b_Mod_within 15 = .ok (.ireturn, 1) := by decide +kernel
theorem d_Mod_isGood_0 : decode b_Mod_isGood 0 = .ok (.iload_n 0, 1) := by decide +kernel
theorem d_Mod_isGood_1 : decode b_Mod_isGood 1 = .ok (.bipush 45, 2) := by decide +kernel
theorem d_Mod_isGood_3 : decode b_Mod_isGood 3 = .ok (.if_icmp .eq 51, 3) := by decide +kernel
theorem d_Mod_isGood_6 : decode b_Mod_isGood 6 = .ok (.iload_n 0, 1) := by decide +kernel
theorem d_Mod_isGood_7 : decode b_Mod_isGood 7 = .ok (.bipush 46, 2) := by decide +kernel
theorem d_Mod_isGood_9 : decode b_Mod_isGood 9 = .ok (.if_icmp .eq 45, 3) := by decide +kernel
theorem d_Mod_isGood_12 : decode b_Mod_isGood 12 = .ok (.iload_n 0, 1) := by decide +kernel
theorem d_Mod_isGood_13 : decode b_Mod_isGood 13 = .ok (.bipush 48, 2) := by decide +kernel
theorem d_Mod_isGood_15 : decode b_Mod_isGood 15 = .ok (.bipush 57, 2) := by decide +kernel
theorem d_Mod_isGood_17 : decode b_Mod_isGood 17 = .ok (.invokestatic 41, 3) := by decide +kernel
theorem d_Mod_isGood_20 : decode b_Mod_isGood 20 = .ok (.ifCond .ne 34, 3) := by decide +kernel
theorem d_Mod_isGood_23 : decode b_Mod_isGood 23 = .ok (.iload_n 0, 1) := by decide +kernel
theorem d_Mod_isGood_24 : decode b_Mod_isGood 24 = .ok (.bipush 97, 2) := by decide +kernel
theorem d_Mod_isGood_26 : decode b_Mod_isGood 26 = .ok (.bipush 122, 2) := by decide +kernel
theorem d_Mod_isGood_28 : decode b_Mod_isGood 28 = .ok (.invokestatic 41, 3) := by decide +kernel
theorem d_Mod_isGood_31 : decode b_Mod_isGood 31 = .ok (.ifCond .ne 23, 3) := by decide +kernel
theorem d_Mod_isGood_34 : decode b_Mod_isGood 34 = .ok (.iload_n 0, 1) := by decide +kernel
theorem d_Mod_isGood_35 : decode b_Mod_isGood 35 = .ok (.sipush 224, 3) := by decide +kernel
theorem d_Mod_isGood_38 : decode b_Mod_isGood 38 = .ok (.sipush 255, 3) := by decide +kernel
theorem d_Mod_isGood_41 : decode b_Mod_isGood 41 = .ok (.invokestatic 41, 3) := by decide +kernel
theorem d_Mod_isGood_44 : decode b_Mod_isGood 44 = .ok (.ifCond .eq 14, 3) := by decide +kernel
theorem d_Mod_isGood_47 : decode b_Mod_isGood 47 = .ok (.iload_n 0, 1) := by decide +kernel
theorem d_Mod_isGood_48 : decode b_Mod_isGood 48 = .ok (.sipush 247, 3) := by decide +kernel
theorem d_Mod_isGood_51 : decode b_Mod_isGood 51 = .ok (.if_icmp .eq 7, 3) := by decide +kernel
theorem d_Mod_isGood_54 : decode b_Mod_isGood 54 = .ok (.iconst 1, 1) := by decide +kernel
theorem d_Mod_isGood_55 : decode b_Mod_isGood 55 = .ok (.goto 4, 3) := by decide +kernel
theorem d_Mod_isGood_58 : decode b_Mod_isGood 58 = .ok (.iconst 0, 1) := by decide +kernel
theorem d_Mod_isGood_59 : decode b_Mod_isGood 59 = .ok (.istore_n 1, 1) := by decide +kernel
theorem d_Mod_isGood_60 : decode b_Mod_isGood 60 = .ok (.iload_n 0, 1) := by decide +kernel
theorem d_Mod_isGood_61 : decode b_Mod_isGood 61 = .ok (.invokestatic 45, 3) := by decide +kernel
theorem d_Mod_isGood_64 : decode b_Mod_isGood 64 = .ok (.ifCond .gt 50, 3) := by decide +kernel
theorem d_Mod_isGood_67 : decode b_Mod_isGood 67 = .ok (.iload_n 0, 1) := by decide +kernel
theorem d_Mod_isGood_68 : decode b_Mod_isGood 68 = .ok (.sipush 945, 3) := by decide +kernel
theorem d_Mod_isGood_71 : decode b_Mod_isGood 71 = .ok (.sipush 969, 3) := by decide +kernel
theorem d_Mod_isGood_74 : decode b_Mod_isGood 74 = .ok (.invokestatic 41, 3) := by decide +kernel
theorem d_Mod_isGood_77 : decode b_Mod_isGood 77 = .ok (.ifCond .eq 10, 3) := by decide +kernel
theorem d_Mod_isGood_80 : decode b_Mod_isGood 80 = .ok (.iload_n 0, 1) := by decide +kernel
theorem d_Mod_isGood_81 : decode b_Mod_isGood 81 = .ok (.sipush 962, 3) := by decide +kernel
theorem d_Mod_isGood_84 : decode b_Mod_isGood 84 = .ok (.if_icmp .ne 30, 3) := by decide +kernel
theorem d_Mod_isGood_87 : decode b_Mod_isGood 87 = .ok (.iload_n 0, 1) := by decide +kernel
theorem d_Mod_isGood_88 : decode b_Mod_isGood 88 = .ok (.sipush 1488, 3) := by decide +kernel
theorem d_Mod_isGood_91 : decode b_Mod_isGood 91 = .ok (.sipush 1514, 3) := by decide +kernel
theorem d_Mod_isGood_94 : decode b_Mod_isGood 94 = .ok (.invokestatic 41, 3) := by decide +kernel
theorem d_Mod_isGood_97 : decode b_Mod_isGood 97 = .ok (.ifCond .ne 17, 3) := by decide +kernel
theorem d_Mod_isGood_100 : decode b_Mod_isGood 100 = .ok (.iload_n 0, 1) := by decide +kernel
theorem d_Mod_isGood_101 : decode b_Mod_isGood 101 = .ok (.sipush 1575, 3) := by decide +kernel
theorem d_Mod_isGood_104 : decode b_Mod_isGood 104 = .ok (.if_icmp .eq 10, 3) := by decide +kernel
theorem d_Mod_isGood_107 : decode b_Mod_isGood 107 = .ok (.iload_n 0, 1) := by decide +kernel
theorem d_Mod_isGood_108 : decode b_Mod_isGood 108 = .ok (.sipush 1576, 3) := by decide +kernel
theorem d_Mod_isGood_111 : decode b_Mod_isGood 111 = .ok (.if_icmp .ne 7, 3) := by decide +kernel
theorem d_Mod_isGood_114 : decode b_Mod_isGood 114 = .ok (.iconst 1, 1) := by decide +kernel
theorem d_Mod_isGood_115 : decode b_Mod_isGood 115 = .ok (.goto 4, 3) := by decide +kernel
theorem d_Mod_isGood_118 : decode b_Mod_isGood 118 = .ok (.iconst 0, 1) := by decide +kernel
theorem d_Mod_isGood_119 : decode b_Mod_isGood 119 = .ok (.istore_n 2, 1) := by decide +kernel
theorem d_Mod_isGood_120 : decode b_Mod_isGood 120 = .ok (.iload_n 1, 1) := by decide +kernel
theorem d_Mod_isGood_121 : decode b_Mod_isGood 121 = .ok (.ifCond .ne 58, 3) := by decide +kernel
theorem d_Mod_isGood_124 : decode b_Mod_isGood 124 = .ok (.iload_n 2, 1) := by decide +kernel
theorem d_Mod_isGood_125 : decode b_Mod_isGood 125 = .ok (.ifCond .ne 54, 3) := by decide +kernel
theorem d_Mod_isGood_128 : decode b_Mod_isGood 128 = .ok (.iload_n 0, 1) := by decide +kernel
theorem d_Mod_isGood_129 : decode b_Mod_isGood 129 = .ok (.sipush 1632, 3) := by decide +kernel
theorem d_Mod_isGood_132 : decode b_Mod_isGood 132 = .ok (.sipush 1641, 3) := by decide +kernel
theorem d_Mod_isGood_135 : decode b_Mod_isGood 135 = .ok (.invokestatic 41, 3) := by decide +kernel
theorem d_Mod_isGood_138 : decode b_Mod_isGood 138 = .ok (.ifCond .ne 41, 3) := by decide +kernel
theorem d_Mod_isGood_141 : decode b_Mod_isGood 141 = .ok (.iload_n 0, 1) := by decide +kernel
theorem d_Mod_isGood_142 : decode b_Mod_isGood 142 = .ok (.sipush 1776, 3) := by decide +kernel
theorem d_Mod_isGood_145 : decode b_Mod_isGood 145 = .ok (.sipush 1785, 3) := by decide +kernel
theorem d_Mod_isGood_148 : decode b_Mod_isGood 148 = .ok (.invokestatic 41, 3) := by decide +kernel
theorem d_Mod_isGood_151 : decode b_Mod_isGood 151 = .ok (.ifCond .ne 28, 3) := by decide +kernel
theorem d_Mod_isGood_154 : decode b_Mod_isGood 154 = .ok (.iload_n 0, 1) := by decide +kernel
theorem d_Mod_isGood_155 : decode b_Mod_isGood 155 = .ok (.sipush 2325, 3) := by decide +kernel
theorem d_Mod_isGood_158 : decode b_Mod_isGood 158 = .ok (.sipush 2361, 3) := by decide +kernel
theorem d_Mod_isGood_161 : decode b_Mod_isGood 161 = .ok (.invokestatic 41, 3) := by decide +kernel
theorem d_Mod_isGood_164 : decode b_Mod_isGood 164 = .ok (.ifCond .ne 15, 3) := by decide +kernel
theorem d_Mod_isGood_167 : decode b_Mod_isGood 167 = .ok (.iload_n 0, 1) := by decide +kernel
theorem d_Mod_isGood_168 : decode b_Mod_isGood 168 = .ok (.sipush 19968, 3) := by decide +kernel
theorem d_Mod_isGood_171 : decode b_Mod_isGood 171 = .ok (.ldc 49, 2) := by decide +kernel
theorem d_Mod_isGood_173 : decode b_Mod_isGood 173 = .ok (.invokestatic 41, 3) := by decide +kernel
theorem d_Mod_isGood_176 : decode b_Mod_isGood 176 = .ok (.ifCond .eq 7, 3) := by decide +kernel
theorem d_Mod_isGood_179 : decode b_Mod_isGood 179 = .ok (.iconst 1, 1) := by decide +kernel
theorem d_Mod_isGood_180 : decode b_Mod_isGood 180 = .ok (.goto 4, 3) := by decide +kernel
theorem d_Mod_isGood_183 : decode b_Mod_isGood 183 = .ok (.iconst 0, 1) := by decide +kernel
theorem d_Mod_isGood_184 : decode b_Mod_isGood 184 = .ok (.ireturn, 1) := by decide +kernel
theorem d_Mod_isPlain_0 : decode b_Mod_isPlain 0 = .ok (.iload_n 0, 1) := by decide +kernel
theorem d_Mod_isPlain_1 : decode b_Mod_isPlain 1 = .ok (.iconst 0, 1) := by decide +kernel
theorem d_Mod_isPlain_2 : decode b_Mod_isPlain 2 = .ok (.bipush 127, 2) := by decide +kernel
theorem d_Mod_isPlain_4 : decode b_Mod_isPlain 4 = .ok (.invokestatic 41, 3) := by decide +kernel
theorem d_Mod_isPlain_7 : decode b_Mod_isPlain 7 = .ok (.ifCond .eq 25, 3) := by decide +kernel
theorem d_Mod_isPlain_10 : decode b_Mod_isPlain 10 = .ok (.iload_n 0, 1) := by decide +kernel
theorem d_Mod_isPlain_11 : decode b_Mod_isPlain 11 = .ok (.invokestatic 50, 3) := by decide +kernel
theorem d_Mod_isPlain_14 : decode b_Mod_isPlain 14 = .ok (.ifCond .ne 18, 3) := by decide +kernel
theorem d_Mod_isPlain_17 : decode b_Mod_isPlain 17 = .ok (.iload_n 0, 1) := by decide +kernel
theorem d_Mod_isPlain_18 : decode b_Mod_isPlain 18 = .ok (.bipush 65, 2) := by decide +kernel
theorem d_Mod_isPlain_20 : decode b_Mod_isPlain 20 = .ok (.bipush 90, 2) := by decide +kernel
theorem d_Mod_isPlain_22 : decode b_Mod_isPlain 22 = .ok (.invokestatic 41, 3) := by decide +kernel
theorem d_Mod_isPlain_25 : decode b_Mod_isPlain 25 = .ok (.ifCond .ne 7, 3) := by decide +kernel
theorem d_Mod_isPlain_28 : decode b_Mod_isPlain 28 = .ok (.iconst 1, 1) := by decide +kernel
theorem d_Mod_isPlain_29 : decode b_Mod_isPlain 29 = .ok (.goto 4, 3) := by decide +kernel
theorem d_Mod_isPlain_32 : decode b_Mod_isPlain 32 = .ok (.iconst 0, 1) := by decide +kernel
theorem d_Mod_isPlain_33 : decode b_Mod_isPlain 33 = .ok (.ireturn, 1) := by decide +kernel
theorem d_Mod_image_0 : decode b_Mod_image 0 = .ok (.iload_n 0, 1) := by decide +kernel
theorem d_Mod_image_1 : decode b_Mod_image 1 = .ok (.bipush 65, 2) := by decide +kernel
theorem d_Mod_image_3 : decode b_Mod_image 3 = .ok (.bipush 90, 2) := by decide +kernel
theorem d_Mod_image_5 : decode b_Mod_image 5 = .ok (.invokestatic 41, 3) := by decide +kernel
theorem d_Mod_image_8 : decode b_Mod_image 8 = .ok (.ifCond .ne 43, 3) := by decide +kernel
theorem d_Mod_image_11 : decode b_Mod_image 11 = .ok (.iload_n 0, 1) := by decide +kernel
theorem d_Mod_image_12 : decode b_Mod_image 12 = .ok (.sipush 192, 3) := by decide +kernel
theorem d_Mod_image_15 : decode b_Mod_image 15 = .ok (.sipush 222, 3) := by decide +kernel
theorem d_Mod_image_18 : decode b_Mod_image 18 = .ok (.invokestatic 41, 3) := by decide +kernel
theorem d_Mod_image_21 : decode b_Mod_image 21 = .ok (.ifCond .eq 10, 3) := by decide +kernel
theorem d_Mod_image_24 : decode b_Mod_image 24 = .ok (.iload_n 0, 1) := by decide +kernel
theorem d_Mod_image_25 : decode b_Mod_image 25 = .ok (.sipush 215, 3) := by decide +kernel
theorem d_Mod_image_28 : decode b_Mod_image 28 = .ok (.if_icmp .ne 23, 3) := by decide +kernel
theorem d_Mod_image_31 : decode b_Mod_image 31 = .ok (.iload_n 0, 1) := by decide +kernel
theorem d_Mod_image_32 : decode b_Mod_image 32 = .ok (.sipush 913, 3) := by decide +kernel
theorem d_Mod_image_35 : decode b_Mod_image 35 = .ok (.sipush 937, 3) := by decide +kernel
theorem d_Mod_image_38 : decode b_Mod_image 38 = .ok (.invokestatic 41, 3) := by decide +kernel
theorem d_Mod_image_41 : decode b_Mod_image 41 = .ok (.ifCond .eq 15, 3) := by decide +kernel
theorem d_Mod_image_44 : decode b_Mod_image 44 = .ok (.iload_n 0, 1) := by decide +kernel
theorem d_Mod_image_45 : decode b_Mod_image 45 = .ok (.sipush 930, 3) := by decide +kernel
theorem d_Mod_image_48 : decode b_Mod_image 48 = .ok (.if_icmp .eq 8, 3) := by decide +kernel
theorem d_Mod_image_51 : decode b_Mod_image 51 = .ok (.iload_n 0, 1) := by decide +kernel
theorem d_Mod_image_52 : decode b_Mod_image 52 = .ok (.bipush 32, 2) := by decide +kernel
theorem d_Mod_image_54 : decode b_Mod_image 54 = .ok (.iadd, 1) := by decide +kernel
theorem d_Mod_image_55 : decode b_Mod_image 55 = .ok (.ireturn, 1) := by decide +kernel
theorem d_Mod_image_56 : decode b_Mod_image 56 = .ok (.iload_n 0, 1) := by decide +kernel
theorem d_Mod_image_57 : decode b_Mod_image 57 = .ok (.sipush 12290, 3) := by decide +kernel
theorem d_Mod_image_60 : decode b_Mod_image 60 = .ok (.if_icmp .ne 6, 3) := by decide +kernel
theorem d_Mod_image_63 : decode b_Mod_image 63 = .ok (.bipush 46, 2) := by decide +kernel
theorem d_Mod_image_65 : decode b_Mod_image 65 = .ok (.ireturn, 1) := by decide +kernel
theorem d_Mod_image_66 : decode b_Mod_image 66 = .ok (.iload_n 0, 1) := by decide +kernel
theorem d_Mod_image_67 : decode b_Mod_image 67 = .ok (.ldc 54, 2) := by decide +kernel
theorem d_Mod_image_69 : decode b_Mod_image 69 = .ok (.ldc 55, 2) := by decide +kernel
theorem d_Mod_image_71 : decode b_Mod_image 71 = .ok (.invokestatic 41, 3) := by decide +kernel
theorem d_Mod_image_74 : decode b_Mod_image 74 = .ok (.ifCond .eq 28, 3) := by decide +kernel
theorem d_Mod_image_77 : decode b_Mod_image 77 = .ok (.iload_n 0, 1) := by decide +kernel
theorem d_Mod_image_78 : decode b_Mod_image 78 = .ok (.ldc 56, 2) := by decide +kernel
theorem d_Mod_image_80 : decode b_Mod_image 80 = .ok (.isub, 1) := by decide +kernel
theorem d_Mod_image_81 : decode b_Mod_image 81 = .ok (.istore_n 1, 1) := by decide +kernel
theorem d_Mod_image_82 : decode b_Mod_image 82 = .ok (.iload_n 1, 1) := by decide +kernel
theorem d_Mod_image_83 : decode b_Mod_image 83 = .ok (.bipush 65, 2) := by decide +kernel
theorem d_Mod_image_85 : decode b_Mod_image 85 = .ok (.bipush 90, 2) := by decide +kernel
theorem d_Mod_image_87 : decode b_Mod_image 87 = .ok (.invokestatic 41, 3) := by decide +kernel
theorem d_Mod_image_90 : decode b_Mod_image 90 = .ok (.ifCond .eq 10, 3) := by decide +kernel
theorem d_Mod_image_93 : decode b_Mod_image 93 = .ok (.iload_n 1, 1) := by decide +kernel
theorem d_Mod_image_94 : decode b_Mod_image 94 = .ok (.bipush 32, 2) := by decide +kernel
theorem d_Mod_image_96 : decode b_Mod_image 96 = .ok (.iadd, 1) := by decide +kernel
theorem d_Mod_image_97 : decode b_Mod_image 97 = .ok (.goto 4, 3) := by decide +kernel
theorem d_Mod_image_100 : decode b_Mod_image 100 = .ok (.iload_n 1, 1) := by decide +kernel
theorem d_Mod_image_101 : decode b_Mod_image 101 = .ok (.ireturn, 1) := by decide +kernel
theorem d_Mod_image_102 : decode b_Mod_image 102 = .ok (.iconst (-1), 1) := by decide +kernel
theorem d_Mod_image_103 : decode b_Mod_image 103 = .ok (.ireturn, 1) := by decide +kernel
theorem d_Mod_isOdd_0 : decode b_Mod_isOdd 0 = .ok (.iload_n 0, 1) := by decide +kernel
theorem d_Mod_isOdd_1 : decode b_Mod_isOdd 1 = .ok (.sipush 223, 3) := by decide +kernel
theorem d_Mod_isOdd_4 : decode b_Mod_isOdd 4 = .ok (.if_icmp .eq 24, 3) := by decide +kernel
theorem d_Mod_isOdd_7 : decode b_Mod_isOdd 7 = .ok (.iload_n 0, 1) := by decide +kernel
theorem d_Mod_isOdd_8 : decode b_Mod_isOdd 8 = .ok (.sipush 962, 3) := by decide +kernel
theorem d_Mod_isOdd_11 : decode b_Mod_isOdd 11 = .ok (.if_icmp .eq 17, 3) := by decide +kernel
theorem d_Mod_isOdd_14 : decode b_Mod_isOdd 14 = .ok (.iload_n 0, 1) := by decide +kernel
theorem d_Mod_isOdd_15 : decode b_Mod_isOdd 15 = .ok (.sipush 8204, 3) := by decide +kernel
theorem d_Mod_isOdd_18 : decode b_Mod_isOdd 18 = .ok (.if_icmp .eq 10, 3) := by decide +kernel
theorem d_Mod_isOdd_21 : decode b_Mod_isOdd 21 = .ok (.iload_n 0, 1) := by decide +kernel
theorem d_Mod_isOdd_22 : decode b_Mod_isOdd 22 = .ok (.sipush 8205, 3) := by decide +kernel
theorem d_Mod_isOdd_25 : decode b_Mod_isOdd 25 = .ok (.if_icmp .ne 7, 3) := by decide +kernel
theorem d_Mod_isOdd_28 : decode b_Mod_isOdd 28 = .ok (.iconst 1, 1) := by decide +kernel
theorem d_Mod_isOdd_29 : decode b_Mod_isOdd 29 = .ok (.goto 4, 3) := by decide +kernel
theorem d_Mod_isOdd_32 : decode b_Mod_isOdd 32 = .ok (.iconst 0, 1) := by decide +kernel
theorem d_Mod_isOdd_33 : decode b_Mod_isOdd 33 = .ok (.ireturn, 1) := by decide +kernel
theorem d_Mod_order_0 : decode b_Mod_order 0 = .ok (.iload_n 0, 1) := by decide +kernel
theorem d_Mod_order_1 : decode b_Mod_order 1 = .ok (.lookupswitch 73 #[(768, 59), (769, 59), (776, 59), (807, 63), (1614, 67), (2381, 70)], 59) := by decide +kernel
theorem d_Mod_order_60 : decode b_Mod_order 60 = .ok (.sipush 230, 3) := by decide +kernel
theorem d_Mod_order_63 : decode b_Mod_order 63 = .ok (.ireturn, 1) := by decide +kernel
theorem d_Mod_order_64 : decode b_Mod_order 64 = .ok (.sipush 202, 3) := by decide +kernel
theorem d_Mod_order_67 : decode b_Mod_order 67 = .ok (.ireturn, 1) := by decide +kernel
theorem d_Mod_order_68 : decode b_Mod_order 68 = .ok (.bipush 30, 2) := by decide +kernel
theorem d_Mod_order_70 : decode b_Mod_order 70 = .ok (.ireturn, 1) := by decide +kernel
theorem d_Mod_order_71 : decode b_Mod_order 71 = .ok (.bipush 9, 2) := by decide +kernel
theorem d_Mod_order_73 : decode b_Mod_order 73 = .ok (.ireturn, 1) := by decide +kernel
theorem d_Mod_order_74 : decode b_Mod_order 74 = .ok (.iconst 0, 1) := by decide +kernel
theorem d_Mod_order_75 : decode b_Mod_order 75 = .ok (.ireturn, 1) := by decide +kernel
theorem d_Mod_direction_0 : decode b_Mod_direction 0 = .ok (.iload_n 0, 1) := by decide +kernel
theorem d_Mod_direction_1 : decode b_Mod_direction 1 = .ok (.sipush 1488, 3) := by decide +kernel
theorem d_Mod_direction_4 : decode b_Mod_direction 4 = .ok (.sipush 1514, 3) := by decide +kernel
theorem d_Mod_direction_7 : decode b_Mod_direction 7 = .ok (.invokestatic 41, 3) := by decide +kernel
theorem d_Mod_direction_10 : decode b_Mod_direction 10 = .ok (.ifCond .eq 5, 3) := by decide +kernel
theorem d_Mod_direction_13 : decode b_Mod_direction 13 = .ok (.iconst 1, 1) := by decide +kernel
theorem d_Mod_direction_14 : decode b_Mod_direction 14 = .ok (.ireturn, 1) := by decide +kernel
theorem d_Mod_direction_15 : decode b_Mod_direction 15 = .ok (.iload_n 0, 1) := by decide +kernel
theorem d_Mod_direction_16 : decode b_Mod_direction 16 = .ok (.sipush 1575, 3) := by decide +kernel
theorem d_Mod_direction_19 : decode b_Mod_direction 19 = .ok (.if_icmp .eq 10, 3) := by decide +kernel
theorem d_Mod_direction_22 : decode b_Mod_direction 22 = .ok (.iload_n 0, 1) := by decide +kernel
theorem d_Mod_direction_23 : decode b_Mod_direction 23 = .ok (.sipush 1576, 3) := by decide +kernel
theorem d_Mod_direction_26 : decode b_Mod_direction 26 = .ok (.if_icmp .ne 5, 3) := by decide +kernel
theorem d_Mod_direction_29 : decode b_Mod_direction 29 = .ok (.iconst 2, 1) := by decide +kernel
theorem d_Mod_direction_30 : decode b_Mod_direction 30 = .ok (.ireturn, 1) := by decide +kernel
theorem d_Mod_direction_31 : decode b_Mod_direction 31 = .ok (.iload_n 0, 1) := by decide +kernel
theorem d_Mod_direction_32 : decode b_Mod_direction 32 = .ok (.sipush 1632, 3) := by decide +kernel
theorem d_Mod_direction_35 : decode b_Mod_direction 35 = .ok (.sipush 1641, 3) := by decide +kernel
theorem d_Mod_direction_38 : decode b_Mod_direction 38 = .ok (.invokestatic 41, 3) := by decide +kernel
theorem d_Mod_direction_41 : decode b_Mod_direction 41 = .ok (.ifCond .eq 5, 3) := by decide +kernel
theorem d_Mod_direction_44 : decode b_Mod_direction 44 = .ok (.iconst 3, 1) := by decide +kernel
theorem d_Mod_direction_45 : decode b_Mod_direction 45 = .ok (.ireturn, 1) := by decide +kernel
theorem d_Mod_direction_46 : decode b_Mod_direction 46 = .ok (.iload_n 0, 1) := by decide +kernel
theorem d_Mod_direction_47 : decode b_Mod_direction 47 = .ok (.bipush 48, 2) := by decide +kernel
theorem d_Mod_direction_49 : decode b_Mod_direction 49 = .ok (.bipush 57, 2) := by decide +kernel
theorem d_Mod_direction_51 : decode b_Mod_direction 51 = .ok (.invokestatic 41, 3) := by decide +kernel
theorem d_Mod_direction_54 : decode b_Mod_direction 54 = .ok (.ifCond .ne 16, 3) := by decide +kernel
theorem d_Mod_direction_57 : decode b_Mod_direction 57 = .ok (.iload_n 0, 1) := by decide +kernel
theorem d_Mod_direction_58 : decode b_Mod_direction 58 = .ok (.sipush 1776, 3) := by decide +kernel
theorem d_Mod_direction_61 : decode b_Mod_direction 61 = .ok (.sipush 1785, 3) := by decide +kernel
theorem d_Mod_direction_64 : decode b_Mod_direction 64 = .ok (.invokestatic 41, 3) := by decide +kernel
theorem d_Mod_direction_67 : decode b_Mod_direction 67 = .ok (.ifCond .eq 5, 3) := by decide +kernel
theorem d_Mod_direction_70 : decode b_Mod_direction 70 = .ok (.iconst 4, 1) := by decide +kernel
theorem d_Mod_direction_71 : decode b_Mod_direction 71 = .ok (.ireturn, 1) := by decide +kernel
theorem d_Mod_direction_72 : decode b_Mod_direction 72 = .ok (.iload_n 0, 1) := by decide +kernel
theorem d_Mod_direction_73 : decode b_Mod_direction 73 = .ok (.bipush 45, 2) := by decide +kernel
theorem d_Mod_direction_75 : decode b_Mod_direction 75 = .ok (.if_icmp .ne 5, 3) := by decide +kernel
theorem d_Mod_direction_78 : decode b_Mod_direction 78 = .ok (.iconst 5, 1) := by decide +kernel
theorem d_Mod_direction_79 : decode b_Mod_direction 79 = .ok (.ireturn, 1) := by decide +kernel
theorem d_Mod_direction_80 : decode b_Mod_direction 80 = .ok (.iload_n 0, 1) := by decide +kernel
theorem d_Mod_direction_81 : decode b_Mod_direction 81 = .ok (.invokestatic 45, 3) := by decide +kernel
theorem d_Mod_direction_84 : decode b_Mod_direction 84 = .ok (.ifCond .le 6, 3) := by decide +kernel
theorem d_Mod_direction_87 : decode b_Mod_direction 87 = .ok (.bipush 6, 2) := by decide +kernel
theorem d_Mod_direction_89 : decode b_Mod_direction 89 = .ok (.ireturn, 1) := by decide +kernel
theorem d_Mod_direction_90 : decode b_Mod_direction 90 = .ok (.iload_n 0, 1) := by decide +kernel
theorem d_Mod_direction_91 : decode b_Mod_direction 91 = .ok (.sipush 8204, 3) := by decide +kernel
theorem d_Mod_direction_94 : decode b_Mod_direction 94 = .ok (.if_icmp .eq 10, 3) := by decide +kernel
theorem d_Mod_direction_97 : decode b_Mod_direction 97 = .ok (.iload_n 0, 1) := by decide +kernel
theorem d_Mod_direction_98 : decode b_Mod_direction 98 = .ok (.sipush 8205, 3) := by decide +kernel
theorem d_Mod_direction_101 : decode b_Mod_direction 101 = .ok (.if_icmp .ne 6, 3) := by decide +kernel
theorem d_Mod_direction_104 : decode b_Mod_direction 104 = .ok (.bipush 7, 2) := by decide +kernel
theorem d_Mod_direction_106 : decode b_Mod_direction 106 = .ok (.ireturn, 1) := by decide +kernel
theorem d_Mod_direction_107 : decode b_Mod_direction 107 = .ok (.iload_n 0, 1) := by decide +kernel
theorem d_Mod_direction_108 : decode b_Mod_direction 108 = .ok (.iconst 0, 1) := by decide +kernel
theorem d_Mod_direction_109 : decode b_Mod_direction 109 = .ok (.bipush 127, 2) := by decide +kernel
theorem d_Mod_direction_111 : decode b_Mod_direction 111 = .ok (.invokestatic 41, 3) := by decide +kernel
theorem d_Mod_direction_114 : decode b_Mod_direction 114 = .ok (.ifCond .eq 30, 3) := by decide +kernel
theorem d_Mod_direction_117 : decode b_Mod_direction 117 = .ok (.iload_n 0, 1) := by decide +kernel
theorem d_Mod_direction_118 : decode b_Mod_direction 118 = .ok (.bipush 65, 2) := by decide +kernel
theorem d_Mod_direction_120 : decode b_Mod_direction 120 = .ok (.bipush 90, 2) := by decide +kernel
theorem d_Mod_direction_122 : decode b_Mod_direction 122 = .ok (.invokestatic 41, 3) := by decide +kernel
theorem d_Mod_direction_125 : decode b_Mod_direction 125 = .ok (.ifCond .ne 19, 3) := by decide +kernel
theorem d_Mod_direction_128 : decode b_Mod_direction 128 = .ok (.iload_n 0, 1) := by decide +kernel
theorem d_Mod_direction_129 : decode b_Mod_direction 129 = .ok (.bipush 97, 2) := by decide +kernel
theorem d_Mod_direction_131 : decode b_Mod_direction 131 = .ok (.bipush 122, 2) := by decide +kernel
theorem d_Mod_direction_133 : decode b_Mod_direction 133 = .ok (.invokestatic 41, 3) := by decide +kernel
theorem d_Mod_direction_136 : decode b_Mod_direction 136 = .ok (.ifCond .ne 8, 3) := by decide +kernel
theorem d_Mod_direction_139 : decode b_Mod_direction 139 = .ok (.bipush 8, 2) := by decide +kernel
theorem d_Mod_direction_141 : decode b_Mod_direction 141 = .ok (.goto 5, 3) := by decide +kernel
theorem d_Mod_direction_144 : decode b_Mod_direction 144 = .ok (.bipush 9, 2) := by decide +kernel
theorem d_Mod_direction_146 : decode b_Mod_direction 146 = .ok (.ireturn, 1) := by decide +kernel
theorem d_Mod_pair_0 : decode b_Mod_pair 0 = .ok (.iload_n 0, 1) := by decide +kernel
theorem d_Mod_pair_1 : decode b_Mod_pair 1 = .ok (.bipush 97, 2) := by decide +kernel
theorem d_Mod_pair_3 : decode b_Mod_pair 3 = .ok (.if_icmp .ne 7, 3) := by decide +kernel
theorem d_Mod_pair_6 : decode b_Mod_pair 6 = .ok (.iconst 0, 1) := by decide +kernel
theorem d_Mod_pair_7 : decode b_Mod_pair 7 = .ok (.goto 54, 3) := by decide +kernel
theorem d_Mod_pair_10 : decode b_Mod_pair 10 = .ok (.iload_n 0, 1) := by decide +kernel
theorem d_Mod_pair_11 : decode b_Mod_pair 11 = .ok (.bipush 101, 2) := by decide +kernel
theorem d_Mod_pair_13 : decode b_Mod_pair 13 = .ok (.if_icmp .ne 7, 3) := by decide +kernel
theorem d_Mod_pair_16 : decode b_Mod_pair 16 = .ok (.iconst 1, 1) := by decide +kernel
theorem d_Mod_pair_17 : decode b_Mod_pair 17 = .ok (.goto 44, 3) := by decide +kernel
theorem d_Mod_pair_20 : decode b_Mod_pair 20 = .ok (.iload_n 0, 1) := by decide +kernel
theorem d_Mod_pair_21 : decode b_Mod_pair 21 = .ok (.bipush 105, 2) := by decide +kernel
theorem d_Mod_pair_23 : decode b_Mod_pair 23 = .ok (.if_icmp .ne 7, 3) := by decide +kernel
theorem d_Mod_pair_26 : decode b_Mod_pair 26 = .ok (.iconst 2, 1) := by decide +kernel
theorem d_Mod_pair_27 : decode b_Mod_pair 27 = .ok (.goto 34, 3) := by decide +kernel
theorem d_Mod_pair_30 : decode b_Mod_pair 30 = .ok (.iload_n 0, 1) := by decide +kernel
theorem d_Mod_pair_31 : decode b_Mod_pair 31 = .ok (.bipush 111, 2) := by decide +kernel
theorem d_Mod_pair_33 : decode b_Mod_pair 33 = .ok (.if_icmp .ne 7, 3) := by decide +kernel
theorem d_Mod_pair_36 : decode b_Mod_pair 36 = .ok (.iconst 3, 1) := by decide +kernel
theorem d_Mod_pair_37 : decode b_Mod_pair 37 = .ok (.goto 24, 3) := by decide +kernel
theorem d_Mod_pair_40 : decode b_Mod_pair 40 = .ok (.iload_n 0, 1) := by decide +kernel
theorem d_Mod_pair_41 : decode b_Mod_pair 41 = .ok (.bipush 117, 2) := by decide +kernel
theorem d_Mod_pair_43 : decode b_Mod_pair 43 = .ok (.if_icmp .ne 7, 3) := by decide +kernel
theorem d_Mod_pair_46 : decode b_Mod_pair 46 = .ok (.iconst 4, 1) := by decide +kernel
theorem d_Mod_pair_47 : decode b_Mod_pair 47 = .ok (.goto 14, 3) := by decide +kernel
theorem d_Mod_pair_50 : decode b_Mod_pair 50 = .ok (.iload_n 0, 1) := by decide +kernel
theorem d_Mod_pair_51 : decode b_Mod_pair 51 = .ok (.bipush 121, 2) := by decide +kernel
theorem d_Mod_pair_53 : decode b_Mod_pair 53 = .ok (.if_icmp .ne 7, 3) := by decide +kernel
theorem d_Mod_pair_56 : decode b_Mod_pair 56 = .ok (.iconst 5, 1) := by decide +kernel
theorem d_Mod_pair_57 : decode b_Mod_pair 57 = .ok (.goto 4, 3) := by decide +kernel
theorem d_Mod_pair_60 : decode b_Mod_pair 60 = .ok (.iconst (-1), 1) := by decide +kernel
theorem d_Mod_pair_61 : decode b_Mod_pair 61 = .ok (.istore_n 2, 1) := by decide +kernel
theorem d_Mod_pair_62 : decode b_Mod_pair 62 = .ok (.iload_n 1, 1) := by decide +kernel
theorem d_Mod_pair_63 : decode b_Mod_pair 63 = .ok (.sipush 807, 3) := by decide +kernel
theorem d_Mod_pair_66 : decode b_Mod_pair 66 = .ok (.if_icmp .ne 17, 3) := by decide +kernel
theorem d_Mod_pair_69 : decode b_Mod_pair 69 = .ok (.iload_n 0, 1) := by decide +kernel
theorem d_Mod_pair_70 : decode b_Mod_pair 70 = .ok (.bipush 99, 2) := by decide +kernel
theorem d_Mod_pair_72 : decode b_Mod_pair 72 = .ok (.if_icmp .ne 9, 3) := by decide +kernel
theorem d_Mod_pair_75 : decode b_Mod_pair 75 = .ok (.sipush 231, 3) := by decide +kernel
theorem d_Mod_pair_78 : decode b_Mod_pair 78 = .ok (.goto 4, 3) := by decide +kernel
theorem d_Mod_pair_81 : decode b_Mod_pair 81 = .ok (.iconst 0, 1) := by decide +kernel
theorem d_Mod_pair_82 : decode b_Mod_pair 82 = .ok (.ireturn, 1) := by decide +kernel
theorem d_Mod_pair_83 : decode b_Mod_pair 83 = .ok (.iload_n 2, 1) := by decide +kernel
theorem d_Mod_pair_84 : decode b_Mod_pair 84 = .ok (.ifCond .lt 24, 3) := by decide +kernel
theorem d_Mod_pair_87 : decode b_Mod_pair 87 = .ok (.iload_n 1, 1) := by decide +kernel
theorem d_Mod_pair_88 : decode b_Mod_pair 88 = .ok (.sipush 768, 3) := by decide +kernel
theorem d_Mod_pair_91 : decode b_Mod_pair 91 = .ok (.if_icmp .eq 19, 3) := by decide +kernel
theorem d_Mod_pair_94 : decode b_Mod_pair 94 = .ok (.iload_n 1, 1) := by decide +kernel
theorem d_Mod_pair_95 : decode b_Mod_pair 95 = .ok (.sipush 769, 3) := by decide +kernel
theorem d_Mod_pair_98 : decode b_Mod_pair 98 = .ok (.if_icmp .eq 12, 3) := by decide +kernel
theorem d_Mod_pair_101 : decode b_Mod_pair 101 = .ok (.iload_n 1, 1) := by decide +kernel
theorem d_Mod_pair_102 : decode b_Mod_pair 102 = .ok (.sipush 776, 3) := by decide +kernel
theorem d_Mod_pair_105 : decode b_Mod_pair 105 = .ok (.if_icmp .eq 5, 3) := by decide +kernel
theorem d_Mod_pair_108 : decode b_Mod_pair 108 = .ok (.iconst 0, 1) := by decide +kernel
theorem d_Mod_pair_109 : decode b_Mod_pair 109 = .ok (.ireturn, 1) := by decide +kernel
theorem d_Mod_pair_110 : decode b_Mod_pair 110 = .ok (.iload_n 2, 1) := by decide +kernel
theorem d_Mod_pair_111 : decode b_Mod_pair 111 = .ok (.ifCond .ne 9, 3) := by decide +kernel
theorem d_Mod_pair_114 : decode b_Mod_pair 114 = .ok (.sipush 224, 3) := by decide +kernel
theorem d_Mod_pair_117 : decode b_Mod_pair 117 = .ok (.goto 50, 3) := by decide +kernel
theorem d_Mod_pair_120 : decode b_Mod_pair 120 = .ok (.iload_n 2, 1) := by decide +kernel
theorem d_Mod_pair_121 : decode b_Mod_pair 121 = .ok (.iconst 1, 1) := by decide +kernel
theorem d_Mod_pair_122 : decode b_Mod_pair 122 = .ok (.if_icmp .ne 9, 3) := by decide +kernel
theorem d_Mod_pair_125 : decode b_Mod_pair 125 = .ok (.sipush 232, 3) := by decide +kernel
theorem d_Mod_pair_128 : decode b_Mod_pair 128 = .ok (.goto 39, 3) := by decide +kernel
theorem d_Mod_pair_131 : decode b_Mod_pair 131 = .ok (.iload_n 2, 1) := by decide +kernel
theorem d_Mod_pair_132 : decode b_Mod_pair 132 = .ok (.iconst 2, 1) := by decide +kernel
theorem d_Mod_pair_133 : decode b_Mod_pair 133 = .ok (.if_icmp .ne 9, 3) := by decide +kernel
theorem d_Mod_pair_136 : decode b_Mod_pair 136 = .ok (.sipush 236, 3) := by decide +kernel
theorem d_Mod_pair_139 : decode b_Mod_pair 139 = .ok (.goto 28, 3) := by decide +kernel
theorem d_Mod_pair_142 : decode b_Mod_pair 142 = .ok (.iload_n 2, 1) := by decide +kernel
theorem d_Mod_pair_143 : decode b_Mod_pair 143 = .ok (.iconst 3, 1) := by decide +kernel
theorem d_Mod_pair_144 : decode b_Mod_pair 144 = .ok (.if_icmp .ne 9, 3) := by decide +kernel
theorem d_Mod_pair_147 : decode b_Mod_pair 147 = .ok (.sipush 242, 3) := by decide +kernel
theorem d_Mod_pair_150 : decode b_Mod_pair 150 = .ok (.goto 17, 3) := by decide +kernel
theorem d_Mod_pair_153 : decode b_Mod_pair 153 = .ok (.iload_n 2, 1) := by decide +kernel
theorem d_Mod_pair_154 : decode b_Mod_pair 154 = .ok (.iconst 4, 1) := by decide +kernel
theorem d_Mod_pair_155 : decode b_Mod_pair 155 = .ok (.if_icmp .ne 9, 3) := by decide +kernel
theorem d_Mod_pair_158 : decode b_Mod_pair 158 = .ok (.sipush 249, 3) := by decide +kernel
theorem d_Mod_pair_161 : decode b_Mod_pair 161 = .ok (.goto 6, 3) := by decide +kernel
theorem d_Mod_pair_164 : decode b_Mod_pair 164 = .ok (.sipush 252, 3) := by decide +kernel
theorem d_Mod_pair_167 : decode b_Mod_pair 167 = .ok (.istore_n 3, 1) := by decide +kernel
theorem d_Mod_pair_168 : decode b_Mod_pair 168 = .ok (.iload_n 1, 1) := by decide +kernel
theorem d_Mod_pair_169 : decode b_Mod_pair 169 = .ok (.sipush 768, 3) := by decide +kernel
theorem d_Mod_pair_172 : decode b_Mod_pair 172 = .ok (.if_icmp .ne 14, 3) := by decide +kernel
theorem d_Mod_pair_175 : decode b_Mod_pair 175 = .ok (.iload_n 2, 1) := by decide +kernel
theorem d_Mod_pair_176 : decode b_Mod_pair 176 = .ok (.iconst 5, 1) := by decide +kernel
theorem d_Mod_pair_177 : decode b_Mod_pair 177 = .ok (.if_icmp .ne 7, 3) := by decide +kernel
theorem d_Mod_pair_180 : decode b_Mod_pair 180 = .ok (.iconst 0, 1) := by decide +kernel
theorem d_Mod_pair_181 : decode b_Mod_pair 181 = .ok (.goto 4, 3) := by decide +kernel
theorem d_Mod_pair_184 : decode b_Mod_pair 184 = .ok (.iload_n 3, 1) := by decide +kernel
theorem d_Mod_pair_185 : decode b_Mod_pair 185 = .ok (.ireturn, 1) := by decide +kernel
theorem d_Mod_pair_186 : decode b_Mod_pair 186 = .ok (.iload_n 1, 1) := by decide +kernel
theorem d_Mod_pair_187 : decode b_Mod_pair 187 = .ok (.sipush 769, 3) := by decide +kernel
theorem d_Mod_pair_190 : decode b_Mod_pair 190 = .ok (.if_icmp .ne 7, 3) := by decide +kernel
theorem d_Mod_pair_193 : decode b_Mod_pair 193 = .ok (.iload_n 3, 1) := by decide +kernel
theorem d_Mod_pair_194 : decode b_Mod_pair 194 = .ok (.iconst 1, 1) := by decide +kernel
theorem d_Mod_pair_195 : decode b_Mod_pair 195 = .ok (.iadd, 1) := by decide +kernel
theorem d_Mod_pair_196 : decode b_Mod_pair 196 = .ok (.ireturn, 1) := by decide +kernel
theorem d_Mod_pair_197 : decode b_Mod_pair 197 = .ok (.iload_n 2, 1) := by decide +kernel
theorem d_Mod_pair_198 : decode b_Mod_pair 198 = .ok (.ifCond .ne 9, 3) := by decide +kernel
theorem d_Mod_pair_201 : decode b_Mod_pair 201 = .ok (.sipush 228, 3) := by decide +kernel
theorem d_Mod_pair_204 : decode b_Mod_pair 204 = .ok (.goto 50, 3) := by decide +kernel
theorem d_Mod_pair_207 : decode b_Mod_pair 207 = .ok (.iload_n 2, 1) := by decide +kernel
theorem d_Mod_pair_208 : decode b_Mod_pair 208 = .ok (.iconst 1, 1) := by decide +kernel
theorem d_Mod_pair_209 : decode b_Mod_pair 209 = .ok (.if_icmp .ne 9, 3) := by decide +kernel
theorem d_Mod_pair_212 : decode b_Mod_pair 212 = .ok (.sipush 235, 3) := by decide +kernel
theorem d_Mod_pair_215 : decode b_Mod_pair 215 = .ok (.goto 39, 3) := by decide +kernel
theorem d_Mod_pair_218 : decode b_Mod_pair 218 = .ok (.iload_n 2, 1) := by decide +kernel
theorem d_Mod_pair_219 : decode b_Mod_pair 219 = .ok (.iconst 2, 1) := by decide +kernel
theorem d_Mod_pair_220 : decode b_Mod_pair 220 = .ok (.if_icmp .ne 9, 3) := by decide +kernel
theorem d_Mod_pair_223 : decode b_Mod_pair 223 = .ok (.sipush 239, 3) := by decide +kernel
theorem d_Mod_pair_226 : decode b_Mod_pair 226 = .ok (.goto 28, 3) := by decide +kernel
theorem d_Mod_pair_229 : decode b_Mod_pair 229 = .ok (.iload_n 2, 1) := by decide +kernel
theorem d_Mod_pair_230 : decode b_Mod_pair 230 = .ok (.iconst 3, 1) := by decide +kernel
theorem d_Mod_pair_231 : decode b_Mod_pair 231 = .ok (.if_icmp .ne 9, 3) := by decide +kernel
theorem d_Mod_pair_234 : decode b_Mod_pair 234 = .ok (.sipush 246, 3) := by decide +kernel
theorem d_Mod_pair_237 : decode b_Mod_pair 237 = .ok (.goto 17, 3) := by decide +kernel
theorem d_Mod_pair_240 : decode b_Mod_pair 240 = .ok (.iload_n 2, 1) := by decide +kernel
theorem d_Mod_pair_241 : decode b_Mod_pair 241 = .ok (.iconst 4, 1) := by decide +kernel
theorem d_Mod_pair_242 : decode b_Mod_pair 242 = .ok (.if_icmp .ne 9, 3) := by decide +kernel
theorem d_Mod_pair_245 : decode b_Mod_pair 245 = .ok (.sipush 252, 3) := by decide +kernel
theorem d_Mod_pair_248 : decode b_Mod_pair 248 = .ok (.goto 6, 3) := by decide +kernel
theorem d_Mod_pair_251 : decode b_Mod_pair 251 = .ok (.sipush 255, 3) := by decide +kernel
theorem d_Mod_pair_254 : decode b_Mod_pair 254 = .ok (.ireturn, 1) := by decide +kernel
theorem d_Mod_letterOf_0 : decode b_Mod_letterOf 0 = .ok (.iconst 0, 1) := by decide +kernel
theorem d_Mod_letterOf_1 : decode b_Mod_letterOf 1 = .ok (.istore_n 1, 1) := by decide +kernel
theorem d_Mod_letterOf_2 : decode b_Mod_letterOf 2 = .ok (.bipush 97, 2) := by decide +kernel
theorem d_Mod_letterOf_4 : decode b_Mod_letterOf 4 = .ok (.istore_n 2, 1) := by decide +kernel
theorem d_Mod_letterOf_5 : decode b_Mod_letterOf 5 = .ok (.iload_n 2, 1) := by decide +kernel
theorem d_Mod_letterOf_6 : decode b_Mod_letterOf 6 = .ok (.bipush 121, 2) := by decide +kernel
theorem d_Mod_letterOf_8 : decode b_Mod_letterOf 8 = .ok (.if_icmp .gt 73, 3) := by decide +kernel
theorem d_Mod_letterOf_11 : decode b_Mod_letterOf 11 = .ok (.iload_n 2, 1) := by decide +kernel
theorem d_Mod_letterOf_12 : decode b_Mod_letterOf 12 = .ok (.sipush 768, 3) := by decide +kernel
theorem d_Mod_letterOf_15 : decode b_Mod_letterOf 15 = .ok (.invokestatic 57, 3) := by decide +kernel
theorem d_Mod_letterOf_18 : decode b_Mod_letterOf 18 = .ok (.iload_n 0, 1) := by decide +kernel
theorem d_Mod_letterOf_19 : decode b_Mod_letterOf 19 = .ok (.if_icmp .eq 36, 3) := by decide +kernel
theorem d_Mod_letterOf_22 : decode b_Mod_letterOf 22 = .ok (.iload_n 2, 1) := by decide +kernel
theorem d_Mod_letterOf_23 : decode b_Mod_letterOf 23 = .ok (.sipush 769, 3) := by decide +kernel
theorem d_Mod_letterOf_26 : decode b_Mod_letterOf 26 = .ok (.invokestatic 57, 3) := by decide +kernel
theorem d_Mod_letterOf_29 : decode b_Mod_letterOf 29 = .ok (.iload_n 0, 1) := by decide +kernel
theorem d_Mod_letterOf_30 : decode b_Mod_letterOf 30 = .ok (.if_icmp .eq 25, 3) := by decide +kernel
theorem d_Mod_letterOf_33 : decode b_Mod_letterOf 33 = .ok (.iload_n 2, 1) := by decide +kernel
theorem d_Mod_letterOf_34 : decode b_Mod_letterOf 34 = .ok (.sipush 776, 3) := by decide +kernel
theorem d_Mod_letterOf_37 : decode b_Mod_letterOf 37 = .ok (.invokestatic 57, 3) := by decide +kernel
theorem d_Mod_letterOf_40 : decode b_Mod_letterOf 40 = .ok (.iload_n 0, 1) := by decide +kernel
theorem d_Mod_letterOf_41 : decode b_Mod_letterOf 41 = .ok (.if_icmp .eq 14, 3) := by decide +kernel
theorem d_Mod_letterOf_44 : decode b_Mod_letterOf 44 = .ok (.iload_n 2, 1) := by decide +kernel
theorem d_Mod_letterOf_45 : decode b_Mod_letterOf 45 = .ok (.sipush 807, 3) := by decide +kernel
theorem d_Mod_letterOf_48 : decode b_Mod_letterOf 48 = .ok (.invokestatic 57, 3) := by decide +kernel
theorem d_Mod_letterOf_51 : decode b_Mod_letterOf 51 = .ok (.iload_n 0, 1) := by decide +kernel
theorem d_Mod_letterOf_52 : decode b_Mod_letterOf 52 = .ok (.if_icmp .ne 7, 3) := by decide +kernel
theorem d_Mod_letterOf_55 : decode b_Mod_letterOf 55 = .ok (.iconst 1, 1) := by decide +kernel
theorem d_Mod_letterOf_56 : decode b_Mod_letterOf 56 = .ok (.goto 4, 3) := by decide +kernel
theorem d_Mod_letterOf_59 : decode b_Mod_letterOf 59 = .ok (.iconst 0, 1) := by decide +kernel
theorem d_Mod_letterOf_60 : decode b_Mod_letterOf 60 = .ok (.istore_n 3, 1) := by decide +kernel
theorem d_Mod_letterOf_61 : decode b_Mod_letterOf 61 = .ok (.iload_n 0, 1) := by decide +kernel
theorem d_Mod_letterOf_62 : decode b_Mod_letterOf 62 = .ok (.ifCond .le 11, 3) := by decide +kernel
theorem d_Mod_letterOf_65 : decode b_Mod_letterOf 65 = .ok (.iload_n 3, 1) := by decide +kernel
theorem d_Mod_letterOf_66 : decode b_Mod_letterOf 66 = .ok (.ifCond .eq 7, 3) := by decide +kernel
theorem d_Mod_letterOf_69 : decode b_Mod_letterOf 69 = .ok (.iload_n 2, 1) := by decide +kernel
theorem d_Mod_letterOf_70 : decode b_Mod_letterOf 70 = .ok (.goto 4, 3) := by decide +kernel
theorem d_Mod_letterOf_73 : decode b_Mod_letterOf 73 = .ok (.iload_n 1, 1) := by decide +kernel
theorem d_Mod_letterOf_74 : decode b_Mod_letterOf 74 = .ok (.istore_n 1, 1) := by decide +kernel
theorem d_Mod_letterOf_75 : decode b_Mod_letterOf 75 = .ok (.iinc 2 1, 3) := by decide +kernel
theorem d_Mod_letterOf_78 : decode b_Mod_letterOf 78 = .ok (.goto (-73), 3) := by decide +kernel
theorem d_Mod_letterOf_81 : decode b_Mod_letterOf 81 = .ok (.iload_n 1, 1) := by decide +kernel
theorem d_Mod_letterOf_82 : decode b_Mod_letterOf 82 = .ok (.ireturn, 1) := by decide +kernel
theorem d_Mod_markOf_0 : decode b_Mod_markOf 0 = .ok (.iload_n 0, 1) := by decide +kernel
theorem d_Mod_markOf_1 : decode b_Mod_markOf 1 = .ok (.invokestatic 61, 3) := by decide +kernel
theorem d_Mod_markOf_4 : decode b_Mod_markOf 4 = .ok (.istore_n 1, 1) := by decide +kernel
theorem d_Mod_markOf_5 : decode b_Mod_markOf 5 = .ok (.iload_n 1, 1) := by decide +kernel
theorem d_Mod_markOf_6 : decode b_Mod_markOf 6 = .ok (.sipush 768, 3) := by decide +kernel
theorem d_Mod_markOf_9 : decode b_Mod_markOf 9 = .ok (.invokestatic 57, 3) := by decide +kernel
theorem d_Mod_markOf_12 : decode b_Mod_markOf 12 = .ok (.iload_n 0, 1) := by decide +kernel
theorem d_Mod_markOf_13 : decode b_Mod_markOf 13 = .ok (.if_icmp .ne 9, 3) := by decide +kernel
theorem d_Mod_markOf_16 : decode b_Mod_markOf 16 = .ok (.sipush 768, 3) := by decide +kernel
theorem d_Mod_markOf_19 : decode b_Mod_markOf 19 = .ok (.goto 40, 3) := by decide +kernel
theorem d_Mod_markOf_22 : decode b_Mod_markOf 22 = .ok (.iload_n 1, 1) := by decide +kernel
theorem d_Mod_markOf_23 : decode b_Mod_markOf 23 = .ok (.sipush 769, 3) := by decide +kernel
theorem d_Mod_markOf_26 : decode b_Mod_markOf 26 = .ok (.invokestatic 57, 3) := by decide +kernel
theorem d_Mod_markOf_29 : decode b_Mod_markOf 29 = .ok (.iload_n 0, 1) := by decide +kernel
theorem d_Mod_markOf_30 : decode b_Mod_markOf 30 = .ok (.if_icmp .ne 9, 3) := by decide +kernel
theorem d_Mod_markOf_33 : decode b_Mod_markOf 33 = .ok (.sipush 769, 3) := by decide +kernel
theorem d_Mod_markOf_36 : decode b_Mod_markOf 36 = .ok (.goto 23, 3) := by decide +kernel
theorem d_Mod_markOf_39 : decode b_Mod_markOf 39 = .ok (.iload_n 1, 1) := by decide +kernel
theorem d_Mod_markOf_40 : decode b_Mod_markOf 40 = .ok (.sipush 776, 3) := by decide +kernel
theorem d_Mod_markOf_43 : decode b_Mod_markOf 43 = .ok (.invokestatic 57, 3) := by decide +kernel
theorem d_Mod_markOf_46 : decode b_Mod_markOf 46 = .ok (.iload_n 0, 1) := by decide +kernel
theorem d_Mod_markOf_47 : decode b_Mod_markOf 47 = .ok (.if_icmp .ne 9, 3) := by decide +kernel
theorem d_Mod_markOf_50 : decode b_Mod_markOf 50 = .ok (.sipush 776, 3) := by decide +kernel
theorem d_Mod_markOf_53 : decode b_Mod_markOf 53 = .ok (.goto 6, 3) := by decide +kernel
theorem d_Mod_markOf_56 : decode b_Mod_markOf 56 = .ok (.sipush 807, 3) := by decide +kernel
theorem d_Mod_markOf_59 : decode b_Mod_markOf 59 = .ok (.ireturn, 1) := by decide +kernel
theorem d_Mod_takeApart_0 : decode b_Mod_takeApart 0 = .ok (.iconst 0, 1) := by decide +kernel
theorem d_Mod_takeApart_1 : decode b_Mod_takeApart 1 = .ok (.istore_n 1, 1) := by decide +kernel
theorem d_Mod_takeApart_2 : decode b_Mod_takeApart 2 = .ok (.iconst 0, 1) := by decide +kernel
theorem d_Mod_takeApart_3 : decode b_Mod_takeApart 3 = .ok (.istore_n 2, 1) := by decide +kernel
theorem d_Mod_takeApart_4 : decode b_Mod_takeApart 4 = .ok (.iload_n 2, 1) := by decide +kernel
theorem d_Mod_takeApart_5 : decode b_Mod_takeApart 5 = .ok (.aload_n 0, 1) := by decide +kernel
theorem d_Mod_takeApart_6 : decode b_Mod_takeApart 6 = .ok (.getfield 64, 3) := by decide +kernel
theorem d_Mod_takeApart_9 : decode b_Mod_takeApart 9 = .ok (.if_icmp .ge 64, 3) := by decide +kernel
theorem d_Mod_takeApart_12 : decode b_Mod_takeApart 12 = .ok (.aload_n 0, 1) := by decide +kernel
theorem d_Mod_takeApart_13 : decode b_Mod_takeApart 13 = .ok (.getfield 16, 3) := by decide +kernel
theorem d_Mod_takeApart_16 : decode b_Mod_takeApart 16 = .ok (.iload_n 2, 1) := by decide +kernel
theorem d_Mod_takeApart_17 : decode b_Mod_takeApart 17 = .ok (.iaload, 1) := by decide +kernel
theorem d_Mod_takeApart_18 : decode b_Mod_takeApart 18 = .ok (.invokestatic 61, 3) := by decide +kernel
theorem d_Mod_takeApart_21 : decode b_Mod_takeApart 21 = .ok (.istore_n 3, 1) := by decide +kernel
theorem d_Mod_takeApart_22 : decode b_Mod_takeApart 22 = .ok (.aload_n 0, 1) := by decide +kernel
theorem d_Mod_takeApart_23 : decode b_Mod_takeApart 23 = .ok (.getfield 19, 3) := by decide +kernel
theorem d_Mod_takeApart_26 : decode b_Mod_takeApart 26 = .ok (.iload_n 1, 1) := by decide +kernel
theorem d_Mod_takeApart_27 : decode b_Mod_takeApart 27 = .ok (.iload_n 3, 1) := by decide +kernel
theorem d_Mod_takeApart_28 : decode b_Mod_takeApart 28 = .ok (.ifCond .le 7, 3) := by decide +kernel
theorem d_Mod_takeApart_31 : decode b_Mod_takeApart 31 = .ok (.iload_n 3, 1) := by decide +kernel
theorem d_Mod_takeApart_32 : decode b_Mod_takeApart 32 = .ok (.goto 9, 3) := by decide +kernel
theorem d_Mod_takeApart_35 : decode b_Mod_takeApart 35 = .ok (.aload_n 0, 1) := by decide +kernel
theorem d_Mod_takeApart_36 : decode b_Mod_takeApart 36 = .ok (.getfield 16, 3) := by decide +kernel
theorem d_Mod_takeApart_39 : decode b_Mod_takeApart 39 = .ok (.iload_n 2, 1) := by decide +kernel
theorem d_Mod_takeApart_40 : decode b_Mod_takeApart 40 = .ok (.iaload, 1) := by decide +kernel
theorem d_Mod_takeApart_41 : decode b_Mod_takeApart 41 = .ok (.iastore, 1) := by decide +kernel
theorem d_Mod_takeApart_42 : decode b_Mod_takeApart 42 = .ok (.iinc 1 1, 3) := by decide +kernel
theorem d_Mod_takeApart_45 : decode b_Mod_takeApart 45 = .ok (.iload_n 3, 1) := by decide +kernel
theorem d_Mod_takeApart_46 : decode b_Mod_takeApart 46 = .ok (.ifCond .le 21, 3) := by decide +kernel
theorem d_Mod_takeApart_49 : decode b_Mod_takeApart 49 = .ok (.aload_n 0, 1) := by decide +kernel
theorem d_Mod_takeApart_50 : decode b_Mod_takeApart 50 = .ok (.getfield 19, 3) := by decide +kernel
theorem d_Mod_takeApart_53 : decode b_Mod_takeApart 53 = .ok (.iload_n 1, 1) := by decide +kernel
theorem d_Mod_takeApart_54 : decode b_Mod_takeApart 54 = .ok (.aload_n 0, 1) := by decide +kernel
theorem d_Mod_takeApart_55 : decode b_Mod_takeApart 55 = .ok (.getfield 16, 3) := by decide +kernel
theorem d_Mod_takeApart_58 : decode b_Mod_takeApart 58 = .ok (.iload_n 2, 1) := by decide +kernel
theorem d_Mod_takeApart_59 : decode b_Mod_takeApart 59 = .ok (.iaload, 1) := by decide +kernel
theorem d_Mod_takeApart_60 : decode b_Mod_takeApart 60 = .ok (.invokestatic 68, 3) := by decide +kernel
theorem d_Mod_takeApart_63 : decode b_Mod_takeApart 63 = .ok (.iastore, 1) := by decide +kernel
theorem d_Mod_takeApart_64 : decode b_Mod_takeApart 64 = .ok (.iinc 1 1, 3) := by decide +kernel
theorem d_Mod_takeApart_67 : decode b_Mod_takeApart 67 = .ok (.iinc 2 1, 3) := by decide +kernel
theorem d_Mod_takeApart_70 : decode b_Mod_takeApart 70 = .ok (.goto (-66), 3) := by decide +kernel
theorem d_Mod_takeApart_73 : decode b_Mod_takeApart 73 = .ok (.iconst 0, 1) := by decide +kernel
theorem d_Mod_takeApart_74 : decode b_Mod_takeApart 74 = .ok (.istore_n 2, 1) := by decide +kernel
theorem d_Mod_takeApart_75 : decode b_Mod_takeApart 75 = .ok (.iload_n 2, 1) := by decide +kernel
theorem d_Mod_takeApart_76 : decode b_Mod_takeApart 76 = .ok (.iload_n 1, 1) := by decide +kernel
theorem d_Mod_takeApart_77 : decode b_Mod_takeApart 77 = .ok (.if_icmp .ge 80, 3) := by decide +kernel
theorem d_Mod_takeApart_80 : decode b_Mod_takeApart 80 = .ok (.aload_n 0, 1) := by decide +kernel
theorem d_Mod_takeApart_81 : decode b_Mod_takeApart 81 = .ok (.getfield 19, 3) := by decide +kernel
theorem d_Mod_takeApart_84 : decode b_Mod_takeApart 84 = .ok (.iload_n 2, 1) := by decide +kernel
theorem d_Mod_takeApart_85 : decode b_Mod_takeApart 85 = .ok (.iaload, 1) := by decide +kernel
theorem d_Mod_takeApart_86 : decode b_Mod_takeApart 86 = .ok (.istore_n 3, 1) := by decide +kernel
theorem d_Mod_takeApart_87 : decode b_Mod_takeApart 87 = .ok (.iload_n 2, 1) := by decide +kernel
theorem d_Mod_takeApart_88 : decode b_Mod_takeApart 88 = .ok (.istore 4, 2) := by decide +kernel
theorem d_Mod_takeApart_90 : decode b_Mod_takeApart 90 = .ok (.iload 4, 2) := by decide +kernel
theorem d_Mod_takeApart_92 : decode b_Mod_takeApart 92 = .ok (.ifCond .le 51, 3) := by decide +kernel
theorem d_Mod_takeApart_95 : decode b_Mod_takeApart 95 = .ok (.iload_n 3, 1) := by decide +kernel
theorem d_Mod_takeApart_96 : decode b_Mod_takeApart 96 = .ok (.invokestatic 45, 3) := by decide +kernel
theorem d_Mod_takeApart_99 : decode b_Mod_takeApart 99 = .ok (.ifCond .le 44, 3) := by decide +kernel
theorem d_Mod_takeApart_102 : decode b_Mod_takeApart 102 = .ok (.aload_n 0, 1) := by decide +kernel
theorem d_Mod_takeApart_103 : decode b_Mod_takeApart 103 = .ok (.getfield 19, 3) := by decide +kernel
theorem d_Mod_takeApart_106 : decode b_Mod_takeApart 106 = .ok (.iload 4, 2) := by decide +kernel
theorem d_Mod_takeApart_108 : decode b_Mod_takeApart 108 = .ok (.iconst 1, 1) := by decide +kernel
theorem d_Mod_takeApart_109 : decode b_Mod_takeApart 109 = .ok (.isub, 1) := by decide +kernel
theorem d_Mod_takeApart_110 : decode b_Mod_takeApart 110 = .ok (.iaload, 1) := by decide +kernel
theorem d_Mod_takeApart_111 : decode b_Mod_takeApart 111 = .ok (.invokestatic 45, 3) := by decide +kernel
theorem d_Mod_takeApart_114 : decode b_Mod_takeApart 114 = .ok (.iload_n 3, 1) := by decide +kernel
theorem d_Mod_takeApart_115 : decode b_Mod_takeApart 115 = .ok (.invokestatic 45, 3) := by decide +kernel
theorem d_Mod_takeApart_118 : decode b_Mod_takeApart 118 = .ok (.if_icmp .le 25, 3) := by decide +kernel
theorem d_Mod_takeApart_121 : decode b_Mod_takeApart 121 = .ok (.aload_n 0, 1) := by decide +kernel
theorem d_Mod_takeApart_122 : decode b_Mod_takeApart 122 = .ok (.getfield 19, 3) := by decide +kernel
theorem d_Mod_takeApart_125 : decode b_Mod_takeApart 125 = .ok (.iload 4, 2) := by decide +kernel
theorem d_Mod_takeApart_127 : decode b_Mod_takeApart 127 = .ok (.aload_n 0, 1) := by decide +kernel
theorem d_Mod_takeApart_128 : decode b_Mod_takeApart 128 = .ok (.getfield 19, 3) := by decide +kernel
theorem d_Mod_takeApart_131 : decode b_Mod_takeApart 131 = .ok (.iload 4, 2) := by decide +kernel
theorem d_Mod_takeApart_133 : decode b_Mod_takeApart 133 = .ok (.iconst 1, 1) := by decide +kernel
theorem d_Mod_takeApart_134 : decode b_Mod_takeApart 134 = .ok (.isub, 1) := by decide +kernel
theorem d_Mod_takeApart_135 : decode b_Mod_takeApart 135 = .ok (.iaload, 1) := by decide +kernel
theorem d_Mod_takeApart_136 : decode b_Mod_takeApart 136 = .ok (.iastore, 1) := by decide +kernel
theorem d_Mod_takeApart_137 : decode b_Mod_takeApart 137 = .ok (.iinc 4 ( -1), 3) := by decide +kernel
theorem d_Mod_takeApart_140 : decode b_Mod_takeApart 140 = .ok (.goto (-50), 3) := by decide +kernel
theorem d_Mod_takeApart_143 : decode b_Mod_takeApart 143 = .ok (.aload_n 0, 1) := by decide +kernel
theorem d_Mod_takeApart_144 : decode b_Mod_takeApart 144 = .ok (.getfield 19, 3) := by decide +kernel
theorem d_Mod_takeApart_147 : decode b_Mod_takeApart 147 = .ok (.iload 4, 2) := by decide +kernel
theorem d_Mod_takeApart_149 : decode b_Mod_takeApart 149 = .ok (.iload_n 3, 1) := by decide +kernel
theorem d_Mod_takeApart_150 : decode b_Mod_takeApart 150 = .ok (.iastore, 1) := by decide +kernel
theorem d_Mod_takeApart_151 : decode b_Mod_takeApart 151 = .ok (.iinc 2 1, 3) := by decide +kernel
theorem d_Mod_takeApart_154 : decode b_Mod_takeApart 154 = .ok (.goto (-79), 3) := by decide +kernel
theorem d_Mod_takeApart_157 : decode b_Mod_takeApart 157 = .ok (.aload_n 0, 1) := by decide +kernel
theorem d_Mod_takeApart_158 : decode b_Mod_takeApart 158 = .ok (.iload_n 1, 1) := by decide +kernel
theorem d_Mod_takeApart_159 : decode b_Mod_takeApart 159 = .ok (.putfield 64, 3) := by decide +kernel
theorem d_Mod_takeApart_162 : decode b_Mod_takeApart 162 = .ok (.return_, 1) := by decide +kernel
theorem d_Mod_composeRow_0 : decode b_Mod_composeRow 0 = .ok (.aload_n 0, 1) := by decide +kernel
theorem d_Mod_composeRow_1 : decode b_Mod_composeRow 1 = .ok (.invokevirtual 71, 3) := by decide +kernel
theorem d_Mod_composeRow_4 : decode b_Mod_composeRow 4 = .ok (.iconst 0, 1) := by decide +kernel
theorem d_Mod_composeRow_5 : decode b_Mod_composeRow 5 = .ok (.istore_n 1, 1) := by decide +kernel
theorem d_Mod_composeRow_6 : decode b_Mod_composeRow 6 = .ok (.iconst (-1), 1) := by decide +kernel
theorem d_Mod_composeRow_7 : decode b_Mod_composeRow 7 = .ok (.istore_n 2, 1) := by decide +kernel
theorem d_Mod_composeRow_8 : decode b_Mod_composeRow 8 = .ok (.iconst 0, 1) := by decide +kernel
theorem d_Mod_composeRow_9 : decode b_Mod_composeRow 9 = .ok (.istore_n 3, 1) := by decide +kernel
theorem d_Mod_composeRow_10 : decode b_Mod_composeRow 10 = .ok (.iload_n 3, 1) := by decide +kernel
theorem d_Mod_composeRow_11 : decode b_Mod_composeRow 11 = .ok (.aload_n 0, 1) := by decide +kernel
theorem d_Mod_composeRow_12 : decode b_Mod_composeRow 12 = .ok (.getfield 64, 3) := by decide +kernel
theorem d_Mod_composeRow_15 : decode b_Mod_composeRow 15 = .ok (.if_icmp .ge 146, 3) := by decide +kernel
theorem d_Mod_composeRow_18 : decode b_Mod_composeRow 18 = .ok (.aload_n 0, 1) := by decide +kernel
theorem d_Mod_composeRow_19 : decode b_Mod_composeRow 19 = .ok (.getfield 19, 3) := by decide +kernel
theorem d_Mod_composeRow_22 : decode b_Mod_composeRow 22 = .ok (.iload_n 3, 1) := by decide +kernel
theorem d_Mod_composeRow_23 : decode b_Mod_composeRow 23 = .ok (.iaload, 1) := by decide +kernel
theorem d_Mod_composeRow_24 : decode b_Mod_composeRow 24 = .ok (.istore 4, 2) := by decide +kernel
theorem d_Mod_composeRow_26 : decode b_Mod_composeRow 26 = .ok (.iload_n 2, 1) := by decide +kernel
theorem d_Mod_composeRow_27 : decode b_Mod_composeRow 27 = .ok (.ifCond .lt 15, 3) := by decide +kernel
theorem d_Mod_composeRow_30 : decode b_Mod_composeRow 30 = .ok (.iload 4, 2) := by decide +kernel
theorem d_Mod_composeRow_32 : decode b_Mod_composeRow 32 = .ok (.invokestatic 45, 3) := by decide +kernel
theorem d_Mod_composeRow_35 : decode b_Mod_composeRow 35 = .ok (.ifCond .le 7, 3) := by decide +kernel
theorem d_Mod_composeRow_38 : decode b_Mod_composeRow 38 = .ok (.iconst 1, 1) := by decide +kernel
theorem d_Mod_composeRow_39 : decode b_Mod_composeRow 39 = .ok (.goto 4, 3) := by decide +kernel
theorem d_Mod_composeRow_42 : decode b_Mod_composeRow 42 = .ok (.iconst 0, 1) := by decide +kernel
theorem d_Mod_composeRow_43 : decode b_Mod_composeRow 43 = .ok (.istore 5, 2) := by decide +kernel
theorem d_Mod_composeRow_45 : decode b_Mod_composeRow 45 = .ok (.iload_n 2, 1) := by decide +kernel
theorem d_Mod_composeRow_46 : decode b_Mod_composeRow 46 = .ok (.iconst 1, 1) := by decide +kernel
theorem d_Mod_composeRow_47 : decode b_Mod_composeRow 47 = .ok (.iadd, 1) := by decide +kernel
theorem d_Mod_composeRow_48 : decode b_Mod_composeRow 48 = .ok (.istore 6, 2) := by decide +kernel
theorem d_Mod_composeRow_50 : decode b_Mod_composeRow 50 = .ok (.iload 6, 2) := by decide +kernel
theorem d_Mod_composeRow_52 : decode b_Mod_composeRow 52 = .ok (.iload_n 1, 1) := by decide +kernel
theorem d_Mod_composeRow_53 : decode b_Mod_composeRow 53 = .ok (.if_icmp .ge 39, 3) := by decide +kernel
theorem d_Mod_composeRow_56 : decode b_Mod_composeRow 56 = .ok (.iload 5, 2) := by decide +kernel
theorem d_Mod_composeRow_58 : decode b_Mod_composeRow 58 = .ok (.ifCond .eq 25, 3) := by decide +kernel
theorem d_Mod_composeRow_61 : decode b_Mod_composeRow 61 = .ok (.aload_n 0, 1) := by decide +kernel
theorem d_Mod_composeRow_62 : decode b_Mod_composeRow 62 = .ok (.getfield 16, 3) := by decide +kernel
theorem d_Mod_composeRow_65 : decode b_Mod_composeRow 65 = .ok (.iload 6, 2) := by decide +kernel
theorem d_Mod_composeRow_67 : decode b_Mod_composeRow 67 = .ok (.iaload, 1) := by decide +kernel
theorem d_Mod_composeRow_68 : decode b_Mod_composeRow 68 = .ok (.invokestatic 45, 3) := by decide +kernel
theorem d_Mod_composeRow_71 : decode b_Mod_composeRow 71 = .ok (.iload 4, 2) := by decide +kernel
theorem d_Mod_composeRow_73 : decode b_Mod_composeRow 73 = .ok (.invokestatic 45, 3) := by decide +kernel
theorem d_Mod_composeRow_76 : decode b_Mod_composeRow 76 = .ok (.if_icmp .ge 7, 3) := by decide +kernel
theorem d_Mod_composeRow_79 : decode b_Mod_composeRow 79 = .ok (.iconst 1, 1) := by decide +kernel
theorem d_Mod_composeRow_80 : decode b_Mod_composeRow 80 = .ok (.goto 4, 3) := by decide +kernel
theorem d_Mod_composeRow_83 : decode b_Mod_composeRow 83 = .ok (.iconst 0, 1) := by decide +kernel
theorem d_Mod_composeRow_84 : decode b_Mod_composeRow 84 = .ok (.istore 5, 2) := by decide +kernel
theorem d_Mod_composeRow_86 : decode b_Mod_composeRow 86 = .ok (.iinc 6 1, 3) := by decide +kernel
theorem d_Mod_composeRow_89 : decode b_Mod_composeRow 89 = .ok (.goto (-39), 3) := by decide +kernel
theorem d_Mod_composeRow_92 : decode b_Mod_composeRow 92 = .ok (.iload 5, 2) := by decide +kernel
theorem d_Mod_composeRow_94 : decode b_Mod_composeRow 94 = .ok (.ifCond .eq 17, 3) := by decide +kernel
theorem d_Mod_composeRow_97 : decode b_Mod_composeRow 97 = .ok (.aload_n 0, 1) := by decide +kernel
theorem d_Mod_composeRow_98 : decode b_Mod_composeRow 98 = .ok (.getfield 16, 3) := by decide +kernel
theorem d_Mod_composeRow_101 : decode b_Mod_composeRow 101 = .ok (.iload_n 2, 1) := by decide +kernel
theorem d_Mod_composeRow_102 : decode b_Mod_composeRow 102 = .ok (.iaload, 1) := by decide +kernel
theorem d_Mod_composeRow_103 : decode b_Mod_composeRow 103 = .ok (.iload 4, 2) := by decide +kernel
theorem d_Mod_composeRow_105 : decode b_Mod_composeRow 105 = .ok (.invokestatic 57, 3) := by decide +kernel
theorem d_Mod_composeRow_108 : decode b_Mod_composeRow 108 = .ok (.goto 4, 3) := by decide +kernel
theorem d_Mod_composeRow_111 : decode b_Mod_composeRow 111 = .ok (.iconst 0, 1) := by decide +kernel
theorem d_Mod_composeRow_112 : decode b_Mod_composeRow 112 = .ok (.istore 6, 2) := by decide +kernel
theorem d_Mod_composeRow_114 : decode b_Mod_composeRow 114 = .ok (.iload 6, 2) := by decide +kernel
theorem d_Mod_composeRow_116 : decode b_Mod_composeRow 116 = .ok (.ifCond .le 14, 3) := by decide +kernel
theorem d_Mod_composeRow_119 : decode b_Mod_composeRow 119 = .ok (.aload_n 0, 1) := by decide +kernel
theorem d_Mod_composeRow_120 : decode b_Mod_composeRow 120 = .ok (.getfield 16, 3) := by decide +kernel
theorem d_Mod_composeRow_123 : decode b_Mod_composeRow 123 = .ok (.iload_n 2, 1) := by decide +kernel
theorem d_Mod_composeRow_124 : decode b_Mod_composeRow 124 = .ok (.iload 6, 2) := by decide +kernel
theorem d_Mod_composeRow_126 : decode b_Mod_composeRow 126 = .ok (.iastore, 1) := by decide +kernel
theorem d_Mod_composeRow_127 : decode b_Mod_composeRow 127 = .ok (.goto 28, 3) := by decide +kernel
theorem d_Mod_composeRow_130 : decode b_Mod_composeRow 130 = .ok (.iload 4, 2) := by decide +kernel
theorem d_Mod_composeRow_132 : decode b_Mod_composeRow 132 = .ok (.invokestatic 45, 3) := by decide +kernel
theorem d_Mod_composeRow_135 : decode b_Mod_composeRow 135 = .ok (.ifCond .ne 7, 3) := by decide +kernel
theorem d_Mod_composeRow_138 : decode b_Mod_composeRow 138 = .ok (.iload_n 1, 1) := by decide +kernel
theorem d_Mod_composeRow_139 : decode b_Mod_composeRow 139 = .ok (.goto 4, 3) := by decide +kernel
theorem d_Mod_composeRow_142 : decode b_Mod_composeRow 142 = .ok (.iload_n 2, 1) := by decide +kernel
theorem d_Mod_composeRow_143 : decode b_Mod_composeRow 143 = .ok (.istore_n 2, 1) := by decide +kernel
theorem d_Mod_composeRow_144 : decode b_Mod_composeRow 144 = .ok (.aload_n 0, 1) := by decide +kernel
theorem d_Mod_composeRow_145 : decode b_Mod_composeRow 145 = .ok (.getfield 16, 3) := by decide +kernel
theorem d_Mod_composeRow_148 : decode b_Mod_composeRow 148 = .ok (.iload_n 1, 1) := by decide +kernel
theorem d_Mod_composeRow_149 : decode b_Mod_composeRow 149 = .ok (.iload 4, 2) := by decide +kernel
theorem d_Mod_composeRow_151 : decode b_Mod_composeRow 151 = .ok (.iastore, 1) := by decide +kernel
theorem d_Mod_composeRow_152 : decode b_Mod_composeRow 152 = .ok (.iinc 1 1, 3) := by decide +kernel
theorem d_Mod_composeRow_155 : decode b_Mod_composeRow 155 = .ok (.iinc 3 1, 3) := by decide +kernel
theorem d_Mod_composeRow_158 : decode b_Mod_composeRow 158 = .ok (.goto (-148), 3) := by decide +kernel
theorem d_Mod_composeRow_161 : decode b_Mod_composeRow 161 = .ok (.aload_n 0, 1) := by decide +kernel
theorem d_Mod_composeRow_162 : decode b_Mod_composeRow 162 = .ok (.iload_n 1, 1) := by decide +kernel
theorem d_Mod_composeRow_163 : decode b_Mod_composeRow 163 = .ok (.putfield 64, 3) := by decide +kernel
theorem d_Mod_composeRow_166 : decode b_Mod_composeRow 166 = .ok (.return_, 1) := by decide +kernel
theorem d_Mod_adapt_0 : decode b_Mod_adapt 0 = .ok (.iload_n 3, 1) := by decide +kernel
theorem d_Mod_adapt_1 : decode b_Mod_adapt 1 = .ok (.ifCond .eq 11, 3) := by decide +kernel
theorem d_Mod_adapt_4 : decode b_Mod_adapt 4 = .ok (.iload_n 1, 1) := by decide +kernel
theorem d_Mod_adapt_5 : decode b_Mod_adapt 5 = .ok (.sipush 700, 3) := by decide +kernel
theorem d_Mod_adapt_8 : decode b_Mod_adapt 8 = .ok (.idiv, 1) := by decide +kernel
theorem d_Mod_adapt_9 : decode b_Mod_adapt 9 = .ok (.goto 6, 3) := by decide +kernel
theorem d_Mod_adapt_12 : decode b_Mod_adapt 12 = .ok (.iload_n 1, 1) := by decide +kernel
theorem d_Mod_adapt_13 : decode b_Mod_adapt 13 = .ok (.iconst 2, 1) := by decide +kernel
theorem d_Mod_adapt_14 : decode b_Mod_adapt 14 = .ok (.idiv, 1) := by decide +kernel
theorem d_Mod_adapt_15 : decode b_Mod_adapt 15 = .ok (.istore 4, 2) := by decide +kernel
theorem d_Mod_adapt_17 : decode b_Mod_adapt 17 = .ok (.iload 4, 2) := by decide +kernel
theorem d_Mod_adapt_19 : decode b_Mod_adapt 19 = .ok (.iload 4, 2) := by decide +kernel
theorem d_Mod_adapt_21 : decode b_Mod_adapt 21 = .ok (.iload_n 2, 1) := by decide +kernel
theorem d_Mod_adapt_22 : decode b_Mod_adapt 22 = .ok (.idiv, 1) := by decide +kernel
theorem d_Mod_adapt_23 : decode b_Mod_adapt 23 = .ok (.iadd, 1) := by decide +kernel
theorem d_Mod_adapt_24 : decode b_Mod_adapt 24 = .ok (.istore 4, 2) := by decide +kernel
theorem d_Mod_adapt_26 : decode b_Mod_adapt 26 = .ok (.iconst 0, 1) := by decide +kernel
theorem d_Mod_adapt_27 : decode b_Mod_adapt 27 = .ok (.istore 5, 2) := by decide +kernel
theorem d_Mod_adapt_29 : decode b_Mod_adapt 29 = .ok (.iload 4, 2) := by decide +kernel
theorem d_Mod_adapt_31 : decode b_Mod_adapt 31 = .ok (.sipush 455, 3) := by decide +kernel
theorem d_Mod_adapt_34 : decode b_Mod_adapt 34 = .ok (.if_icmp .le 20, 3) := by decide +kernel
theorem d_Mod_adapt_37 : decode b_Mod_adapt 37 = .ok (.iload 4, 2) := by decide +kernel
theorem d_Mod_adapt_39 : decode b_Mod_adapt 39 = .ok (.bipush 35, 2) := by decide +kernel
theorem d_Mod_adapt_41 : decode b_Mod_adapt 41 = .ok (.idiv, 1) := by decide +kernel
theorem d_Mod_adapt_42 : decode b_Mod_adapt 42 = .ok (.istore 4, 2) := by decide +kernel
theorem d_Mod_adapt_44 : decode b_Mod_adapt 44 = .ok (.iload 5, 2) := by decide +kernel
theorem d_Mod_adapt_46 : decode b_Mod_adapt 46 = .ok (.bipush 36, 2) := by decide +kernel
theorem d_Mod_adapt_48 : decode b_Mod_adapt 48 = .ok (.iadd, 1) := by decide +kernel
theorem d_Mod_adapt_49 : decode b_Mod_adapt 49 = .ok (.istore 5, 2) := by decide +kernel
theorem d_Mod_adapt_51 : decode b_Mod_adapt 51 = .ok (.goto (-22), 3) := by decide +kernel
theorem d_Mod_adapt_54 : decode b_Mod_adapt 54 = .ok (.aload_n 0, 1) := by decide +kernel
theorem d_Mod_adapt_55 : decode b_Mod_adapt 55 = .ok (.iload 5, 2) := by decide +kernel
theorem d_Mod_adapt_57 : decode b_Mod_adapt 57 = .ok (.bipush 36, 2) := by decide +kernel
theorem d_Mod_adapt_59 : decode b_Mod_adapt 59 = .ok (.iload 4, 2) := by decide +kernel
theorem d_Mod_adapt_61 : decode b_Mod_adapt 61 = .ok (.imul, 1) := by decide +kernel
theorem d_Mod_adapt_62 : decode b_Mod_adapt 62 = .ok (.iload 4, 2) := by decide +kernel
theorem d_Mod_adapt_64 : decode b_Mod_adapt 64 = .ok (.bipush 38, 2) := by decide +kernel
theorem d_Mod_adapt_66 : decode b_Mod_adapt 66 = .ok (.iadd, 1) := by decide +kernel
theorem d_Mod_adapt_67 : decode b_Mod_adapt 67 = .ok (.idiv, 1) := by decide +kernel
theorem d_Mod_adapt_68 : decode b_Mod_adapt 68 = .ok (.iadd, 1) := by decide +kernel
theorem d_Mod_adapt_69 : decode b_Mod_adapt 69 = .ok (.putfield 74, 3) := by decide +kernel
theorem d_Mod_adapt_72 : decode b_Mod_adapt 72 = .ok (.return_, 1) := by decide +kernel
theorem d_Mod_threshold_0 : decode b_Mod_threshold 0 = .ok (.iload_n 1, 1) := by decide +kernel
theorem d_Mod_threshold_1 : decode b_Mod_threshold 1 = .ok (.aload_n 0, 1) := by decide +kernel
theorem d_Mod_threshold_2 : decode b_Mod_threshold 2 = .ok (.getfield 74, 3) := by decide +kernel
theorem d_Mod_threshold_5 : decode b_Mod_threshold 5 = .ok (.isub, 1) := by decide +kernel
theorem d_Mod_threshold_6 : decode b_Mod_threshold 6 = .ok (.istore_n 2, 1) := by decide +kernel
theorem d_Mod_threshold_7 : decode b_Mod_threshold 7 = .ok (.iload_n 2, 1) := by decide +kernel
theorem d_Mod_threshold_8 : decode b_Mod_threshold 8 = .ok (.iconst 1, 1) := by decide +kernel
theorem d_Mod_threshold_9 : decode b_Mod_threshold 9 = .ok (.if_icmp .ge 7, 3) := by decide +kernel
theorem d_Mod_threshold_12 : decode b_Mod_threshold 12 = .ok (.iconst 1, 1) := by decide +kernel
theorem d_Mod_threshold_13 : decode b_Mod_threshold 13 = .ok (.goto 15, 3) := by decide +kernel
theorem d_Mod_threshold_16 : decode b_Mod_threshold 16 = .ok (.iload_n 2, 1) := by decide +kernel
theorem d_Mod_threshold_17 : decode b_Mod_threshold 17 = .ok (.bipush 26, 2) := by decide +kernel
theorem d_Mod_threshold_19 : decode b_Mod_threshold 19 = .ok (.if_icmp .le 8, 3) := by decide +kernel
theorem d_Mod_threshold_22 : decode b_Mod_threshold 22 = .ok (.bipush 26, 2) := by decide +kernel
theorem d_Mod_threshold_24 : decode b_Mod_threshold 24 = .ok (.goto 4, 3) := by decide +kernel
theorem d_Mod_threshold_27 : decode b_Mod_threshold 27 = .ok (.iload_n 2, 1) := by decide +kernel
theorem d_Mod_threshold_28 : decode b_Mod_threshold 28 = .ok (.ireturn, 1) := by decide +kernel
theorem d_Mod_out_0 : decode b_Mod_out 0 = .ok (.aload_n 0, 1) := by decide +kernel
theorem d_Mod_out_1 : decode b_Mod_out 1 = .ok (.getfield 13, 3) := by decide +kernel
theorem d_Mod_out_4 : decode b_Mod_out 4 = .ok (.aload_n 0, 1) := by decide +kernel
theorem d_Mod_out_5 : decode b_Mod_out 5 = .ok (.getfield 77, 3) := by decide +kernel
theorem d_Mod_out_8 : decode b_Mod_out 8 = .ok (.iload_n 1, 1) := by decide +kernel
theorem d_Mod_out_9 : decode b_Mod_out 9 = .ok (.iastore, 1) := by decide +kernel
theorem d_Mod_out_10 : decode b_Mod_out 10 = .ok (.aload_n 0, 1) := by decide +kernel
theorem d_Mod_out_11 : decode b_Mod_out 11 = .ok (.dup, 1) := by decide +kernel
theorem d_Mod_out_12 : decode b_Mod_out 12 = .ok (.getfield 77, 3) := by decide +kernel
theorem d_Mod_out_15 : decode b_Mod_out 15 = .ok (.iconst 1, 1) := by decide +kernel
theorem d_Mod_out_16 : decode b_Mod_out 16 = .ok (.iadd, 1) := by decide +kernel
theorem d_Mod_out_17 : decode b_Mod_out 17 = .ok (.putfield 77, 3) := by decide +kernel
theorem d_Mod_out_20 : decode b_Mod_out 20 = .ok (.return_, 1) := by decide +kernel
theorem d_Mod_outDigit_0 : decode b_Mod_outDigit 0 = .ok (.aload_n 0, 1) := by decide +kernel
theorem d_Mod_outDigit_1 : decode b_Mod_outDigit 1 = .ok (.iload_n 1, 1) := by decide +kernel
theorem d_Mod_outDigit_2 : decode b_Mod_outDigit 2 = .ok (.bipush 26, 2) := by decide +kernel
theorem d_Mod_outDigit_4 : decode b_Mod_outDigit 4 = .ok (.if_icmp .ge 10, 3) := by decide +kernel
theorem d_Mod_outDigit_7 : decode b_Mod_outDigit 7 = .ok (.bipush 97, 2) := by decide +kernel
theorem d_Mod_outDigit_9 : decode b_Mod_outDigit 9 = .ok (.iload_n 1, 1) := by decide +kernel
theorem d_Mod_outDigit_10 : decode b_Mod_outDigit 10 = .ok (.iadd, 1) := by decide +kernel
theorem d_Mod_outDigit_11 : decode b_Mod_outDigit 11 = .ok (.goto 7, 3) := by decide +kernel
theorem d_Mod_outDigit_14 : decode b_Mod_outDigit 14 = .ok (.bipush 22, 2) := by decide +kernel
theorem d_Mod_outDigit_16 : decode b_Mod_outDigit 16 = .ok (.iload_n 1, 1) := by decide +kernel
theorem d_Mod_outDigit_17 : decode b_Mod_outDigit 17 = .ok (.iadd, 1) := by decide +kernel
theorem d_Mod_outDigit_18 : decode b_Mod_outDigit 18 = .ok (.invokevirtual 80, 3) := by decide +kernel
theorem d_Mod_outDigit_21 : decode b_Mod_outDigit 21 = .ok (.return_, 1) := by decide +kernel
theorem d_Mod_outNumber_0 : decode b_Mod_outNumber 0 = .ok (.iload_n 1, 1) := by decide +kernel
theorem d_Mod_outNumber_1 : decode b_Mod_outNumber 1 = .ok (.istore_n 2, 1) := by decide +kernel
theorem d_Mod_outNumber_2 : decode b_Mod_outNumber 2 = .ok (.bipush 36, 2) := by decide +kernel
theorem d_Mod_outNumber_4 : decode b_Mod_outNumber 4 = .ok (.istore_n 3, 1) := by decide +kernel
theorem d_Mod_outNumber_5 : decode b_Mod_outNumber 5 = .ok (.aload_n 0, 1) := by decide +kernel
theorem d_Mod_outNumber_6 : decode b_Mod_outNumber 6 = .ok (.iload_n 3, 1) := by decide +kernel
theorem d_Mod_outNumber_7 : decode b_Mod_outNumber 7 = .ok (.invokevirtual 84, 3) := by decide +kernel
theorem d_Mod_outNumber_10 : decode b_Mod_outNumber 10 = .ok (.istore 4, 2) := by decide +kernel
theorem d_Mod_outNumber_12 : decode b_Mod_outNumber 12 = .ok (.iload_n 2, 1) := by decide +kernel
theorem d_Mod_outNumber_13 : decode b_Mod_outNumber 13 = .ok (.iload 4, 2) := by decide +kernel
theorem d_Mod_outNumber_15 : decode b_Mod_outNumber 15 = .ok (.if_icmp .lt 46, 3) := by decide +kernel
theorem d_Mod_outNumber_18 : decode b_Mod_outNumber 18 = .ok (.aload_n 0, 1) := by decide +kernel
theorem d_Mod_outNumber_19 : decode b_Mod_outNumber 19 = .ok (.iload 4, 2) := by decide +kernel
theorem d_Mod_outNumber_21 : decode b_Mod_outNumber 21 = .ok (.iload_n 2, 1) := by decide +kernel
theorem d_Mod_outNumber_22 : decode b_Mod_outNumber 22 = .ok (.iload 4, 2) := by decide +kernel
theorem d_Mod_outNumber_24 : decode b_Mod_outNumber 24 = .ok (.isub, 1) := by decide +kernel
theorem d_Mod_outNumber_25 : decode b_Mod_outNumber 25 = .ok (.bipush 36, 2) := by decide +kernel
theorem d_Mod_outNumber_27 : decode b_Mod_outNumber 27 = .ok (.iload 4, 2) := by decide +kernel
theorem d_Mod_outNumber_29 : decode b_Mod_outNumber 29 = .ok (.isub, 1) := by decide +kernel
theorem d_Mod_outNumber_30 : decode b_Mod_outNumber 30 = .ok (.irem, 1) := by decide +kernel
theorem d_Mod_outNumber_31 : decode b_Mod_outNumber 31 = .ok (.iadd, 1) := by decide +kernel
theorem d_Mod_outNumber_32 : decode b_Mod_outNumber 32 = .ok (.invokevirtual 87, 3) := by decide +kernel
theorem d_Mod_outNumber_35 : decode b_Mod_outNumber 35 = .ok (.iload_n 2, 1) := by decide +kernel
theorem d_Mod_outNumber_36 : decode b_Mod_outNumber 36 = .ok (.iload 4, 2) := by decide +kernel
theorem d_Mod_outNumber_38 : decode b_Mod_outNumber 38 = .ok (.isub, 1) := by decide +kernel
theorem d_Mod_outNumber_39 : decode b_Mod_outNumber 39 = .ok (.bipush 36, 2) := by decide +kernel
theorem d_Mod_outNumber_41 : decode b_Mod_outNumber 41 = .ok (.iload 4, 2) := by decide +kernel
theorem d_Mod_outNumber_43 : decode b_Mod_outNumber 43 = .ok (.isub, 1) := by decide +kernel
theorem d_Mod_outNumber_44 : decode b_Mod_outNumber 44 = .ok (.idiv, 1) := by decide +kernel
theorem d_Mod_outNumber_45 : decode b_Mod_outNumber 45 = .ok (.istore_n 2, 1) := by decide +kernel
theorem d_Mod_outNumber_46 : decode b_Mod_outNumber 46 = .ok (.iload_n 3, 1) := by decide +kernel
theorem d_Mod_outNumber_47 : decode b_Mod_outNumber 47 = .ok (.bipush 36, 2) := by decide +kernel
theorem d_Mod_outNumber_49 : decode b_Mod_outNumber 49 = .ok (.iadd, 1) := by decide +kernel
theorem d_Mod_outNumber_50 : decode b_Mod_outNumber 50 = .ok (.istore_n 3, 1) := by decide +kernel
theorem d_Mod_outNumber_51 : decode b_Mod_outNumber 51 = .ok (.aload_n 0, 1) := by decide +kernel
theorem d_Mod_outNumber_52 : decode b_Mod_outNumber 52 = .ok (.iload_n 3, 1) := by decide +kernel
theorem d_Mod_outNumber_53 : decode b_Mod_outNumber 53 = .ok (.invokevirtual 84, 3) := by decide +kernel
theorem d_Mod_outNumber_56 : decode b_Mod_outNumber 56 = .ok (.istore 4, 2) := by decide +kernel
theorem d_Mod_outNumber_58 : decode b_Mod_outNumber 58 = .ok (.goto (-46), 3) := by decide +kernel
theorem d_Mod_outNumber_61 : decode b_Mod_outNumber 61 = .ok (.aload_n 0, 1) := by decide +kernel
theorem d_Mod_outNumber_62 : decode b_Mod_outNumber 62 = .ok (.iload_n 2, 1) := by decide +kernel
theorem d_Mod_outNumber_63 : decode b_Mod_outNumber 63 = .ok (.invokevirtual 87, 3) := by decide +kernel
theorem d_Mod_outNumber_66 : decode b_Mod_outNumber 66 = .ok (.return_, 1) := by decide +kernel
theorem d_Mod_leastLeft_0 : decode b_Mod_leastLeft 0 = .ok (.iconst (-1), 1) := by decide +kernel
theorem d_Mod_leastLeft_1 : decode b_Mod_leastLeft 1 = .ok (.istore_n 1, 1) := by decide +kernel
theorem d_Mod_leastLeft_2 : decode b_Mod_leastLeft 2 = .ok (.aload_n 0, 1) := by decide +kernel
theorem d_Mod_leastLeft_3 : decode b_Mod_leastLeft 3 = .ok (.getfield 64, 3) := by decide +kernel
theorem d_Mod_leastLeft_6 : decode b_Mod_leastLeft 6 = .ok (.iconst 1, 1) := by decide +kernel
theorem d_Mod_leastLeft_7 : decode b_Mod_leastLeft 7 = .ok (.isub, 1) := by decide +kernel
theorem d_Mod_leastLeft_8 : decode b_Mod_leastLeft 8 = .ok (.istore_n 2, 1) := by decide +kernel
theorem d_Mod_leastLeft_9 : decode b_Mod_leastLeft 9 = .ok (.iload_n 2, 1) := by decide +kernel
theorem d_Mod_leastLeft_10 : decode b_Mod_leastLeft 10 = .ok (.ifCond .lt 43, 3) := by decide +kernel
theorem d_Mod_leastLeft_13 : decode b_Mod_leastLeft 13 = .ok (.aload_n 0, 1) := by decide +kernel
theorem d_Mod_leastLeft_14 : decode b_Mod_leastLeft 14 = .ok (.getfield 38, 3) := by decide +kernel
theorem d_Mod_leastLeft_17 : decode b_Mod_leastLeft 17 = .ok (.iload_n 2, 1) := by decide +kernel
theorem d_Mod_leastLeft_18 : decode b_Mod_leastLeft 18 = .ok (.baload, 1) := by decide +kernel
theorem d_Mod_leastLeft_19 : decode b_Mod_leastLeft 19 = .ok (.ifCond .ne 26, 3) := by decide +kernel
theorem d_Mod_leastLeft_22 : decode b_Mod_leastLeft 22 = .ok (.iload_n 1, 1) := by decide +kernel
theorem d_Mod_leastLeft_23 : decode b_Mod_leastLeft 23 = .ok (.ifCond .lt 18, 3) := by decide +kernel
theorem d_Mod_leastLeft_26 : decode b_Mod_leastLeft 26 = .ok (.aload_n 0, 1) := by decide +kernel
theorem d_Mod_leastLeft_27 : decode b_Mod_leastLeft 27 = .ok (.getfield 16, 3) := by decide +kernel
theorem d_Mod_leastLeft_30 : decode b_Mod_leastLeft 30 = .ok (.iload_n 2, 1) := by decide +kernel
theorem d_Mod_leastLeft_31 : decode b_Mod_leastLeft 31 = .ok (.iaload, 1) := by decide +kernel
theorem d_Mod_leastLeft_32 : decode b_Mod_leastLeft 32 = .ok (.aload_n 0, 1) := by decide +kernel
theorem d_Mod_leastLeft_33 : decode b_Mod_leastLeft 33 = .ok (.getfield 16, 3) := by decide +kernel
theorem d_Mod_leastLeft_36 : decode b_Mod_leastLeft 36 = .ok (.iload_n 1, 1) := by decide +kernel
theorem d_Mod_leastLeft_37 : decode b_Mod_leastLeft 37 = .ok (.iaload, 1) := by decide +kernel
theorem d_Mod_leastLeft_38 : decode b_Mod_leastLeft 38 = .ok (.if_icmp .gt 7, 3) := by decide +kernel
theorem d_Mod_leastLeft_41 : decode b_Mod_leastLeft 41 = .ok (.iload_n 2, 1) := by decide +kernel
theorem d_Mod_leastLeft_42 : decode b_Mod_leastLeft 42 = .ok (.goto 4, 3) := by decide +kernel
theorem d_Mod_leastLeft_45 : decode b_Mod_leastLeft 45 = .ok (.iload_n 1, 1) := by decide +kernel
theorem d_Mod_leastLeft_46 : decode b_Mod_leastLeft 46 = .ok (.istore_n 1, 1) := by decide +kernel
theorem d_Mod_leastLeft_47 : decode b_Mod_leastLeft 47 = .ok (.iinc 2 ( -1), 3) := by decide +kernel
theorem d_Mod_leastLeft_50 : decode b_Mod_leastLeft 50 = .ok (.goto (-41), 3) := by decide +kernel
theorem d_Mod_leastLeft_53 : decode b_Mod_leastLeft 53 = .ok (.iload_n 1, 1) := by decide +kernel
theorem d_Mod_leastLeft_54 : decode b_Mod_leastLeft 54 = .ok (.ireturn, 1) := by decide +kernel
theorem d_Mod_packRow_0 : decode b_Mod_packRow 0 = .ok (.iconst 0, 1) := by decide +kernel
theorem d_Mod_packRow_1 : decode b_Mod_packRow 1 = .ok (.istore_n 1, 1) := by decide +kernel
theorem d_Mod_packRow_2 : decode b_Mod_packRow 2 = .ok (.iconst 0, 1) := by decide +kernel
theorem d_Mod_packRow_3 : decode b_Mod_packRow 3 = .ok (.istore_n 2, 1) := by decide +kernel
theorem d_Mod_packRow_4 : decode b_Mod_packRow 4 = .ok (.iload_n 2, 1) := by decide +kernel
theorem d_Mod_packRow_5 : decode b_Mod_packRow 5 = .ok (.aload_n 0, 1) := by decide +kernel
theorem d_Mod_packRow_6 : decode b_Mod_packRow 6 = .ok (.getfield 64, 3) := by decide +kernel
theorem d_Mod_packRow_9 : decode b_Mod_packRow 9 = .ok (.if_icmp .ge 54, 3) := by decide +kernel
theorem d_Mod_packRow_12 : decode b_Mod_packRow 12 = .ok (.aload_n 0, 1) := by decide +kernel
theorem d_Mod_packRow_13 : decode b_Mod_packRow 13 = .ok (.getfield 38, 3) := by decide +kernel
theorem d_Mod_packRow_16 : decode b_Mod_packRow 16 = .ok (.iload_n 2, 1) := by decide +kernel
theorem d_Mod_packRow_17 : decode b_Mod_packRow 17 = .ok (.aload_n 0, 1) := by decide +kernel
theorem d_Mod_packRow_18 : decode b_Mod_packRow 18 = .ok (.getfield 16, 3) := by decide +kernel
theorem d_Mod_packRow_21 : decode b_Mod_packRow 21 = .ok (.iload_n 2, 1) := by decide +kernel
theorem d_Mod_packRow_22 : decode b_Mod_packRow 22 = .ok (.iaload, 1) := by decide +kernel
theorem d_Mod_packRow_23 : decode b_Mod_packRow 23 = .ok (.sipush 128, 3) := by decide +kernel
theorem d_Mod_packRow_26 : decode b_Mod_packRow 26 = .ok (.if_icmp .ge 7, 3) := by decide +kernel
theorem d_Mod_packRow_29 : decode b_Mod_packRow 29 = .ok (.iconst 1, 1) := by decide +kernel
theorem d_Mod_packRow_30 : decode b_Mod_packRow 30 = .ok (.goto 4, 3) := by decide +kernel
theorem d_Mod_packRow_33 : decode b_Mod_packRow 33 = .ok (.iconst 0, 1) := by decide +kernel
theorem d_Mod_packRow_34 : decode b_Mod_packRow 34 = .ok (.bastore, 1) := by decide +kernel
theorem d_Mod_packRow_35 : decode b_Mod_packRow 35 = .ok (.aload_n 0, 1) := by decide +kernel
theorem d_Mod_packRow_36 : decode b_Mod_packRow 36 = .ok (.getfield 38, 3) := by decide +kernel
theorem d_Mod_packRow_39 : decode b_Mod_packRow 39 = .ok (.iload_n 2, 1) := by decide +kernel
theorem d_Mod_packRow_40 : decode b_Mod_packRow 40 = .ok (.baload, 1) := by decide +kernel
theorem d_Mod_packRow_41 : decode b_Mod_packRow 41 = .ok (.ifCond .eq 16, 3) := by decide +kernel
theorem d_Mod_packRow_44 : decode b_Mod_packRow 44 = .ok (.aload_n 0, 1) := by decide +kernel
theorem d_Mod_packRow_45 : decode b_Mod_packRow 45 = .ok (.aload_n 0, 1) := by decide +kernel
theorem d_Mod_packRow_46 : decode b_Mod_packRow 46 = .ok (.getfield 16, 3) := by decide +kernel
theorem d_Mod_packRow_49 : decode b_Mod_packRow 49 = .ok (.iload_n 2, 1) := by decide +kernel
theorem d_Mod_packRow_50 : decode b_Mod_packRow 50 = .ok (.iaload, 1) := by decide +kernel
theorem d_Mod_packRow_51 : decode b_Mod_packRow 51 = .ok (.invokevirtual 80, 3) := by decide +kernel
theorem d_Mod_packRow_54 : decode b_Mod_packRow 54 = .ok (.iinc 1 1, 3) := by decide +kernel
theorem d_Mod_packRow_57 : decode b_Mod_packRow 57 = .ok (.iinc 2 1, 3) := by decide +kernel
theorem d_Mod_packRow_60 : decode b_Mod_packRow 60 = .ok (.goto (-56), 3) := by decide +kernel
theorem d_Mod_packRow_63 : decode b_Mod_packRow 63 = .ok (.iload_n 1, 1) := by decide +kernel
theorem d_Mod_packRow_64 : decode b_Mod_packRow 64 = .ok (.ifCond .le 9, 3) := by decide +kernel
theorem d_Mod_packRow_67 : decode b_Mod_packRow 67 = .ok (.aload_n 0, 1) := by decide +kernel
theorem d_Mod_packRow_68 : decode b_Mod_packRow 68 = .ok (.bipush 45, 2) := by decide +kernel
theorem d_Mod_packRow_70 : decode b_Mod_packRow 70 = .ok (.invokevirtual 80, 3) := by decide +kernel
theorem d_Mod_packRow_73 : decode b_Mod_packRow 73 = .ok (.aload_n 0, 1) := by decide +kernel
theorem d_Mod_packRow_74 : decode b_Mod_packRow 74 = .ok (.bipush 72, 2) := by decide +kernel
theorem d_Mod_packRow_76 : decode b_Mod_packRow 76 = .ok (.putfield 74, 3) := by decide +kernel
theorem d_Mod_packRow_79 : decode b_Mod_packRow 79 = .ok (.sipush 128, 3) := by decide +kernel
theorem d_Mod_packRow_82 : decode b_Mod_packRow 82 = .ok (.istore_n 2, 1) := by decide +kernel
theorem d_Mod_packRow_83 : decode b_Mod_packRow 83 = .ok (.iconst 0, 1) := by decide +kernel
theorem d_Mod_packRow_84 : decode b_Mod_packRow 84 = .ok (.istore_n 3, 1) := by decide +kernel
theorem d_Mod_packRow_85 : decode b_Mod_packRow 85 = .ok (.iconst 1, 1) := by decide +kernel
theorem d_Mod_packRow_86 : decode b_Mod_packRow 86 = .ok (.istore 4, 2) := by decide +kernel
theorem d_Mod_packRow_88 : decode b_Mod_packRow 88 = .ok (.aload_n 0, 1) := by decide +kernel
theorem d_Mod_packRow_89 : decode b_Mod_packRow 89 = .ok (.invokevirtual 90, 3) := by decide +kernel
theorem d_Mod_packRow_92 : decode b_Mod_packRow 92 = .ok (.istore 5, 2) := by decide +kernel
theorem d_Mod_packRow_94 : decode b_Mod_packRow 94 = .ok (.iload 5, 2) := by decide +kernel
theorem d_Mod_packRow_96 : decode b_Mod_packRow 96 = .ok (.ifCond .lt 116, 3) := by decide +kernel
theorem d_Mod_packRow_99 : decode b_Mod_packRow 99 = .ok (.iconst 0, 1) := by decide +kernel
theorem d_Mod_packRow_100 : decode b_Mod_packRow 100 = .ok (.istore 6, 2) := by decide +kernel
theorem d_Mod_packRow_102 : decode b_Mod_packRow 102 = .ok (.iconst 0, 1) := by decide +kernel
theorem d_Mod_packRow_103 : decode b_Mod_packRow 103 = .ok (.istore 7, 2) := by decide +kernel
theorem d_Mod_packRow_105 : decode b_Mod_packRow 105 = .ok (.iload 7, 2) := by decide +kernel
theorem d_Mod_packRow_107 : decode b_Mod_packRow 107 = .ok (.iload 5, 2) := by decide +kernel
theorem d_Mod_packRow_109 : decode b_Mod_packRow 109 = .ok (.if_icmp .ge 30, 3) := by decide +kernel
theorem d_Mod_packRow_112 : decode b_Mod_packRow 112 = .ok (.aload_n 0, 1) := by decide +kernel
theorem d_Mod_packRow_113 : decode b_Mod_packRow 113 = .ok (.getfield 38, 3) := by decide +kernel
theorem d_Mod_packRow_116 : decode b_Mod_packRow 116 = .ok (.iload 7, 2) := by decide +kernel
theorem d_Mod_packRow_118 : decode b_Mod_packRow 118 = .ok (.baload, 1) := by decide +kernel
theorem d_Mod_packRow_119 : decode b_Mod_packRow 119 = .ok (.ifCond .eq 10, 3) := by decide +kernel
theorem d_Mod_packRow_122 : decode b_Mod_packRow 122 = .ok (.iload 6, 2) := by decide +kernel
theorem d_Mod_packRow_124 : decode b_Mod_packRow 124 = .ok (.iconst 1, 1) := by decide +kernel
theorem d_Mod_packRow_125 : decode b_Mod_packRow 125 = .ok (.iadd, 1) := by decide +kernel
theorem d_Mod_packRow_126 : decode b_Mod_packRow 126 = .ok (.goto 5, 3) := by decide +kernel
theorem d_Mod_packRow_129 : decode b_Mod_packRow 129 = .ok (.iload 6, 2) := by decide +kernel
theorem d_Mod_packRow_131 : decode b_Mod_packRow 131 = .ok (.istore 6, 2) := by decide +kernel
theorem d_Mod_packRow_133 : decode b_Mod_packRow 133 = .ok (.iinc 7 1, 3) := by decide +kernel
theorem d_Mod_packRow_136 : decode b_Mod_packRow 136 = .ok (.goto (-31), 3) := by decide +kernel
theorem d_Mod_packRow_139 : decode b_Mod_packRow 139 = .ok (.aload_n 0, 1) := by decide +kernel
theorem d_Mod_packRow_140 : decode b_Mod_packRow 140 = .ok (.getfield 16, 3) := by decide +kernel
theorem d_Mod_packRow_143 : decode b_Mod_packRow 143 = .ok (.iload 5, 2) := by decide +kernel
theorem d_Mod_packRow_145 : decode b_Mod_packRow 145 = .ok (.iaload, 1) := by decide +kernel
theorem d_Mod_packRow_146 : decode b_Mod_packRow 146 = .ok (.iload_n 2, 1) := by decide +kernel
theorem d_Mod_packRow_147 : decode b_Mod_packRow 147 = .ok (.isub, 1) := by decide +kernel
theorem d_Mod_packRow_148 : decode b_Mod_packRow 148 = .ok (.iload_n 1, 1) := by decide +kernel
theorem d_Mod_packRow_149 : decode b_Mod_packRow 149 = .ok (.iconst 1, 1) := by decide +kernel
theorem d_Mod_packRow_150 : decode b_Mod_packRow 150 = .ok (.iadd, 1) := by decide +kernel
theorem d_Mod_packRow_151 : decode b_Mod_packRow 151 = .ok (.imul, 1) := by decide +kernel
theorem d_Mod_packRow_152 : decode b_Mod_packRow 152 = .ok (.iload 6, 2) := by decide +kernel
theorem d_Mod_packRow_154 : decode b_Mod_packRow 154 = .ok (.iadd, 1) := by decide +kernel
theorem d_Mod_packRow_155 : decode b_Mod_packRow 155 = .ok (.iload_n 3, 1) := by decide +kernel
theorem d_Mod_packRow_156 : decode b_Mod_packRow 156 = .ok (.isub, 1) := by decide +kernel
theorem d_Mod_packRow_157 : decode b_Mod_packRow 157 = .ok (.istore 7, 2) := by decide +kernel
theorem d_Mod_packRow_159 : decode b_Mod_packRow 159 = .ok (.aload_n 0, 1) := by decide +kernel
theorem d_Mod_packRow_160 : decode b_Mod_packRow 160 = .ok (.iload 7, 2) := by decide +kernel
theorem d_Mod_packRow_162 : decode b_Mod_packRow 162 = .ok (.invokevirtual 94, 3) := by decide +kernel
theorem d_Mod_packRow_165 : decode b_Mod_packRow 165 = .ok (.aload_n 0, 1) := by decide +kernel
theorem d_Mod_packRow_166 : decode b_Mod_packRow 166 = .ok (.iload 7, 2) := by decide +kernel
theorem d_Mod_packRow_168 : decode b_Mod_packRow 168 = .ok (.iload_n 1, 1) := by decide +kernel
theorem d_Mod_packRow_169 : decode b_Mod_packRow 169 = .ok (.iconst 1, 1) := by decide +kernel
theorem d_Mod_packRow_170 : decode b_Mod_packRow 170 = .ok (.iadd, 1) := by decide +kernel
theorem d_Mod_packRow_171 : decode b_Mod_packRow 171 = .ok (.iload 4, 2) := by decide +kernel
theorem d_Mod_packRow_173 : decode b_Mod_packRow 173 = .ok (.invokevirtual 97, 3) := by decide +kernel
theorem d_Mod_packRow_176 : decode b_Mod_packRow 176 = .ok (.aload_n 0, 1) := by decide +kernel
theorem d_Mod_packRow_177 : decode b_Mod_packRow 177 = .ok (.getfield 38, 3) := by decide +kernel
theorem d_Mod_packRow_180 : decode b_Mod_packRow 180 = .ok (.iload 5, 2) := by decide +kernel
theorem d_Mod_packRow_182 : decode b_Mod_packRow 182 = .ok (.iconst 1, 1) := by decide +kernel
theorem d_Mod_packRow_183 : decode b_Mod_packRow 183 = .ok (.bastore, 1) := by decide +kernel
theorem d_Mod_packRow_184 : decode b_Mod_packRow 184 = .ok (.iconst 0, 1) := by decide +kernel
theorem d_Mod_packRow_185 : decode b_Mod_packRow 185 = .ok (.istore 4, 2) := by decide +kernel
theorem d_Mod_packRow_187 : decode b_Mod_packRow 187 = .ok (.iinc 1 1, 3) := by decide +kernel
theorem d_Mod_packRow_190 : decode b_Mod_packRow 190 = .ok (.aload_n 0, 1) := by decide +kernel
theorem d_Mod_packRow_191 : decode b_Mod_packRow 191 = .ok (.getfield 16, 3) := by decide +kernel
theorem d_Mod_packRow_194 : decode b_Mod_packRow 194 = .ok (.iload 5, 2) := by decide +kernel
theorem d_Mod_packRow_196 : decode b_Mod_packRow 196 = .ok (.iaload, 1) := by decide +kernel
theorem d_Mod_packRow_197 : decode b_Mod_packRow 197 = .ok (.istore_n 2, 1) := by decide +kernel
theorem d_Mod_packRow_198 : decode b_Mod_packRow 198 = .ok (.iload 6, 2) := by decide +kernel
theorem d_Mod_packRow_200 : decode b_Mod_packRow 200 = .ok (.iconst 1, 1) := by decide +kernel
theorem d_Mod_packRow_201 : decode b_Mod_packRow 201 = .ok (.iadd, 1) := by decide +kernel
theorem d_Mod_packRow_202 : decode b_Mod_packRow 202 = .ok (.istore_n 3, 1) := by decide +kernel
theorem d_Mod_packRow_203 : decode b_Mod_packRow 203 = .ok (.aload_n 0, 1) := by decide +kernel
theorem d_Mod_packRow_204 : decode b_Mod_packRow 204 = .ok (.invokevirtual 90, 3) := by decide +kernel
theorem d_Mod_packRow_207 : decode b_Mod_packRow 207 = .ok (.istore 5, 2) := by decide +kernel
theorem d_Mod_packRow_209 : decode b_Mod_packRow 209 = .ok (.goto (-115), 3) := by decide +kernel
theorem d_Mod_packRow_212 : decode b_Mod_packRow 212 = .ok (.return_, 1) := by decide +kernel
theorem d_Mod_digit_0 : decode b_Mod_digit 0 = .ok (.iload_n 0, 1) := by decide +kernel
theorem d_Mod_digit_1 : decode b_Mod_digit 1 = .ok (.bipush 97, 2) := by decide +kernel
theorem d_Mod_digit_3 : decode b_Mod_digit 3 = .ok (.bipush 122, 2) := by decide +kernel
theorem d_Mod_digit_5 : decode b_Mod_digit 5 = .ok (.invokestatic 41, 3) := by decide +kernel
theorem d_Mod_digit_8 : decode b_Mod_digit 8 = .ok (.ifCond .eq 10, 3) := by decide +kernel
theorem d_Mod_digit_11 : decode b_Mod_digit 11 = .ok (.iload_n 0, 1) := by decide +kernel
theorem d_Mod_digit_12 : decode b_Mod_digit 12 = .ok (.bipush 97, 2) := by decide +kernel
theorem d_Mod_digit_14 : decode b_Mod_digit 14 = .ok (.isub, 1) := by decide +kernel
theorem d_Mod_digit_15 : decode b_Mod_digit 15 = .ok (.goto 40, 3) := by decide +kernel
theorem d_Mod_digit_18 : decode b_Mod_digit 18 = .ok (.iload_n 0, 1) := by decide +kernel
theorem d_Mod_digit_19 : decode b_Mod_digit 19 = .ok (.bipush 65, 2) := by decide +kernel
theorem d_Mod_digit_21 : decode b_Mod_digit 21 = .ok (.bipush 90, 2) := by decide +kernel
theorem d_Mod_digit_23 : decode b_Mod_digit 23 = .ok (.invokestatic 41, 3) := by decide +kernel
theorem d_Mod_digit_26 : decode b_Mod_digit 26 = .ok (.ifCond .eq 10, 3) := by decide +kernel
theorem d_Mod_digit_29 : decode b_Mod_digit 29 = .ok (.iload_n 0, 1) := by decide +kernel
theorem d_Mod_digit_30 : decode b_Mod_digit 30 = .ok (.bipush 65, 2) := by decide +kernel
theorem d_Mod_digit_32 : decode b_Mod_digit 32 = .ok (.isub, 1) := by decide +kernel
theorem d_Mod_digit_33 : decode b_Mod_digit 33 = .ok (.goto 22, 3) := by decide +kernel
theorem d_Mod_digit_36 : decode b_Mod_digit 36 = .ok (.iload_n 0, 1) := by decide +kernel
theorem d_Mod_digit_37 : decode b_Mod_digit 37 = .ok (.bipush 48, 2) := by decide +kernel
theorem d_Mod_digit_39 : decode b_Mod_digit 39 = .ok (.bipush 57, 2) := by decide +kernel
theorem d_Mod_digit_41 : decode b_Mod_digit 41 = .ok (.invokestatic 41, 3) := by decide +kernel
theorem d_Mod_digit_44 : decode b_Mod_digit 44 = .ok (.ifCond .eq 10, 3) := by decide +kernel
theorem d_Mod_digit_47 : decode b_Mod_digit 47 = .ok (.iload_n 0, 1) := by decide +kernel
theorem d_Mod_digit_48 : decode b_Mod_digit 48 = .ok (.bipush 22, 2) := by decide +kernel
theorem d_Mod_digit_50 : decode b_Mod_digit 50 = .ok (.isub, 1) := by decide +kernel
theorem d_Mod_digit_51 : decode b_Mod_digit 51 = .ok (.goto 4, 3) := by decide +kernel
theorem d_Mod_digit_54 : decode b_Mod_digit 54 = .ok (.iconst (-1), 1) := by decide +kernel
theorem d_Mod_digit_55 : decode b_Mod_digit 55 = .ok (.ireturn, 1) := by decide +kernel
theorem d_Mod_unpackRow_0 : decode b_Mod_unpackRow 0 = .ok (.iload_n 1, 1) := by decide +kernel
theorem d_Mod_unpackRow_1 : decode b_Mod_unpackRow 1 = .ok (.iconst 1, 1) := by decide +kernel
theorem d_Mod_unpackRow_2 : decode b_Mod_unpackRow 2 = .ok (.isub, 1) := by decide +kernel
theorem d_Mod_unpackRow_3 : decode b_Mod_unpackRow 3 = .ok (.istore_n 2, 1) := by decide +kernel
theorem d_Mod_unpackRow_4 : decode b_Mod_unpackRow 4 = .ok (.iload_n 1, 1) := by decide +kernel
theorem d_Mod_unpackRow_5 : decode b_Mod_unpackRow 5 = .ok (.istore_n 3, 1) := by decide +kernel
theorem d_Mod_unpackRow_6 : decode b_Mod_unpackRow 6 = .ok (.iload_n 3, 1) := by decide +kernel
theorem d_Mod_unpackRow_7 : decode b_Mod_unpackRow 7 = .ok (.aload_n 0, 1) := by decide +kernel
theorem d_Mod_unpackRow_8 : decode b_Mod_unpackRow 8 = .ok (.getfield 64, 3) := by decide +kernel
theorem d_Mod_unpackRow_11 : decode b_Mod_unpackRow 11 = .ok (.if_icmp .ge 26, 3) := by decide +kernel
theorem d_Mod_unpackRow_14 : decode b_Mod_unpackRow 14 = .ok (.aload_n 0, 1) := by decide +kernel
theorem d_Mod_unpackRow_15 : decode b_Mod_unpackRow 15 = .ok (.getfield 16, 3) := by decide +kernel
theorem d_Mod_unpackRow_18 : decode b_Mod_unpackRow 18 = .ok (.iload_n 3, 1) := by decide +kernel
theorem d_Mod_unpackRow_19 : decode b_Mod_unpackRow 19 = .ok (.iaload, 1) := by decide +kernel
theorem d_Mod_unpackRow_20 : decode b_Mod_unpackRow 20 = .ok (.bipush 45, 2) := by decide +kernel
theorem d_Mod_unpackRow_22 : decode b_Mod_unpackRow 22 = .ok (.if_icmp .ne 7, 3) := by decide +kernel
theorem d_Mod_unpackRow_25 : decode b_Mod_unpackRow 25 = .ok (.iload_n 3, 1) := by decide +kernel
theorem d_Mod_unpackRow_26 : decode b_Mod_unpackRow 26 = .ok (.goto 4, 3) := by decide +kernel
theorem d_Mod_unpackRow_29 : decode b_Mod_unpackRow 29 = .ok (.iload_n 2, 1) := by decide +kernel
theorem d_Mod_unpackRow_30 : decode b_Mod_unpackRow 30 = .ok (.istore_n 2, 1) := by decide +kernel
theorem d_Mod_unpackRow_31 : decode b_Mod_unpackRow 31 = .ok (.iinc 3 1, 3) := by decide +kernel
theorem d_Mod_unpackRow_34 : decode b_Mod_unpackRow 34 = .ok (.goto (-28), 3) := by decide +kernel
theorem d_Mod_unpackRow_37 : decode b_Mod_unpackRow 37 = .ok (.iconst 0, 1) := by decide +kernel
theorem d_Mod_unpackRow_38 : decode b_Mod_unpackRow 38 = .ok (.istore_n 3, 1) := by decide +kernel
theorem d_Mod_unpackRow_39 : decode b_Mod_unpackRow 39 = .ok (.iload_n 1, 1) := by decide +kernel
theorem d_Mod_unpackRow_40 : decode b_Mod_unpackRow 40 = .ok (.istore 4, 2) := by decide +kernel
theorem d_Mod_unpackRow_42 : decode b_Mod_unpackRow 42 = .ok (.iload 4, 2) := by decide +kernel
theorem d_Mod_unpackRow_44 : decode b_Mod_unpackRow 44 = .ok (.iload_n 2, 1) := by decide +kernel
theorem d_Mod_unpackRow_45 : decode b_Mod_unpackRow 45 = .ok (.if_icmp .ge 45, 3) := by decide +kernel
theorem d_Mod_unpackRow_48 : decode b_Mod_unpackRow 48 = .ok (.aload_n 0, 1) := by decide +kernel
theorem d_Mod_unpackRow_49 : decode b_Mod_unpackRow 49 = .ok (.getfield 16, 3) := by decide +kernel
theorem d_Mod_unpackRow_52 : decode b_Mod_unpackRow 52 = .ok (.iload 4, 2) := by decide +kernel
theorem d_Mod_unpackRow_54 : decode b_Mod_unpackRow 54 = .ok (.iaload, 1) := by decide +kernel
theorem d_Mod_unpackRow_55 : decode b_Mod_unpackRow 55 = .ok (.bipush 127, 2) := by decide +kernel
theorem d_Mod_unpackRow_57 : decode b_Mod_unpackRow 57 = .ok (.if_icmp .gt 9, 3) := by decide +kernel
theorem d_Mod_unpackRow_60 : decode b_Mod_unpackRow 60 = .ok (.iload_n 3, 1) := by decide +kernel
theorem d_Mod_unpackRow_61 : decode b_Mod_unpackRow 61 = .ok (.bipush 48, 2) := by decide +kernel
theorem d_Mod_unpackRow_63 : decode b_Mod_unpackRow 63 = .ok (.if_icmp .ne 5, 3) := by decide +kernel
theorem d_Mod_unpackRow_66 : decode b_Mod_unpackRow 66 = .ok (.iconst 0, 1) := by decide +kernel
theorem d_Mod_unpackRow_67 : decode b_Mod_unpackRow 67 = .ok (.ireturn, 1) := by decide +kernel
theorem d_Mod_unpackRow_68 : decode b_Mod_unpackRow 68 = .ok (.aload_n 0, 1) := by decide +kernel
theorem d_Mod_unpackRow_69 : decode b_Mod_unpackRow 69 = .ok (.getfield 19, 3) := by decide +kernel
theorem d_Mod_unpackRow_72 : decode b_Mod_unpackRow 72 = .ok (.iload_n 3, 1) := by decide +kernel
theorem d_Mod_unpackRow_73 : decode b_Mod_unpackRow 73 = .ok (.aload_n 0, 1) := by decide +kernel
theorem d_Mod_unpackRow_74 : decode b_Mod_unpackRow 74 = .ok (.getfield 16, 3) := by decide +kernel
theorem d_Mod_unpackRow_77 : decode b_Mod_unpackRow 77 = .ok (.iload 4, 2) := by decide +kernel
theorem d_Mod_unpackRow_79 : decode b_Mod_unpackRow 79 = .ok (.iaload, 1) := by decide +kernel
theorem d_Mod_unpackRow_80 : decode b_Mod_unpackRow 80 = .ok (.iastore, 1) := by decide +kernel
theorem d_Mod_unpackRow_81 : decode b_Mod_unpackRow 81 = .ok (.iinc 3 1, 3) := by decide +kernel
theorem d_Mod_unpackRow_84 : decode b_Mod_unpackRow 84 = .ok (.iinc 4 1, 3) := by decide +kernel
theorem d_Mod_unpackRow_87 : decode b_Mod_unpackRow 87 = .ok (.goto (-45), 3) := by decide +kernel
theorem d_Mod_unpackRow_90 : decode b_Mod_unpackRow 90 = .ok (.aload_n 0, 1) := by decide +kernel
theorem d_Mod_unpackRow_91 : decode b_Mod_unpackRow 91 = .ok (.bipush 72, 2) := by decide +kernel
theorem d_Mod_unpackRow_93 : decode b_Mod_unpackRow 93 = .ok (.putfield 74, 3) := by decide +kernel
theorem d_Mod_unpackRow_96 : decode b_Mod_unpackRow 96 = .ok (.lconst 0, 1) := by decide +kernel
theorem d_Mod_unpackRow_97 : decode b_Mod_unpackRow 97 = .ok (.lstore 4, 2) := by decide +kernel
theorem d_Mod_unpackRow_99 : decode b_Mod_unpackRow 99 = .ok (.ldc2_w 101, 3) := by decide +kernel
theorem d_Mod_unpackRow_102 : decode b_Mod_unpackRow 102 = .ok (.lstore 6, 2) := by decide +kernel
theorem d_Mod_unpackRow_104 : decode b_Mod_unpackRow 104 = .ok (.iload_n 2, 1) := by decide +kernel
theorem d_Mod_unpackRow_105 : decode b_Mod_unpackRow 105 = .ok (.iconst 1, 1) := by decide +kernel
theorem d_Mod_unpackRow_106 : decode b_Mod_unpackRow 106 = .ok (.iadd, 1) := by decide +kernel
theorem d_Mod_unpackRow_107 : decode b_Mod_unpackRow 107 = .ok (.istore 8, 2) := by decide +kernel
theorem d_Mod_unpackRow_109 : decode b_Mod_unpackRow 109 = .ok (.iload 8, 2) := by decide +kernel
theorem d_Mod_unpackRow_111 : decode b_Mod_unpackRow 111 = .ok (.aload_n 0, 1) := by decide +kernel
theorem d_Mod_unpackRow_112 : decode b_Mod_unpackRow 112 = .ok (.getfield 64, 3) := by decide +kernel
theorem d_Mod_unpackRow_115 : decode b_Mod_unpackRow 115 = .ok (.if_icmp .ge 259, 3) := by decide +kernel
theorem d_Mod_unpackRow_118 : decode b_Mod_unpackRow 118 = .ok (.lload 4, 2) := by decide +kernel
theorem d_Mod_unpackRow_120 : decode b_Mod_unpackRow 120 = .ok (.lstore 9, 2) := by decide +kernel
theorem d_Mod_unpackRow_122 : decode b_Mod_unpackRow 122 = .ok (.lconst 1, 1) := by decide +kernel
theorem d_Mod_unpackRow_123 : decode b_Mod_unpackRow 123 = .ok (.lstore 11, 2) := by decide +kernel
theorem d_Mod_unpackRow_125 : decode b_Mod_unpackRow 125 = .ok (.bipush 36, 2) := by decide +kernel
theorem d_Mod_unpackRow_127 : decode b_Mod_unpackRow 127 = .ok (.istore 13, 2) := by decide +kernel
theorem d_Mod_unpackRow_129 : decode b_Mod_unpackRow 129 = .ok (.iconst 1, 1) := by decide +kernel
theorem d_Mod_unpackRow_130 : decode b_Mod_unpackRow 130 = .ok (.istore 14, 2) := by decide +kernel
theorem d_Mod_unpackRow_132 : decode b_Mod_unpackRow 132 = .ok (.iload 14, 2) := by decide +kernel
theorem d_Mod_unpackRow_134 : decode b_Mod_unpackRow 134 = .ok (.ifCond .eq 122, 3) := by decide +kernel
theorem d_Mod_unpackRow_137 : decode b_Mod_unpackRow 137 = .ok (.iload 8, 2) := by decide +kernel
theorem d_Mod_unpackRow_139 : decode b_Mod_unpackRow 139 = .ok (.aload_n 0, 1) := by decide +kernel
theorem d_Mod_unpackRow_140 : decode b_Mod_unpackRow 140 = .ok (.getfield 64, 3) := by decide +kernel
theorem d_Mod_unpackRow_143 : decode b_Mod_unpackRow 143 = .ok (.if_icmp .ge 16, 3) := by decide +kernel
theorem d_Mod_unpackRow_146 : decode b_Mod_unpackRow 146 = .ok (.aload_n 0, 1) := by decide +kernel
theorem d_Mod_unpackRow_147 : decode b_Mod_unpackRow 147 = .ok (.getfield 16, 3) := by decide +kernel
theorem d_Mod_unpackRow_150 : decode b_Mod_unpackRow 150 = .ok (.iload 8, 2) := by decide +kernel
theorem d_Mod_unpackRow_152 : decode b_Mod_unpackRow 152 = .ok (.iaload, 1) := by decide +kernel
theorem d_Mod_unpackRow_153 : decode b_Mod_unpackRow 153 = .ok (.invokestatic 103, 3) := by decide +kernel
theorem d_Mod_unpackRow_156 : decode b_Mod_unpackRow 156 = .ok (.goto 4, 3) := by decide +kernel
theorem d_Mod_unpackRow_159 : decode b_Mod_unpackRow 159 = .ok (.iconst (-1), 1) := by decide +kernel
theorem d_Mod_unpackRow_160 : decode b_Mod_unpackRow 160 = .ok (.istore 15, 2) := by decide +kernel
theorem d_Mod_unpackRow_162 : decode b_Mod_unpackRow 162 = .ok (.iload 15, 2) := by decide +kernel
theorem d_Mod_unpackRow_164 : decode b_Mod_unpackRow 164 = .ok (.ifCond .ge 5, 3) := by decide +kernel
theorem d_Mod_unpackRow_167 : decode b_Mod_unpackRow 167 = .ok (.iconst 0, 1) := by decide +kernel
theorem d_Mod_unpackRow_168 : decode b_Mod_unpackRow 168 = .ok (.ireturn, 1) := by decide +kernel
theorem d_Mod_unpackRow_169 : decode b_Mod_unpackRow 169 = .ok (.iinc 8 1, 3) := by decide +kernel
theorem d_Mod_unpackRow_172 : decode b_Mod_unpackRow 172 = .ok (.lload 4, 2) := by decide +kernel
theorem d_Mod_unpackRow_174 : decode b_Mod_unpackRow 174 = .ok (.iload 15, 2) := by decide +kernel
theorem d_Mod_unpackRow_176 : decode b_Mod_unpackRow 176 = .ok (.i2l, 1) := by decide +kernel
theorem d_Mod_unpackRow_177 : decode b_Mod_unpackRow 177 = .ok (.lload 11, 2) := by decide +kernel
theorem d_Mod_unpackRow_179 : decode b_Mod_unpackRow 179 = .ok (.lmul, 1) := by decide +kernel
theorem d_Mod_unpackRow_180 : decode b_Mod_unpackRow 180 = .ok (.ladd, 1) := by decide +kernel
theorem d_Mod_unpackRow_181 : decode b_Mod_unpackRow 181 = .ok (.lstore 4, 2) := by decide +kernel
theorem d_Mod_unpackRow_183 : decode b_Mod_unpackRow 183 = .ok (.aload_n 0, 1) := by decide +kernel
theorem d_Mod_unpackRow_184 : decode b_Mod_unpackRow 184 = .ok (.iload 13, 2) := by decide +kernel
theorem d_Mod_unpackRow_186 : decode b_Mod_unpackRow 186 = .ok (.invokevirtual 84, 3) := by decide +kernel
theorem d_Mod_unpackRow_189 : decode b_Mod_unpackRow 189 = .ok (.istore 16, 2) := by decide +kernel
theorem d_Mod_unpackRow_191 : decode b_Mod_unpackRow 191 = .ok (.iload 15, 2) := by decide +kernel
theorem d_Mod_unpackRow_193 : decode b_Mod_unpackRow 193 = .ok (.iload 16, 2) := by decide +kernel
theorem d_Mod_unpackRow_195 : decode b_Mod_unpackRow 195 = .ok (.if_icmp .lt 7, 3) := by decide +kernel
theorem d_Mod_unpackRow_198 : decode b_Mod_unpackRow 198 = .ok (.iconst 1, 1) := by decide +kernel
theorem d_Mod_unpackRow_199 : decode b_Mod_unpackRow 199 = .ok (.goto 4, 3) := by decide +kernel
theorem d_Mod_unpackRow_202 : decode b_Mod_unpackRow 202 = .ok (.iconst 0, 1) := by decide +kernel
theorem d_Mod_unpackRow_203 : decode b_Mod_unpackRow 203 = .ok (.istore 14, 2) := by decide +kernel
theorem d_Mod_unpackRow_205 : decode b_Mod_unpackRow 205 = .ok (.iload 14, 2) := by decide +kernel
theorem d_Mod_unpackRow_207 : decode b_Mod_unpackRow 207 = .ok (.ifCond .eq 15, 3) := by decide +kernel
theorem d_Mod_unpackRow_210 : decode b_Mod_unpackRow 210 = .ok (.lload 11, 2) := by decide +kernel
theorem d_Mod_unpackRow_212 : decode b_Mod_unpackRow 212 = .ok (.bipush 36, 2) := by decide +kernel
theorem d_Mod_unpackRow_214 : decode b_Mod_unpackRow 214 = .ok (.iload 16, 2) := by decide +kernel
theorem d_Mod_unpackRow_216 : decode b_Mod_unpackRow 216 = .ok (.isub, 1) := by decide +kernel
theorem d_Mod_unpackRow_217 : decode b_Mod_unpackRow 217 = .ok (.i2l, 1) := by decide +kernel
theorem d_Mod_unpackRow_218 : decode b_Mod_unpackRow 218 = .ok (.lmul, 1) := by decide +kernel
theorem d_Mod_unpackRow_219 : decode b_Mod_unpackRow 219 = .ok (.goto 5, 3) := by decide +kernel
theorem d_Mod_unpackRow_222 : decode b_Mod_unpackRow 222 = .ok (.lload 11, 2) := by decide +kernel
theorem d_Mod_unpackRow_224 : decode b_Mod_unpackRow 224 = .ok (.lstore 11, 2) := by decide +kernel
theorem d_Mod_unpackRow_226 : decode b_Mod_unpackRow 226 = .ok (.lload 4, 2) := by decide +kernel
theorem d_Mod_unpackRow_228 : decode b_Mod_unpackRow 228 = .ok (.ldc2_w 106, 3) := by decide +kernel
theorem d_Mod_unpackRow_231 : decode b_Mod_unpackRow 231 = .ok (.lcmp, 1) := by decide +kernel
theorem d_Mod_unpackRow_232 : decode b_Mod_unpackRow 232 = .ok (.ifCond .gt 12, 3) := by decide +kernel
theorem d_Mod_unpackRow_235 : decode b_Mod_unpackRow 235 = .ok (.lload 11, 2) := by decide +kernel
theorem d_Mod_unpackRow_237 : decode b_Mod_unpackRow 237 = .ok (.ldc2_w 106, 3) := by decide +kernel
theorem d_Mod_unpackRow_240 : decode b_Mod_unpackRow 240 = .ok (.lcmp, 1) := by decide +kernel
theorem d_Mod_unpackRow_241 : decode b_Mod_unpackRow 241 = .ok (.ifCond .le 5, 3) := by decide +kernel
theorem d_Mod_unpackRow_244 : decode b_Mod_unpackRow 244 = .ok (.iconst 0, 1) := by decide +kernel
theorem d_Mod_unpackRow_245 : decode b_Mod_unpackRow 245 = .ok (.ireturn, 1) := by decide +kernel
theorem d_Mod_unpackRow_246 : decode b_Mod_unpackRow 246 = .ok (.iload 13, 2) := by decide +kernel
theorem d_Mod_unpackRow_248 : decode b_Mod_unpackRow 248 = .ok (.bipush 36, 2) := by decide +kernel
theorem d_Mod_unpackRow_250 : decode b_Mod_unpackRow 250 = .ok (.iadd, 1) := by decide +kernel
theorem d_Mod_unpackRow_251 : decode b_Mod_unpackRow 251 = .ok (.istore 13, 2) := by decide +kernel
theorem d_Mod_unpackRow_253 : decode b_Mod_unpackRow 253 = .ok (.goto (-121), 3) := by decide +kernel
theorem d_Mod_unpackRow_256 : decode b_Mod_unpackRow 256 = .ok (.iload_n 3, 1) := by decide +kernel
theorem d_Mod_unpackRow_257 : decode b_Mod_unpackRow 257 = .ok (.bipush 48, 2) := by decide +kernel
theorem d_Mod_unpackRow_259 : decode b_Mod_unpackRow 259 = .ok (.if_icmp .ne 5, 3) := by decide +kernel
theorem d_Mod_unpackRow_262 : decode b_Mod_unpackRow 262 = .ok (.iconst 0, 1) := by decide +kernel
theorem d_Mod_unpackRow_263 : decode b_Mod_unpackRow 263 = .ok (.ireturn, 1) := by decide +kernel
theorem d_Mod_unpackRow_264 : decode b_Mod_unpackRow 264 = .ok (.iinc 3 1, 3) := by decide +kernel
theorem d_Mod_unpackRow_267 : decode b_Mod_unpackRow 267 = .ok (.aload_n 0, 1) := by decide +kernel
theorem d_Mod_unpackRow_268 : decode b_Mod_unpackRow 268 = .ok (.lload 4, 2) := by decide +kernel
theorem d_Mod_unpackRow_270 : decode b_Mod_unpackRow 270 = .ok (.lload 9, 2) := by decide +kernel
theorem d_Mod_unpackRow_272 : decode b_Mod_unpackRow 272 = .ok (.lsub, 1) := by decide +kernel
theorem d_Mod_unpackRow_273 : decode b_Mod_unpackRow 273 = .ok (.l2i, 1) := by decide +kernel
theorem d_Mod_unpackRow_274 : decode b_Mod_unpackRow 274 = .ok (.iload_n 3, 1) := by decide +kernel
theorem d_Mod_unpackRow_275 : decode b_Mod_unpackRow 275 = .ok (.lload 9, 2) := by decide +kernel
theorem d_Mod_unpackRow_277 : decode b_Mod_unpackRow 277 = .ok (.lconst 0, 1) := by decide +kernel
theorem d_Mod_unpackRow_278 : decode b_Mod_unpackRow 278 = .ok (.lcmp, 1) := by decide +kernel
theorem d_Mod_unpackRow_279 : decode b_Mod_unpackRow 279 = .ok (.ifCond .ne 7, 3) := by decide +kernel
theorem d_Mod_unpackRow_282 : decode b_Mod_unpackRow 282 = .ok (.iconst 1, 1) := by decide +kernel
theorem d_Mod_unpackRow_283 : decode b_Mod_unpackRow 283 = .ok (.goto 4, 3) := by decide +kernel
theorem d_Mod_unpackRow_286 : decode b_Mod_unpackRow 286 = .ok (.iconst 0, 1) := by decide +kernel
theorem d_Mod_unpackRow_287 : decode b_Mod_unpackRow 287 = .ok (.invokevirtual 97, 3) := by decide +kernel
theorem d_Mod_unpackRow_290 : decode b_Mod_unpackRow 290 = .ok (.lload 6, 2) := by decide +kernel
theorem d_Mod_unpackRow_292 : decode b_Mod_unpackRow 292 = .ok (.lload 4, 2) := by decide +kernel
theorem d_Mod_unpackRow_294 : decode b_Mod_unpackRow 294 = .ok (.iload_n 3, 1) := by decide +kernel
theorem d_Mod_unpackRow_295 : decode b_Mod_unpackRow 295 = .ok (.i2l, 1) := by decide +kernel
theorem d_Mod_unpackRow_296 : decode b_Mod_unpackRow 296 = .ok (.ldiv, 1) := by decide +kernel
theorem d_Mod_unpackRow_297 : decode b_Mod_unpackRow 297 = .ok (.ladd, 1) := by decide +kernel
theorem d_Mod_unpackRow_298 : decode b_Mod_unpackRow 298 = .ok (.lstore 6, 2) := by decide +kernel
theorem d_Mod_unpackRow_300 : decode b_Mod_unpackRow 300 = .ok (.lload 6, 2) := by decide +kernel
theorem d_Mod_unpackRow_302 : decode b_Mod_unpackRow 302 = .ok (.ldc2_w 108, 3) := by decide +kernel
theorem d_Mod_unpackRow_305 : decode b_Mod_unpackRow 305 = .ok (.lcmp, 1) := by decide +kernel
theorem d_Mod_unpackRow_306 : decode b_Mod_unpackRow 306 = .ok (.ifCond .le 5, 3) := by decide +kernel
theorem d_Mod_unpackRow_309 : decode b_Mod_unpackRow 309 = .ok (.iconst 0, 1) := by decide +kernel
theorem d_Mod_unpackRow_310 : decode b_Mod_unpackRow 310 = .ok (.ireturn, 1) := by decide +kernel
theorem d_Mod_unpackRow_311 : decode b_Mod_unpackRow 311 = .ok (.lload 4, 2) := by decide +kernel
theorem d_Mod_unpackRow_313 : decode b_Mod_unpackRow 313 = .ok (.iload_n 3, 1) := by decide +kernel
theorem d_Mod_unpackRow_314 : decode b_Mod_unpackRow 314 = .ok (.i2l, 1) := by decide +kernel
theorem d_Mod_unpackRow_315 : decode b_Mod_unpackRow 315 = .ok (.lrem, 1) := by decide +kernel
theorem d_Mod_unpackRow_316 : decode b_Mod_unpackRow 316 = .ok (.lstore 4, 2) := by decide +kernel
theorem d_Mod_unpackRow_318 : decode b_Mod_unpackRow 318 = .ok (.iload_n 3, 1) := by decide +kernel
theorem d_Mod_unpackRow_319 : decode b_Mod_unpackRow 319 = .ok (.iconst 1, 1) := by decide +kernel
theorem d_Mod_unpackRow_320 : decode b_Mod_unpackRow 320 = .ok (.isub, 1) := by decide +kernel
theorem d_Mod_unpackRow_321 : decode b_Mod_unpackRow 321 = .ok (.istore 15, 2) := by decide +kernel
theorem d_Mod_unpackRow_323 : decode b_Mod_unpackRow 323 = .ok (.iload 15, 2) := by decide +kernel
theorem d_Mod_unpackRow_325 : decode b_Mod_unpackRow 325 = .ok (.i2l, 1) := by decide +kernel
theorem d_Mod_unpackRow_326 : decode b_Mod_unpackRow 326 = .ok (.lload 4, 2) := by decide +kernel
theorem d_Mod_unpackRow_328 : decode b_Mod_unpackRow 328 = .ok (.lcmp, 1) := by decide +kernel
theorem d_Mod_unpackRow_329 : decode b_Mod_unpackRow 329 = .ok (.ifCond .le 25, 3) := by decide +kernel
theorem d_Mod_unpackRow_332 : decode b_Mod_unpackRow 332 = .ok (.aload_n 0, 1) := by decide +kernel
theorem d_Mod_unpackRow_333 : decode b_Mod_unpackRow 333 = .ok (.getfield 19, 3) := by decide +kernel
theorem d_Mod_unpackRow_336 : decode b_Mod_unpackRow 336 = .ok (.iload 15, 2) := by decide +kernel
theorem d_Mod_unpackRow_338 : decode b_Mod_unpackRow 338 = .ok (.aload_n 0, 1) := by decide +kernel
theorem d_Mod_unpackRow_339 : decode b_Mod_unpackRow 339 = .ok (.getfield 19, 3) := by decide +kernel
theorem d_Mod_unpackRow_342 : decode b_Mod_unpackRow 342 = .ok (.iload 15, 2) := by decide +kernel
theorem d_Mod_unpackRow_344 : decode b_Mod_unpackRow 344 = .ok (.iconst 1, 1) := by decide +kernel
theorem d_Mod_unpackRow_345 : decode b_Mod_unpackRow 345 = .ok (.isub, 1) := by decide +kernel
theorem d_Mod_unpackRow_346 : decode b_Mod_unpackRow 346 = .ok (.iaload, 1) := by decide +kernel
theorem d_Mod_unpackRow_347 : decode b_Mod_unpackRow 347 = .ok (.iastore, 1) := by decide +kernel
theorem d_Mod_unpackRow_348 : decode b_Mod_unpackRow 348 = .ok (.iinc 15 ( -1), 3) := by decide +kernel
theorem d_Mod_unpackRow_351 : decode b_Mod_unpackRow 351 = .ok (.goto (-28), 3) := by decide +kernel
theorem d_Mod_unpackRow_354 : decode b_Mod_unpackRow 354 = .ok (.aload_n 0, 1) := by decide +kernel
theorem d_Mod_unpackRow_355 : decode b_Mod_unpackRow 355 = .ok (.getfield 19, 3) := by decide +kernel
theorem d_Mod_unpackRow_358 : decode b_Mod_unpackRow 358 = .ok (.lload 4, 2) := by decide +kernel
theorem d_Mod_unpackRow_360 : decode b_Mod_unpackRow 360 = .ok (.l2i, 1) := by decide +kernel
theorem d_Mod_unpackRow_361 : decode b_Mod_unpackRow 361 = .ok (.lload 6, 2) := by decide +kernel
theorem d_Mod_unpackRow_363 : decode b_Mod_unpackRow 363 = .ok (.l2i, 1) := by decide +kernel
theorem d_Mod_unpackRow_364 : decode b_Mod_unpackRow 364 = .ok (.iastore, 1) := by decide +kernel
theorem d_Mod_unpackRow_365 : decode b_Mod_unpackRow 365 = .ok (.lload 4, 2) := by decide +kernel
theorem d_Mod_unpackRow_367 : decode b_Mod_unpackRow 367 = .ok (.lconst 1, 1) := by decide +kernel
theorem d_Mod_unpackRow_368 : decode b_Mod_unpackRow 368 = .ok (.ladd, 1) := by decide +kernel
theorem d_Mod_unpackRow_369 : decode b_Mod_unpackRow 369 = .ok (.lstore 4, 2) := by decide +kernel
theorem d_Mod_unpackRow_371 : decode b_Mod_unpackRow 371 = .ok (.goto (-262), 3) := by decide +kernel
theorem d_Mod_unpackRow_374 : decode b_Mod_unpackRow 374 = .ok (.iconst 0, 1) := by decide +kernel
theorem d_Mod_unpackRow_375 : decode b_Mod_unpackRow 375 = .ok (.istore 9, 2) := by decide +kernel
theorem d_Mod_unpackRow_377 : decode b_Mod_unpackRow 377 = .ok (.iload 9, 2) := by decide +kernel
theorem d_Mod_unpackRow_379 : decode b_Mod_unpackRow 379 = .ok (.iload_n 3, 1) := by decide +kernel
theorem d_Mod_unpackRow_380 : decode b_Mod_unpackRow 380 = .ok (.if_icmp .ge 23, 3) := by decide +kernel
theorem d_Mod_unpackRow_383 : decode b_Mod_unpackRow 383 = .ok (.aload_n 0, 1) := by decide +kernel
theorem d_Mod_unpackRow_384 : decode b_Mod_unpackRow 384 = .ok (.getfield 16, 3) := by decide +kernel
theorem d_Mod_unpackRow_387 : decode b_Mod_unpackRow 387 = .ok (.iload 9, 2) := by decide +kernel
theorem d_Mod_unpackRow_389 : decode b_Mod_unpackRow 389 = .ok (.aload_n 0, 1) := by decide +kernel
theorem d_Mod_unpackRow_390 : decode b_Mod_unpackRow 390 = .ok (.getfield 19, 3) := by decide +kernel
theorem d_Mod_unpackRow_393 : decode b_Mod_unpackRow 393 = .ok (.iload 9, 2) := by decide +kernel
theorem d_Mod_unpackRow_395 : decode b_Mod_unpackRow 395 = .ok (.iaload, 1) := by decide +kernel
theorem d_Mod_unpackRow_396 : decode b_Mod_unpackRow 396 = .ok (.iastore, 1) := by decide +kernel
theorem d_Mod_unpackRow_397 : decode b_Mod_unpackRow 397 = .ok (.iinc 9 1, 3) := by decide +kernel
theorem d_Mod_unpackRow_400 : decode b_Mod_unpackRow 400 = .ok (.goto (-23), 3) := by decide +kernel
theorem d_Mod_unpackRow_403 : decode b_Mod_unpackRow 403 = .ok (.aload_n 0, 1) := by decide +kernel
theorem d_Mod_unpackRow_404 : decode b_Mod_unpackRow 404 = .ok (.iload_n 3, 1) := by decide +kernel
theorem d_Mod_unpackRow_405 : decode b_Mod_unpackRow 405 = .ok (.putfield 64, 3) := by decide +kernel
theorem d_Mod_unpackRow_408 : decode b_Mod_unpackRow 408 = .ok (.iconst 1, 1) := by decide +kernel
theorem d_Mod_unpackRow_409 : decode b_Mod_unpackRow 409 = .ok (.ireturn, 1) := by decide +kernel
theorem d_Mod_put_0 : decode b_Mod_put 0 = .ok (.iload_n 1, 1) := by decide +kernel
theorem d_Mod_put_1 : decode b_Mod_put 1 = .ok (.iconst 0, 1) := by decide +kernel
theorem d_Mod_put_2 : decode b_Mod_put 2 = .ok (.ldc 110, 2) := by decide +kernel
theorem d_Mod_put_4 : decode b_Mod_put 4 = .ok (.invokestatic 41, 3) := by decide +kernel
theorem d_Mod_put_7 : decode b_Mod_put 7 = .ok (.ifCond .eq 23, 3) := by decide +kernel
theorem d_Mod_put_10 : decode b_Mod_put 10 = .ok (.iload_n 1, 1) := by decide +kernel
theorem d_Mod_put_11 : decode b_Mod_put 11 = .ok (.ldc 111, 2) := by decide +kernel
theorem d_Mod_put_13 : decode b_Mod_put 13 = .ok (.ldc 112, 2) := by decide +kernel
theorem d_Mod_put_15 : decode b_Mod_put 15 = .ok (.invokestatic 41, 3) := by decide +kernel
theorem d_Mod_put_18 : decode b_Mod_put 18 = .ok (.ifCond .ne 12, 3) := by decide +kernel
theorem d_Mod_put_21 : decode b_Mod_put 21 = .ok (.aload_n 0, 1) := by decide +kernel
theorem d_Mod_put_22 : decode b_Mod_put 22 = .ok (.getfield 113, 3) := by decide +kernel
theorem d_Mod_put_25 : decode b_Mod_put 25 = .ok (.bipush 48, 2) := by decide +kernel
theorem d_Mod_put_27 : decode b_Mod_put 27 = .ok (.if_icmp .ne 5, 3) := by decide +kernel
theorem d_Mod_put_30 : decode b_Mod_put 30 = .ok (.iconst 0, 1) := by decide +kernel
theorem d_Mod_put_31 : decode b_Mod_put 31 = .ok (.ireturn, 1) := by decide +kernel
theorem d_Mod_put_32 : decode b_Mod_put 32 = .ok (.aload_n 0, 1) := by decide +kernel
theorem d_Mod_put_33 : decode b_Mod_put 33 = .ok (.getfield 7, 3) := by decide +kernel
theorem d_Mod_put_36 : decode b_Mod_put 36 = .ok (.aload_n 0, 1) := by decide +kernel
theorem d_Mod_put_37 : decode b_Mod_put 37 = .ok (.getfield 113, 3) := by decide +kernel
theorem d_Mod_put_40 : decode b_Mod_put 40 = .ok (.iload_n 1, 1) := by decide +kernel
theorem d_Mod_put_41 : decode b_Mod_put 41 = .ok (.iastore, 1) := by decide +kernel
theorem d_Mod_put_42 : decode b_Mod_put 42 = .ok (.aload_n 0, 1) := by decide +kernel
theorem d_Mod_put_43 : decode b_Mod_put 43 = .ok (.dup, 1) := by decide +kernel
theorem d_Mod_put_44 : decode b_Mod_put 44 = .ok (.getfield 113, 3) := by decide +kernel
theorem d_Mod_put_47 : decode b_Mod_put 47 = .ok (.iconst 1, 1) := by decide +kernel
theorem d_Mod_put_48 : decode b_Mod_put 48 = .ok (.iadd, 1) := by decide +kernel
theorem d_Mod_put_49 : decode b_Mod_put 49 = .ok (.putfield 113, 3) := by decide +kernel
theorem d_Mod_put_52 : decode b_Mod_put 52 = .ok (.iconst 1, 1) := by decide +kernel
theorem d_Mod_put_53 : decode b_Mod_put 53 = .ok (.ireturn, 1) := by decide +kernel
theorem d_Mod_type_0 : decode b_Mod_type 0 = .ok (.iload_n 3, 1) := by decide +kernel
theorem d_Mod_type_1 : decode b_Mod_type 1 = .ok (.iconst 1, 1) := by decide +kernel
theorem d_Mod_type_2 : decode b_Mod_type 2 = .ok (.bipush 8, 2) := by decide +kernel
theorem d_Mod_type_4 : decode b_Mod_type 4 = .ok (.invokestatic 41, 3) := by decide +kernel
theorem d_Mod_type_7 : decode b_Mod_type 7 = .ok (.ifCond .eq 14, 3) := by decide +kernel
theorem d_Mod_type_10 : decode b_Mod_type 10 = .ok (.aload_n 0, 1) := by decide +kernel
theorem d_Mod_type_11 : decode b_Mod_type 11 = .ok (.getfield 113, 3) := by decide +kernel
theorem d_Mod_type_14 : decode b_Mod_type 14 = .ok (.iload_n 3, 1) := by decide +kernel
theorem d_Mod_type_15 : decode b_Mod_type 15 = .ok (.iadd, 1) := by decide +kernel
theorem d_Mod_type_16 : decode b_Mod_type 16 = .ok (.bipush 48, 2) := by decide +kernel
theorem d_Mod_type_18 : decode b_Mod_type 18 = .ok (.if_icmp .le 5, 3) := by decide +kernel
theorem d_Mod_type_21 : decode b_Mod_type 21 = .ok (.iconst 0, 1) := by decide +kernel
theorem d_Mod_type_22 : decode b_Mod_type 22 = .ok (.ireturn, 1) := by decide +kernel
theorem d_Mod_type_23 : decode b_Mod_type 23 = .ok (.iload_n 3, 1) := by decide +kernel
theorem d_Mod_type_24 : decode b_Mod_type 24 = .ok (.iconst 1, 1) := by decide +kernel
theorem d_Mod_type_25 : decode b_Mod_type 25 = .ok (.isub, 1) := by decide +kernel
theorem d_Mod_type_26 : decode b_Mod_type 26 = .ok (.istore 4, 2) := by decide +kernel
theorem d_Mod_type_28 : decode b_Mod_type 28 = .ok (.iload 4, 2) := by decide +kernel
theorem d_Mod_type_30 : decode b_Mod_type 30 = .ok (.ifCond .lt 40, 3) := by decide +kernel
theorem d_Mod_type_33 : decode b_Mod_type 33 = .ok (.aload_n 0, 1) := by decide +kernel
theorem d_Mod_type_34 : decode b_Mod_type 34 = .ok (.getfield 7, 3) := by decide +kernel
theorem d_Mod_type_37 : decode b_Mod_type 37 = .ok (.aload_n 0, 1) := by decide +kernel
theorem d_Mod_type_38 : decode b_Mod_type 38 = .ok (.getfield 113, 3) := by decide +kernel
theorem d_Mod_type_41 : decode b_Mod_type 41 = .ok (.lload_n 1, 1) := by decide +kernel
theorem d_Mod_type_42 : decode b_Mod_type 42 = .ok (.bipush 8, 2) := by decide +kernel
theorem d_Mod_type_44 : decode b_Mod_type 44 = .ok (.iload 4, 2) := by decide +kernel
theorem d_Mod_type_46 : decode b_Mod_type 46 = .ok (.imul, 1) := by decide +kernel
theorem d_Mod_type_47 : decode b_Mod_type 47 = .ok (.lshr, 1) := by decide +kernel
theorem d_Mod_type_48 : decode b_Mod_type 48 = .ok (.l2i, 1) := by decide +kernel
