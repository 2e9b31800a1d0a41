theorem d_Mod_type_49 : decode b_Mod_type 49 = .ok (.sipush 255, 3) := by decide +kernel
theorem d_Mod_type_52 : decode b_Mod_type 52 = .ok (.iand, 1) := by decide +kernel
theorem d_Mod_type_53 : decode b_Mod_type 53 = .ok (.iastore, 1) := by decide +kernel
theorem d_Mod_type_54 : decode b_Mod_type 54 = .ok (.aload_n 0, 1) := by decide +kernel
theorem d_Mod_type_55 : decode b_Mod_type 55 = .ok (.dup, 1) := by decide +kernel
theorem d_Mod_type_56 : decode b_Mod_type 56 = .ok (.getfield 113, 3) := by decide +kernel
theorem d_Mod_type_59 : decode b_Mod_type 59 = .ok (.iconst 1, 1) := by decide +kernel
theorem d_Mod_type_60 : decode b_Mod_type 60 = .ok (.iadd, 1) := by decide +kernel
theorem d_Mod_type_61 : decode b_Mod_type 61 = .ok (.putfield 113, 3) := by decide +kernel
theorem d_Mod_type_64 : decode b_Mod_type 64 = .ok (.iinc 4 ( -1), 3) := by decide +kernel
theorem d_Mod_type_67 : decode b_Mod_type 67 = .ok (.goto (-39), 3) := by decide +kernel
theorem d_Mod_type_70 : decode b_Mod_type 70 = .ok (.iconst 1, 1) := by decide +kernel
theorem d_Mod_type_71 : decode b_Mod_type 71 = .ok (.ireturn, 1) := by decide +kernel
theorem d_Mod_clear_0 : decode b_Mod_clear 0 = .ok (.aload_n 0, 1) := by decide +kernel
theorem d_Mod_clear_1 : decode b_Mod_clear 1 = .ok (.getfield 113, 3) := by decide +kernel
theorem d_Mod_clear_4 : decode b_Mod_clear 4 = .ok (.istore_n 1, 1) := by decide +kernel
theorem d_Mod_clear_5 : decode b_Mod_clear 5 = .ok (.aload_n 0, 1) := by decide +kernel
theorem d_Mod_clear_6 : decode b_Mod_clear 6 = .ok (.iconst 0, 1) := by decide +kernel
theorem d_Mod_clear_7 : decode b_Mod_clear 7 = .ok (.putfield 113, 3) := by decide +kernel
theorem d_Mod_clear_10 : decode b_Mod_clear 10 = .ok (.iload_n 1, 1) := by decide +kernel
theorem d_Mod_clear_11 : decode b_Mod_clear 11 = .ok (.ireturn, 1) := by decide +kernel
theorem d_Mod_takeText_0 : decode b_Mod_takeText 0 = .ok (.iconst 0, 1) := by decide +kernel
theorem d_Mod_takeText_1 : decode b_Mod_takeText 1 = .ok (.istore_n 1, 1) := by decide +kernel
theorem d_Mod_takeText_2 : decode b_Mod_takeText 2 = .ok (.iload_n 1, 1) := by decide +kernel
theorem d_Mod_takeText_3 : decode b_Mod_takeText 3 = .ok (.aload_n 0, 1) := by decide +kernel
theorem d_Mod_takeText_4 : decode b_Mod_takeText 4 = .ok (.getfield 113, 3) := by decide +kernel
theorem d_Mod_takeText_7 : decode b_Mod_takeText 7 = .ok (.if_icmp .ge 21, 3) := by decide +kernel
theorem d_Mod_takeText_10 : decode b_Mod_takeText 10 = .ok (.aload_n 0, 1) := by decide +kernel
theorem d_Mod_takeText_11 : decode b_Mod_takeText 11 = .ok (.getfield 16, 3) := by decide +kernel
theorem d_Mod_takeText_14 : decode b_Mod_takeText 14 = .ok (.iload_n 1, 1) := by decide +kernel
theorem d_Mod_takeText_15 : decode b_Mod_takeText 15 = .ok (.aload_n 0, 1) := by decide +kernel
theorem d_Mod_takeText_16 : decode b_Mod_takeText 16 = .ok (.getfield 7, 3) := by decide +kernel
theorem d_Mod_takeText_19 : decode b_Mod_takeText 19 = .ok (.iload_n 1, 1) := by decide +kernel
theorem d_Mod_takeText_20 : decode b_Mod_takeText 20 = .ok (.iaload, 1) := by decide +kernel
theorem d_Mod_takeText_21 : decode b_Mod_takeText 21 = .ok (.iastore, 1) := by decide +kernel
theorem d_Mod_takeText_22 : decode b_Mod_takeText 22 = .ok (.iinc 1 1, 3) := by decide +kernel
theorem d_Mod_takeText_25 : decode b_Mod_takeText 25 = .ok (.goto (-23), 3) := by decide +kernel
theorem d_Mod_takeText_28 : decode b_Mod_takeText 28 = .ok (.aload_n 0, 1) := by decide +kernel
theorem d_Mod_takeText_29 : decode b_Mod_takeText 29 = .ok (.aload_n 0, 1) := by decide +kernel
theorem d_Mod_takeText_30 : decode b_Mod_takeText 30 = .ok (.getfield 113, 3) := by decide +kernel
theorem d_Mod_takeText_33 : decode b_Mod_takeText 33 = .ok (.putfield 64, 3) := by decide +kernel
theorem d_Mod_takeText_36 : decode b_Mod_takeText 36 = .ok (.return_, 1) := by decide +kernel
theorem d_Mod_giveRow_0 : decode b_Mod_giveRow 0 = .ok (.iconst 0, 1) := by decide +kernel
theorem d_Mod_giveRow_1 : decode b_Mod_giveRow 1 = .ok (.istore_n 1, 1) := by decide +kernel
theorem d_Mod_giveRow_2 : decode b_Mod_giveRow 2 = .ok (.iload_n 1, 1) := by decide +kernel
theorem d_Mod_giveRow_3 : decode b_Mod_giveRow 3 = .ok (.aload_n 0, 1) := by decide +kernel
theorem d_Mod_giveRow_4 : decode b_Mod_giveRow 4 = .ok (.getfield 64, 3) := by decide +kernel
theorem d_Mod_giveRow_7 : decode b_Mod_giveRow 7 = .ok (.if_icmp .ge 21, 3) := by decide +kernel
theorem d_Mod_giveRow_10 : decode b_Mod_giveRow 10 = .ok (.aload_n 0, 1) := by decide +kernel
theorem d_Mod_giveRow_11 : decode b_Mod_giveRow 11 = .ok (.getfield 13, 3) := by decide +kernel
theorem d_Mod_giveRow_14 : decode b_Mod_giveRow 14 = .ok (.iload_n 1, 1) := by decide +kernel
theorem d_Mod_giveRow_15 : decode b_Mod_giveRow 15 = .ok (.aload_n 0, 1) := by decide +kernel
theorem d_Mod_giveRow_16 : decode b_Mod_giveRow 16 = .ok (.getfield 16, 3) := by decide +kernel
theorem d_Mod_giveRow_19 : decode b_Mod_giveRow 19 = .ok (.iload_n 1, 1) := by decide +kernel
theorem d_Mod_giveRow_20 : decode b_Mod_giveRow 20 = .ok (.iaload, 1) := by decide +kernel
theorem d_Mod_giveRow_21 : decode b_Mod_giveRow 21 = .ok (.iastore, 1) := by decide +kernel
theorem d_Mod_giveRow_22 : decode b_Mod_giveRow 22 = .ok (.iinc 1 1, 3) := by decide +kernel
theorem d_Mod_giveRow_25 : decode b_Mod_giveRow 25 = .ok (.goto (-23), 3) := by decide +kernel
theorem d_Mod_giveRow_28 : decode b_Mod_giveRow 28 = .ok (.aload_n 0, 1) := by decide +kernel
theorem d_Mod_giveRow_29 : decode b_Mod_giveRow 29 = .ok (.aload_n 0, 1) := by decide +kernel
theorem d_Mod_giveRow_30 : decode b_Mod_giveRow 30 = .ok (.getfield 64, 3) := by decide +kernel
theorem d_Mod_giveRow_33 : decode b_Mod_giveRow 33 = .ok (.putfield 77, 3) := by decide +kernel
theorem d_Mod_giveRow_36 : decode b_Mod_giveRow 36 = .ok (.return_, 1) := by decide +kernel
theorem d_Mod_on_0 : decode b_Mod_on 0 = .ok (.iload_n 0, 1) := by decide +kernel
theorem d_Mod_on_1 : decode b_Mod_on 1 = .ok (.iload_n 1, 1) := by decide +kernel
theorem d_Mod_on_2 : decode b_Mod_on 2 = .ok (.iand, 1) := by decide +kernel
theorem d_Mod_on_3 : decode b_Mod_on 3 = .ok (.ifCond .eq 7, 3) := by decide +kernel
theorem d_Mod_on_6 : decode b_Mod_on 6 = .ok (.iconst 1, 1) := by decide +kernel
theorem d_Mod_on_7 : decode b_Mod_on 7 = .ok (.goto 4, 3) := by decide +kernel
theorem d_Mod_on_10 : decode b_Mod_on 10 = .ok (.iconst 0, 1) := by decide +kernel
theorem d_Mod_on_11 : decode b_Mod_on 11 = .ok (.ireturn, 1) := by decide +kernel
theorem d_Mod_add_0 : decode b_Mod_add 0 = .ok (.aload_n 0, 1) := by decide +kernel
theorem d_Mod_add_1 : decode b_Mod_add 1 = .ok (.getfield 16, 3) := by decide +kernel
theorem d_Mod_add_4 : decode b_Mod_add 4 = .ok (.aload_n 0, 1) := by decide +kernel
theorem d_Mod_add_5 : decode b_Mod_add 5 = .ok (.getfield 64, 3) := by decide +kernel
theorem d_Mod_add_8 : decode b_Mod_add 8 = .ok (.iload_n 1, 1) := by decide +kernel
theorem d_Mod_add_9 : decode b_Mod_add 9 = .ok (.iastore, 1) := by decide +kernel
theorem d_Mod_add_10 : decode b_Mod_add 10 = .ok (.aload_n 0, 1) := by decide +kernel
theorem d_Mod_add_11 : decode b_Mod_add 11 = .ok (.dup, 1) := by decide +kernel
theorem d_Mod_add_12 : decode b_Mod_add 12 = .ok (.getfield 64, 3) := by decide +kernel
theorem d_Mod_add_15 : decode b_Mod_add 15 = .ok (.iconst 1, 1) := by decide +kernel
theorem d_Mod_add_16 : decode b_Mod_add 16 = .ok (.iadd, 1) := by decide +kernel
theorem d_Mod_add_17 : decode b_Mod_add 17 = .ok (.putfield 64, 3) := by decide +kernel
theorem d_Mod_add_20 : decode b_Mod_add 20 = .ok (.return_, 1) := by decide +kernel
theorem d_Mod_mapText_0 : decode b_Mod_mapText 0 = .ok (.aload_n 0, 1) := by decide +kernel
theorem d_Mod_mapText_1 : decode b_Mod_mapText 1 = .ok (.iconst 0, 1) := by decide +kernel
theorem d_Mod_mapText_2 : decode b_Mod_mapText 2 = .ok (.putfield 64, 3) := by decide +kernel
theorem d_Mod_mapText_5 : decode b_Mod_mapText 5 = .ok (.iconst 0, 1) := by decide +kernel
theorem d_Mod_mapText_6 : decode b_Mod_mapText 6 = .ok (.istore_n 2, 1) := by decide +kernel
theorem d_Mod_mapText_7 : decode b_Mod_mapText 7 = .ok (.iconst 0, 1) := by decide +kernel
theorem d_Mod_mapText_8 : decode b_Mod_mapText 8 = .ok (.istore_n 3, 1) := by decide +kernel
theorem d_Mod_mapText_9 : decode b_Mod_mapText 9 = .ok (.iload_n 3, 1) := by decide +kernel
theorem d_Mod_mapText_10 : decode b_Mod_mapText 10 = .ok (.aload_n 0, 1) := by decide +kernel
theorem d_Mod_mapText_11 : decode b_Mod_mapText 11 = .ok (.getfield 113, 3) := by decide +kernel
theorem d_Mod_mapText_14 : decode b_Mod_mapText 14 = .ok (.if_icmp .ge 207, 3) := by decide +kernel
theorem d_Mod_mapText_17 : decode b_Mod_mapText 17 = .ok (.aload_n 0, 1) := by decide +kernel
theorem d_Mod_mapText_18 : decode b_Mod_mapText 18 = .ok (.getfield 7, 3) := by decide +kernel
theorem d_Mod_mapText_21 : decode b_Mod_mapText 21 = .ok (.iload_n 3, 1) := by decide +kernel
theorem d_Mod_mapText_22 : decode b_Mod_mapText 22 = .ok (.iaload, 1) := by decide +kernel
theorem d_Mod_mapText_23 : decode b_Mod_mapText 23 = .ok (.istore 4, 2) := by decide +kernel
theorem d_Mod_mapText_25 : decode b_Mod_mapText 25 = .ok (.iload 4, 2) := by decide +kernel
theorem d_Mod_mapText_27 : decode b_Mod_mapText 27 = .ok (.invokestatic 116, 3) := by decide +kernel
theorem d_Mod_mapText_30 : decode b_Mod_mapText 30 = .ok (.ifCond .eq 15, 3) := by decide +kernel
theorem d_Mod_mapText_33 : decode b_Mod_mapText 33 = .ok (.iload_n 1, 1) := by decide +kernel
theorem d_Mod_mapText_34 : decode b_Mod_mapText 34 = .ok (.iconst 2, 1) := by decide +kernel
theorem d_Mod_mapText_35 : decode b_Mod_mapText 35 = .ok (.invokestatic 119, 3) := by decide +kernel
theorem d_Mod_mapText_38 : decode b_Mod_mapText 38 = .ok (.ifCond .eq 7, 3) := by decide +kernel
theorem d_Mod_mapText_41 : decode b_Mod_mapText 41 = .ok (.iconst 1, 1) := by decide +kernel
theorem d_Mod_mapText_42 : decode b_Mod_mapText 42 = .ok (.goto 4, 3) := by decide +kernel
theorem d_Mod_mapText_45 : decode b_Mod_mapText 45 = .ok (.iconst 0, 1) := by decide +kernel
theorem d_Mod_mapText_46 : decode b_Mod_mapText 46 = .ok (.istore 5, 2) := by decide +kernel
theorem d_Mod_mapText_48 : decode b_Mod_mapText 48 = .ok (.iload 4, 2) := by decide +kernel
theorem d_Mod_mapText_50 : decode b_Mod_mapText 50 = .ok (.invokestatic 123, 3) := by decide +kernel
theorem d_Mod_mapText_53 : decode b_Mod_mapText 53 = .ok (.istore 6, 2) := by decide +kernel
theorem d_Mod_mapText_55 : decode b_Mod_mapText 55 = .ok (.iload 5, 2) := by decide +kernel
theorem d_Mod_mapText_57 : decode b_Mod_mapText 57 = .ok (.ifCond .eq 26, 3) := by decide +kernel
theorem d_Mod_mapText_60 : decode b_Mod_mapText 60 = .ok (.iload 4, 2) := by decide +kernel
theorem d_Mod_mapText_62 : decode b_Mod_mapText 62 = .ok (.sipush 223, 3) := by decide +kernel
theorem d_Mod_mapText_65 : decode b_Mod_mapText 65 = .ok (.if_icmp .ne 18, 3) := by decide +kernel
theorem d_Mod_mapText_68 : decode b_Mod_mapText 68 = .ok (.aload_n 0, 1) := by decide +kernel
theorem d_Mod_mapText_69 : decode b_Mod_mapText 69 = .ok (.bipush 115, 2) := by decide +kernel
theorem d_Mod_mapText_71 : decode b_Mod_mapText 71 = .ok (.invokevirtual 126, 3) := by decide +kernel
theorem d_Mod_mapText_74 : decode b_Mod_mapText 74 = .ok (.aload_n 0, 1) := by decide +kernel
theorem d_Mod_mapText_75 : decode b_Mod_mapText 75 = .ok (.bipush 115, 2) := by decide +kernel
theorem d_Mod_mapText_77 : decode b_Mod_mapText 77 = .ok (.invokevirtual 126, 3) := by decide +kernel
theorem d_Mod_mapText_80 : decode b_Mod_mapText 80 = .ok (.goto 135, 3) := by decide +kernel
theorem d_Mod_mapText_83 : decode b_Mod_mapText 83 = .ok (.iload 5, 2) := by decide +kernel
theorem d_Mod_mapText_85 : decode b_Mod_mapText 85 = .ok (.ifCond .eq 21, 3) := by decide +kernel
theorem d_Mod_mapText_88 : decode b_Mod_mapText 88 = .ok (.iload 4, 2) := by decide +kernel
theorem d_Mod_mapText_90 : decode b_Mod_mapText 90 = .ok (.sipush 962, 3) := by decide +kernel
theorem d_Mod_mapText_93 : decode b_Mod_mapText 93 = .ok (.if_icmp .ne 13, 3) := by decide +kernel
theorem d_Mod_mapText_96 : decode b_Mod_mapText 96 = .ok (.aload_n 0, 1) := by decide +kernel
theorem d_Mod_mapText_97 : decode b_Mod_mapText 97 = .ok (.sipush 963, 3) := by decide +kernel
theorem d_Mod_mapText_100 : decode b_Mod_mapText 100 = .ok (.invokevirtual 126, 3) := by decide +kernel
theorem d_Mod_mapText_103 : decode b_Mod_mapText 103 = .ok (.goto 112, 3) := by decide +kernel
theorem d_Mod_mapText_106 : decode b_Mod_mapText 106 = .ok (.iload 6, 2) := by decide +kernel
theorem d_Mod_mapText_108 : decode b_Mod_mapText 108 = .ok (.ifCond .lt 38, 3) := by decide +kernel
theorem d_Mod_mapText_111 : decode b_Mod_mapText 111 = .ok (.aload_n 0, 1) := by decide +kernel
theorem d_Mod_mapText_112 : decode b_Mod_mapText 112 = .ok (.iload 6, 2) := by decide +kernel
theorem d_Mod_mapText_114 : decode b_Mod_mapText 114 = .ok (.invokevirtual 126, 3) := by decide +kernel
theorem d_Mod_mapText_117 : decode b_Mod_mapText 117 = .ok (.iload_n 2, 1) := by decide +kernel
theorem d_Mod_mapText_118 : decode b_Mod_mapText 118 = .ok (.ifCond .ne 19, 3) := by decide +kernel
theorem d_Mod_mapText_121 : decode b_Mod_mapText 121 = .ok (.iload 6, 2) := by decide +kernel
theorem d_Mod_mapText_123 : decode b_Mod_mapText 123 = .ok (.invokestatic 129, 3) := by decide +kernel
theorem d_Mod_mapText_126 : decode b_Mod_mapText 126 = .ok (.ifCond .eq 15, 3) := by decide +kernel
theorem d_Mod_mapText_129 : decode b_Mod_mapText 129 = .ok (.iload_n 1, 1) := by decide +kernel
theorem d_Mod_mapText_130 : decode b_Mod_mapText 130 = .ok (.iconst 1, 1) := by decide +kernel
theorem d_Mod_mapText_131 : decode b_Mod_mapText 131 = .ok (.invokestatic 119, 3) := by decide +kernel
theorem d_Mod_mapText_134 : decode b_Mod_mapText 134 = .ok (.ifCond .eq 7, 3) := by decide +kernel
theorem d_Mod_mapText_137 : decode b_Mod_mapText 137 = .ok (.iconst 1, 1) := by decide +kernel
theorem d_Mod_mapText_138 : decode b_Mod_mapText 138 = .ok (.goto 4, 3) := by decide +kernel
theorem d_Mod_mapText_141 : decode b_Mod_mapText 141 = .ok (.iconst 0, 1) := by decide +kernel
theorem d_Mod_mapText_142 : decode b_Mod_mapText 142 = .ok (.istore_n 2, 1) := by decide +kernel
theorem d_Mod_mapText_143 : decode b_Mod_mapText 143 = .ok (.goto 72, 3) := by decide +kernel
theorem d_Mod_mapText_146 : decode b_Mod_mapText 146 = .ok (.iload 5, 2) := by decide +kernel
theorem d_Mod_mapText_148 : decode b_Mod_mapText 148 = .ok (.ifCond .ne 67, 3) := by decide +kernel
theorem d_Mod_mapText_151 : decode b_Mod_mapText 151 = .ok (.iload 4, 2) := by decide +kernel
theorem d_Mod_mapText_153 : decode b_Mod_mapText 153 = .ok (.sipush 173, 3) := by decide +kernel
theorem d_Mod_mapText_156 : decode b_Mod_mapText 156 = .ok (.if_icmp .eq 59, 3) := by decide +kernel
theorem d_Mod_mapText_159 : decode b_Mod_mapText 159 = .ok (.aload_n 0, 1) := by decide +kernel
theorem d_Mod_mapText_160 : decode b_Mod_mapText 160 = .ok (.iload 4, 2) := by decide +kernel
theorem d_Mod_mapText_162 : decode b_Mod_mapText 162 = .ok (.invokevirtual 126, 3) := by decide +kernel
theorem d_Mod_mapText_165 : decode b_Mod_mapText 165 = .ok (.iload_n 2, 1) := by decide +kernel
theorem d_Mod_mapText_166 : decode b_Mod_mapText 166 = .ok (.ifCond .ne 43, 3) := by decide +kernel
theorem d_Mod_mapText_169 : decode b_Mod_mapText 169 = .ok (.iload 4, 2) := by decide +kernel
theorem d_Mod_mapText_171 : decode b_Mod_mapText 171 = .ok (.invokestatic 129, 3) := by decide +kernel
theorem d_Mod_mapText_174 : decode b_Mod_mapText 174 = .ok (.ifCond .eq 11, 3) := by decide +kernel
theorem d_Mod_mapText_177 : decode b_Mod_mapText 177 = .ok (.iload_n 1, 1) := by decide +kernel
theorem d_Mod_mapText_178 : decode b_Mod_mapText 178 = .ok (.iconst 1, 1) := by decide +kernel
theorem d_Mod_mapText_179 : decode b_Mod_mapText 179 = .ok (.invokestatic 119, 3) := by decide +kernel
theorem d_Mod_mapText_182 : decode b_Mod_mapText 182 = .ok (.ifCond .ne 27, 3) := by decide +kernel
theorem d_Mod_mapText_185 : decode b_Mod_mapText 185 = .ok (.iload 4, 2) := by decide +kernel
theorem d_Mod_mapText_187 : decode b_Mod_mapText 187 = .ok (.invokestatic 129, 3) := by decide +kernel
theorem d_Mod_mapText_190 : decode b_Mod_mapText 190 = .ok (.ifCond .ne 23, 3) := by decide +kernel
theorem d_Mod_mapText_193 : decode b_Mod_mapText 193 = .ok (.iload 4, 2) := by decide +kernel
theorem d_Mod_mapText_195 : decode b_Mod_mapText 195 = .ok (.invokestatic 50, 3) := by decide +kernel
theorem d_Mod_mapText_198 : decode b_Mod_mapText 198 = .ok (.ifCond .ne 15, 3) := by decide +kernel
theorem d_Mod_mapText_201 : decode b_Mod_mapText 201 = .ok (.iload 4, 2) := by decide +kernel
theorem d_Mod_mapText_203 : decode b_Mod_mapText 203 = .ok (.invokestatic 116, 3) := by decide +kernel
theorem d_Mod_mapText_206 : decode b_Mod_mapText 206 = .ok (.ifCond .ne 7, 3) := by decide +kernel
theorem d_Mod_mapText_209 : decode b_Mod_mapText 209 = .ok (.iconst 1, 1) := by decide +kernel
theorem d_Mod_mapText_210 : decode b_Mod_mapText 210 = .ok (.goto 4, 3) := by decide +kernel
theorem d_Mod_mapText_213 : decode b_Mod_mapText 213 = .ok (.iconst 0, 1) := by decide +kernel
theorem d_Mod_mapText_214 : decode b_Mod_mapText 214 = .ok (.istore_n 2, 1) := by decide +kernel
theorem d_Mod_mapText_215 : decode b_Mod_mapText 215 = .ok (.iinc 3 1, 3) := by decide +kernel
theorem d_Mod_mapText_218 : decode b_Mod_mapText 218 = .ok (.goto (-209), 3) := by decide +kernel
theorem d_Mod_mapText_221 : decode b_Mod_mapText 221 = .ok (.iload_n 2, 1) := by decide +kernel
theorem d_Mod_mapText_222 : decode b_Mod_mapText 222 = .ok (.ireturn, 1) := by decide +kernel
theorem d_Mod_hasTag_0 : decode b_Mod_hasTag 0 = .ok (.aload_n 0, 1) := by decide +kernel
theorem d_Mod_hasTag_1 : decode b_Mod_hasTag 1 = .ok (.getfield 64, 3) := by decide +kernel
theorem d_Mod_hasTag_4 : decode b_Mod_hasTag 4 = .ok (.iconst 3, 1) := by decide +kernel
theorem d_Mod_hasTag_5 : decode b_Mod_hasTag 5 = .ok (.if_icmp .le 51, 3) := by decide +kernel
theorem d_Mod_hasTag_8 : decode b_Mod_hasTag 8 = .ok (.aload_n 0, 1) := by decide +kernel
theorem d_Mod_hasTag_9 : decode b_Mod_hasTag 9 = .ok (.getfield 16, 3) := by decide +kernel
theorem d_Mod_hasTag_12 : decode b_Mod_hasTag 12 = .ok (.iconst 0, 1) := by decide +kernel
theorem d_Mod_hasTag_13 : decode b_Mod_hasTag 13 = .ok (.iaload, 1) := by decide +kernel
theorem d_Mod_hasTag_14 : decode b_Mod_hasTag 14 = .ok (.bipush 120, 2) := by decide +kernel
theorem d_Mod_hasTag_16 : decode b_Mod_hasTag 16 = .ok (.if_icmp .ne 40, 3) := by decide +kernel
theorem d_Mod_hasTag_19 : decode b_Mod_hasTag 19 = .ok (.aload_n 0, 1) := by decide +kernel
theorem d_Mod_hasTag_20 : decode b_Mod_hasTag 20 = .ok (.getfield 16, 3) := by decide +kernel
theorem d_Mod_hasTag_23 : decode b_Mod_hasTag 23 = .ok (.iconst 1, 1) := by decide +kernel
theorem d_Mod_hasTag_24 : decode b_Mod_hasTag 24 = .ok (.iaload, 1) := by decide +kernel
theorem d_Mod_hasTag_25 : decode b_Mod_hasTag 25 = .ok (.bipush 110, 2) := by decide +kernel
theorem d_Mod_hasTag_27 : decode b_Mod_hasTag 27 = .ok (.if_icmp .ne 29, 3) := by decide +kernel
theorem d_Mod_hasTag_30 : decode b_Mod_hasTag 30 = .ok (.aload_n 0, 1) := by decide +kernel
theorem d_Mod_hasTag_31 : decode b_Mod_hasTag 31 = .ok (.getfield 16, 3) := by decide +kernel
theorem d_Mod_hasTag_34 : decode b_Mod_hasTag 34 = .ok (.iconst 2, 1) := by decide +kernel
theorem d_Mod_hasTag_35 : decode b_Mod_hasTag 35 = .ok (.iaload, 1) := by decide +kernel
theorem d_Mod_hasTag_36 : decode b_Mod_hasTag 36 = .ok (.bipush 45, 2) := by decide +kernel
theorem d_Mod_hasTag_38 : decode b_Mod_hasTag 38 = .ok (.if_icmp .ne 18, 3) := by decide +kernel
theorem d_Mod_hasTag_41 : decode b_Mod_hasTag 41 = .ok (.aload_n 0, 1) := by decide +kernel
theorem d_Mod_hasTag_42 : decode b_Mod_hasTag 42 = .ok (.getfield 16, 3) := by decide +kernel
theorem d_Mod_hasTag_45 : decode b_Mod_hasTag 45 = .ok (.iconst 3, 1) := by decide +kernel
theorem d_Mod_hasTag_46 : decode b_Mod_hasTag 46 = .ok (.iaload, 1) := by decide +kernel
theorem d_Mod_hasTag_47 : decode b_Mod_hasTag 47 = .ok (.bipush 45, 2) := by decide +kernel
theorem d_Mod_hasTag_49 : decode b_Mod_hasTag 49 = .ok (.if_icmp .ne 7, 3) := by decide +kernel
theorem d_Mod_hasTag_52 : decode b_Mod_hasTag 52 = .ok (.iconst 1, 1) := by decide +kernel
theorem d_Mod_hasTag_53 : decode b_Mod_hasTag 53 = .ok (.goto 4, 3) := by decide +kernel
theorem d_Mod_hasTag_56 : decode b_Mod_hasTag 56 = .ok (.iconst 0, 1) := by decide +kernel
theorem d_Mod_hasTag_57 : decode b_Mod_hasTag 57 = .ok (.ireturn, 1) := by decide +kernel
theorem d_Mod_keep_0 : decode b_Mod_keep 0 = .ok (.aload_n 0, 1) := by decide +kernel
theorem d_Mod_keep_1 : decode b_Mod_keep 1 = .ok (.getfield 22, 3) := by decide +kernel
theorem d_Mod_keep_4 : decode b_Mod_keep 4 = .ok (.iload_n 1, 1) := by decide +kernel
theorem d_Mod_keep_5 : decode b_Mod_keep 5 = .ok (.aload_n 0, 1) := by decide +kernel
theorem d_Mod_keep_6 : decode b_Mod_keep 6 = .ok (.getfield 132, 3) := by decide +kernel
theorem d_Mod_keep_9 : decode b_Mod_keep 9 = .ok (.iastore, 1) := by decide +kernel
theorem d_Mod_keep_10 : decode b_Mod_keep 10 = .ok (.aload_n 0, 1) := by decide +kernel
theorem d_Mod_keep_11 : decode b_Mod_keep 11 = .ok (.getfield 25, 3) := by decide +kernel
theorem d_Mod_keep_14 : decode b_Mod_keep 14 = .ok (.iload_n 1, 1) := by decide +kernel
theorem d_Mod_keep_15 : decode b_Mod_keep 15 = .ok (.aload_n 0, 1) := by decide +kernel
theorem d_Mod_keep_16 : decode b_Mod_keep 16 = .ok (.getfield 64, 3) := by decide +kernel
theorem d_Mod_keep_19 : decode b_Mod_keep 19 = .ok (.iastore, 1) := by decide +kernel
theorem d_Mod_keep_20 : decode b_Mod_keep 20 = .ok (.iconst 0, 1) := by decide +kernel
theorem d_Mod_keep_21 : decode b_Mod_keep 21 = .ok (.istore_n 2, 1) := by decide +kernel
theorem d_Mod_keep_22 : decode b_Mod_keep 22 = .ok (.iload_n 2, 1) := by decide +kernel
theorem d_Mod_keep_23 : decode b_Mod_keep 23 = .ok (.aload_n 0, 1) := by decide +kernel
theorem d_Mod_keep_24 : decode b_Mod_keep 24 = .ok (.getfield 64, 3) := by decide +kernel
theorem d_Mod_keep_27 : decode b_Mod_keep 27 = .ok (.if_icmp .ge 34, 3) := by decide +kernel
theorem d_Mod_keep_30 : decode b_Mod_keep 30 = .ok (.aload_n 0, 1) := by decide +kernel
theorem d_Mod_keep_31 : decode b_Mod_keep 31 = .ok (.getfield 35, 3) := by decide +kernel
theorem d_Mod_keep_34 : decode b_Mod_keep 34 = .ok (.aload_n 0, 1) := by decide +kernel
theorem d_Mod_keep_35 : decode b_Mod_keep 35 = .ok (.getfield 132, 3) := by decide +kernel
theorem d_Mod_keep_38 : decode b_Mod_keep 38 = .ok (.aload_n 0, 1) := by decide +kernel
theorem d_Mod_keep_39 : decode b_Mod_keep 39 = .ok (.getfield 16, 3) := by decide +kernel
theorem d_Mod_keep_42 : decode b_Mod_keep 42 = .ok (.iload_n 2, 1) := by decide +kernel
theorem d_Mod_keep_43 : decode b_Mod_keep 43 = .ok (.iaload, 1) := by decide +kernel
theorem d_Mod_keep_44 : decode b_Mod_keep 44 = .ok (.iastore, 1) := by decide +kernel
theorem d_Mod_keep_45 : decode b_Mod_keep 45 = .ok (.aload_n 0, 1) := by decide +kernel
theorem d_Mod_keep_46 : decode b_Mod_keep 46 = .ok (.dup, 1) := by decide +kernel
theorem d_Mod_keep_47 : decode b_Mod_keep 47 = .ok (.getfield 132, 3) := by decide +kernel
theorem d_Mod_keep_50 : decode b_Mod_keep 50 = .ok (.iconst 1, 1) := by decide +kernel
theorem d_Mod_keep_51 : decode b_Mod_keep 51 = .ok (.iadd, 1) := by decide +kernel
theorem d_Mod_keep_52 : decode b_Mod_keep 52 = .ok (.putfield 132, 3) := by decide +kernel
theorem d_Mod_keep_55 : decode b_Mod_keep 55 = .ok (.iinc 2 1, 3) := by decide +kernel
theorem d_Mod_keep_58 : decode b_Mod_keep 58 = .ok (.goto (-36), 3) := by decide +kernel
theorem d_Mod_keep_61 : decode b_Mod_keep 61 = .ok (.return_, 1) := by decide +kernel
theorem d_Mod_fetch_0 : decode b_Mod_fetch 0 = .ok (.aload_n 0, 1) := by decide +kernel
theorem d_Mod_fetch_1 : decode b_Mod_fetch 1 = .ok (.aload_n 0, 1) := by decide +kernel
theorem d_Mod_fetch_2 : decode b_Mod_fetch 2 = .ok (.getfield 25, 3) := by decide +kernel
theorem d_Mod_fetch_5 : decode b_Mod_fetch 5 = .ok (.iload_n 1, 1) := by decide +kernel
theorem d_Mod_fetch_6 : decode b_Mod_fetch 6 = .ok (.iaload, 1) := by decide +kernel
theorem d_Mod_fetch_7 : decode b_Mod_fetch 7 = .ok (.putfield 64, 3) := by decide +kernel
theorem d_Mod_fetch_10 : decode b_Mod_fetch 10 = .ok (.iconst 0, 1) := by decide +kernel
theorem d_Mod_fetch_11 : decode b_Mod_fetch 11 = .ok (.istore_n 2, 1) := by decide +kernel
theorem d_Mod_fetch_12 : decode b_Mod_fetch 12 = .ok (.iload_n 2, 1) := by decide +kernel
theorem d_Mod_fetch_13 : decode b_Mod_fetch 13 = .ok (.aload_n 0, 1) := by decide +kernel
theorem d_Mod_fetch_14 : decode b_Mod_fetch 14 = .ok (.getfield 64, 3) := by decide +kernel
theorem d_Mod_fetch_17 : decode b_Mod_fetch 17 = .ok (.if_icmp .ge 28, 3) := by decide +kernel
theorem d_Mod_fetch_20 : decode b_Mod_fetch 20 = .ok (.aload_n 0, 1) := by decide +kernel
theorem d_Mod_fetch_21 : decode b_Mod_fetch 21 = .ok (.getfield 16, 3) := by decide +kernel
theorem d_Mod_fetch_24 : decode b_Mod_fetch 24 = .ok (.iload_n 2, 1) := by decide +kernel
theorem d_Mod_fetch_25 : decode b_Mod_fetch 25 = .ok (.aload_n 0, 1) := by decide +kernel
theorem d_Mod_fetch_26 : decode b_Mod_fetch 26 = .ok (.getfield 35, 3) := by decide +kernel
theorem d_Mod_fetch_29 : decode b_Mod_fetch 29 = .ok (.aload_n 0, 1) := by decide +kernel
theorem d_Mod_fetch_30 : decode b_Mod_fetch 30 = .ok (.getfield 22, 3) := by decide +kernel
theorem d_Mod_fetch_33 : decode b_Mod_fetch 33 = .ok (.iload_n 1, 1) := by decide +kernel
theorem d_Mod_fetch_34 : decode b_Mod_fetch 34 = .ok (.iaload, 1) := by decide +kernel
theorem d_Mod_fetch_35 : decode b_Mod_fetch 35 = .ok (.iload_n 2, 1) := by decide +kernel
theorem d_Mod_fetch_36 : decode b_Mod_fetch 36 = .ok (.iadd, 1) := by decide +kernel
theorem d_Mod_fetch_37 : decode b_Mod_fetch 37 = .ok (.iaload, 1) := by decide +kernel
theorem d_Mod_fetch_38 : decode b_Mod_fetch 38 = .ok (.iastore, 1) := by decide +kernel
theorem d_Mod_fetch_39 : decode b_Mod_fetch 39 = .ok (.iinc 2 1, 3) := by decide +kernel
theorem d_Mod_fetch_42 : decode b_Mod_fetch 42 = .ok (.goto (-30), 3) := by decide +kernel
theorem d_Mod_fetch_45 : decode b_Mod_fetch 45 = .ok (.return_, 1) := by decide +kernel
theorem d_Mod_cut_0 : decode b_Mod_cut 0 = .ok (.aload_n 0, 1) := by decide +kernel
theorem d_Mod_cut_1 : decode b_Mod_cut 1 = .ok (.iconst 0, 1) := by decide +kernel
theorem d_Mod_cut_2 : decode b_Mod_cut 2 = .ok (.putfield 135, 3) := by decide +kernel
theorem d_Mod_cut_5 : decode b_Mod_cut 5 = .ok (.aload_n 0, 1) := by decide +kernel
theorem d_Mod_cut_6 : decode b_Mod_cut 6 = .ok (.iconst 0, 1) := by decide +kernel
theorem d_Mod_cut_7 : decode b_Mod_cut 7 = .ok (.putfield 132, 3) := by decide +kernel
theorem d_Mod_cut_10 : decode b_Mod_cut 10 = .ok (.aload_n 0, 1) := by decide +kernel
theorem d_Mod_cut_11 : decode b_Mod_cut 11 = .ok (.getfield 22, 3) := by decide +kernel
theorem d_Mod_cut_14 : decode b_Mod_cut 14 = .ok (.iconst 0, 1) := by decide +kernel
theorem d_Mod_cut_15 : decode b_Mod_cut 15 = .ok (.iconst 0, 1) := by decide +kernel
theorem d_Mod_cut_16 : decode b_Mod_cut 16 = .ok (.iastore, 1) := by decide +kernel
theorem d_Mod_cut_17 : decode b_Mod_cut 17 = .ok (.aload_n 0, 1) := by decide +kernel
theorem d_Mod_cut_18 : decode b_Mod_cut 18 = .ok (.getfield 25, 3) := by decide +kernel
theorem d_Mod_cut_21 : decode b_Mod_cut 21 = .ok (.iconst 0, 1) := by decide +kernel
theorem d_Mod_cut_22 : decode b_Mod_cut 22 = .ok (.iconst 0, 1) := by decide +kernel
theorem d_Mod_cut_23 : decode b_Mod_cut 23 = .ok (.iastore, 1) := by decide +kernel
theorem d_Mod_cut_24 : decode b_Mod_cut 24 = .ok (.iconst 0, 1) := by decide +kernel
theorem d_Mod_cut_25 : decode b_Mod_cut 25 = .ok (.istore_n 1, 1) := by decide +kernel
theorem d_Mod_cut_26 : decode b_Mod_cut 26 = .ok (.iload_n 1, 1) := by decide +kernel
theorem d_Mod_cut_27 : decode b_Mod_cut 27 = .ok (.aload_n 0, 1) := by decide +kernel
theorem d_Mod_cut_28 : decode b_Mod_cut 28 = .ok (.getfield 64, 3) := by decide +kernel
theorem d_Mod_cut_31 : decode b_Mod_cut 31 = .ok (.if_icmp .ge 101, 3) := by decide +kernel
theorem d_Mod_cut_34 : decode b_Mod_cut 34 = .ok (.aload_n 0, 1) := by decide +kernel
theorem d_Mod_cut_35 : decode b_Mod_cut 35 = .ok (.getfield 16, 3) := by decide +kernel
theorem d_Mod_cut_38 : decode b_Mod_cut 38 = .ok (.iload_n 1, 1) := by decide +kernel
theorem d_Mod_cut_39 : decode b_Mod_cut 39 = .ok (.iaload, 1) := by decide +kernel
theorem d_Mod_cut_40 : decode b_Mod_cut 40 = .ok (.bipush 46, 2) := by decide +kernel
theorem d_Mod_cut_42 : decode b_Mod_cut 42 = .ok (.if_icmp .ne 39, 3) := by decide +kernel
theorem d_Mod_cut_45 : decode b_Mod_cut 45 = .ok (.aload_n 0, 1) := by decide +kernel
theorem d_Mod_cut_46 : decode b_Mod_cut 46 = .ok (.dup, 1) := by decide +kernel
theorem d_Mod_cut_47 : decode b_Mod_cut 47 = .ok (.getfield 135, 3) := by decide +kernel
theorem d_Mod_cut_50 : decode b_Mod_cut 50 = .ok (.iconst 1, 1) := by decide +kernel
theorem d_Mod_cut_51 : decode b_Mod_cut 51 = .ok (.iadd, 1) := by decide +kernel
theorem d_Mod_cut_52 : decode b_Mod_cut 52 = .ok (.putfield 135, 3) := by decide +kernel
theorem d_Mod_cut_55 : decode b_Mod_cut 55 = .ok (.aload_n 0, 1) := by decide +kernel
theorem d_Mod_cut_56 : decode b_Mod_cut 56 = .ok (.getfield 22, 3) := by decide +kernel
theorem d_Mod_cut_59 : decode b_Mod_cut 59 = .ok (.aload_n 0, 1) := by decide +kernel
theorem d_Mod_cut_60 : decode b_Mod_cut 60 = .ok (.getfield 135, 3) := by decide +kernel
theorem d_Mod_cut_63 : decode b_Mod_cut 63 = .ok (.aload_n 0, 1) := by decide +kernel
theorem d_Mod_cut_64 : decode b_Mod_cut 64 = .ok (.getfield 132, 3) := by decide +kernel
theorem d_Mod_cut_67 : decode b_Mod_cut 67 = .ok (.iastore, 1) := by decide +kernel
theorem d_Mod_cut_68 : decode b_Mod_cut 68 = .ok (.aload_n 0, 1) := by decide +kernel
theorem d_Mod_cut_69 : decode b_Mod_cut 69 = .ok (.getfield 25, 3) := by decide +kernel
theorem d_Mod_cut_72 : decode b_Mod_cut 72 = .ok (.aload_n 0, 1) := by decide +kernel
theorem d_Mod_cut_73 : decode b_Mod_cut 73 = .ok (.getfield 135, 3) := by decide +kernel
theorem d_Mod_cut_76 : decode b_Mod_cut 76 = .ok (.iconst 0, 1) := by decide +kernel
theorem d_Mod_cut_77 : decode b_Mod_cut 77 = .ok (.iastore, 1) := by decide +kernel
theorem d_Mod_cut_78 : decode b_Mod_cut 78 = .ok (.goto 48, 3) := by decide +kernel
theorem d_Mod_cut_81 : decode b_Mod_cut 81 = .ok (.aload_n 0, 1) := by decide +kernel
theorem d_Mod_cut_82 : decode b_Mod_cut 82 = .ok (.getfield 35, 3) := by decide +kernel
theorem d_Mod_cut_85 : decode b_Mod_cut 85 = .ok (.aload_n 0, 1) := by decide +kernel
theorem d_Mod_cut_86 : decode b_Mod_cut 86 = .ok (.getfield 132, 3) := by decide +kernel
theorem d_Mod_cut_89 : decode b_Mod_cut 89 = .ok (.aload_n 0, 1) := by decide +kernel
theorem d_Mod_cut_90 : decode b_Mod_cut 90 = .ok (.getfield 16, 3) := by decide +kernel
theorem d_Mod_cut_93 : decode b_Mod_cut 93 = .ok (.iload_n 1, 1) := by decide +kernel
theorem d_Mod_cut_94 : decode b_Mod_cut 94 = .ok (.iaload, 1) := by decide +kernel
theorem d_Mod_cut_95 : decode b_Mod_cut 95 = .ok (.iastore, 1) := by decide +kernel
theorem d_Mod_cut_96 : decode b_Mod_cut 96 = .ok (.aload_n 0, 1) := by decide +kernel
theorem d_Mod_cut_97 : decode b_Mod_cut 97 = .ok (.dup, 1) := by decide +kernel
theorem d_Mod_cut_98 : decode b_Mod_cut 98 = .ok (.getfield 132, 3) := by decide +kernel
theorem d_Mod_cut_101 : decode b_Mod_cut 101 = .ok (.iconst 1, 1) := by decide +kernel
theorem d_Mod_cut_102 : decode b_Mod_cut 102 = .ok (.iadd, 1) := by decide +kernel
theorem d_Mod_cut_103 : decode b_Mod_cut 103 = .ok (.putfield 132, 3) := by decide +kernel
theorem d_Mod_cut_106 : decode b_Mod_cut 106 = .ok (.aload_n 0, 1) := by decide +kernel
theorem d_Mod_cut_107 : decode b_Mod_cut 107 = .ok (.getfield 25, 3) := by decide +kernel
theorem d_Mod_cut_110 : decode b_Mod_cut 110 = .ok (.aload_n 0, 1) := by decide +kernel
theorem d_Mod_cut_111 : decode b_Mod_cut 111 = .ok (.getfield 135, 3) := by decide +kernel
theorem d_Mod_cut_114 : decode b_Mod_cut 114 = .ok (.aload_n 0, 1) := by decide +kernel
theorem d_Mod_cut_115 : decode b_Mod_cut 115 = .ok (.getfield 25, 3) := by decide +kernel
theorem d_Mod_cut_118 : decode b_Mod_cut 118 = .ok (.aload_n 0, 1) := by decide +kernel
theorem d_Mod_cut_119 : decode b_Mod_cut 119 = .ok (.getfield 135, 3) := by decide +kernel
theorem d_Mod_cut_122 : decode b_Mod_cut 122 = .ok (.iaload, 1) := by decide +kernel
theorem d_Mod_cut_123 : decode b_Mod_cut 123 = .ok (.iconst 1, 1) := by decide +kernel
theorem d_Mod_cut_124 : decode b_Mod_cut 124 = .ok (.iadd, 1) := by decide +kernel
theorem d_Mod_cut_125 : decode b_Mod_cut 125 = .ok (.iastore, 1) := by decide +kernel
theorem d_Mod_cut_126 : decode b_Mod_cut 126 = .ok (.iinc 1 1, 3) := by decide +kernel
theorem d_Mod_cut_129 : decode b_Mod_cut 129 = .ok (.goto (-103), 3) := by decide +kernel
theorem d_Mod_cut_132 : decode b_Mod_cut 132 = .ok (.aload_n 0, 1) := by decide +kernel
theorem d_Mod_cut_133 : decode b_Mod_cut 133 = .ok (.dup, 1) := by decide +kernel
theorem d_Mod_cut_134 : decode b_Mod_cut 134 = .ok (.getfield 135, 3) := by decide +kernel
theorem d_Mod_cut_137 : decode b_Mod_cut 137 = .ok (.iconst 1, 1) := by decide +kernel
theorem d_Mod_cut_138 : decode b_Mod_cut 138 = .ok (.iadd, 1) := by decide +kernel
theorem d_Mod_cut_139 : decode b_Mod_cut 139 = .ok (.putfield 135, 3) := by decide +kernel
theorem d_Mod_cut_142 : decode b_Mod_cut 142 = .ok (.return_, 1) := by decide +kernel
theorem d_Mod_open_0 : decode b_Mod_open 0 = .ok (.aload_n 0, 1) := by decide +kernel
theorem d_Mod_open_1 : decode b_Mod_open 1 = .ok (.iload_n 1, 1) := by decide +kernel
theorem d_Mod_open_2 : decode b_Mod_open 2 = .ok (.invokevirtual 138, 3) := by decide +kernel
theorem d_Mod_open_5 : decode b_Mod_open 5 = .ok (.aload_n 0, 1) := by decide +kernel
theorem d_Mod_open_6 : decode b_Mod_open 6 = .ok (.getfield 28, 3) := by decide +kernel
theorem d_Mod_open_9 : decode b_Mod_open 9 = .ok (.iload_n 1, 1) := by decide +kernel
theorem d_Mod_open_10 : decode b_Mod_open 10 = .ok (.iconst 0, 1) := by decide +kernel
theorem d_Mod_open_11 : decode b_Mod_open 11 = .ok (.iastore, 1) := by decide +kernel
theorem d_Mod_open_12 : decode b_Mod_open 12 = .ok (.aload_n 0, 1) := by decide +kernel
theorem d_Mod_open_13 : decode b_Mod_open 13 = .ok (.getfield 31, 3) := by decide +kernel
theorem d_Mod_open_16 : decode b_Mod_open 16 = .ok (.iload_n 1, 1) := by decide +kernel
theorem d_Mod_open_17 : decode b_Mod_open 17 = .ok (.aload_n 0, 1) := by decide +kernel
theorem d_Mod_open_18 : decode b_Mod_open 18 = .ok (.invokevirtual 141, 3) := by decide +kernel
theorem d_Mod_open_21 : decode b_Mod_open 21 = .ok (.bastore, 1) := by decide +kernel
theorem d_Mod_open_22 : decode b_Mod_open 22 = .ok (.aload_n 0, 1) := by decide +kernel
theorem d_Mod_open_23 : decode b_Mod_open 23 = .ok (.getfield 31, 3) := by decide +kernel
theorem d_Mod_open_26 : decode b_Mod_open 26 = .ok (.iload_n 1, 1) := by decide +kernel
theorem d_Mod_open_27 : decode b_Mod_open 27 = .ok (.baload, 1) := by decide +kernel
theorem d_Mod_open_28 : decode b_Mod_open 28 = .ok (.ifCond .ne 4, 3) := by decide +kernel
theorem d_Mod_open_31 : decode b_Mod_open 31 = .ok (.return_, 1) := by decide +kernel
theorem d_Mod_open_32 : decode b_Mod_open 32 = .ok (.aload_n 0, 1) := by decide +kernel
theorem d_Mod_open_33 : decode b_Mod_open 33 = .ok (.iconst 4, 1) := by decide +kernel
theorem d_Mod_open_34 : decode b_Mod_open 34 = .ok (.invokevirtual 145, 3) := by decide +kernel
theorem d_Mod_open_37 : decode b_Mod_open 37 = .ok (.istore_n 2, 1) := by decide +kernel
theorem d_Mod_open_38 : decode b_Mod_open 38 = .ok (.iconst 0, 1) := by decide +kernel
theorem d_Mod_open_39 : decode b_Mod_open 39 = .ok (.istore_n 3, 1) := by decide +kernel
theorem d_Mod_open_40 : decode b_Mod_open 40 = .ok (.iconst 0, 1) := by decide +kernel
theorem d_Mod_open_41 : decode b_Mod_open 41 = .ok (.istore 4, 2) := by decide +kernel
theorem d_Mod_open_43 : decode b_Mod_open 43 = .ok (.iload 4, 2) := by decide +kernel
theorem d_Mod_open_45 : decode b_Mod_open 45 = .ok (.aload_n 0, 1) := by decide +kernel
theorem d_Mod_open_46 : decode b_Mod_open 46 = .ok (.getfield 64, 3) := by decide +kernel
theorem d_Mod_open_49 : decode b_Mod_open 49 = .ok (.if_icmp .ge 35, 3) := by decide +kernel
theorem d_Mod_open_52 : decode b_Mod_open 52 = .ok (.iload_n 2, 1) := by decide +kernel
theorem d_Mod_open_53 : decode b_Mod_open 53 = .ok (.ifCond .eq 31, 3) := by decide +kernel
theorem d_Mod_open_56 : decode b_Mod_open 56 = .ok (.iload_n 3, 1) := by decide +kernel
theorem d_Mod_open_57 : decode b_Mod_open 57 = .ok (.ifCond .ne 15, 3) := by decide +kernel
theorem d_Mod_open_60 : decode b_Mod_open 60 = .ok (.aload_n 0, 1) := by decide +kernel
theorem d_Mod_open_61 : decode b_Mod_open 61 = .ok (.getfield 16, 3) := by decide +kernel
theorem d_Mod_open_64 : decode b_Mod_open 64 = .ok (.iload 4, 2) := by decide +kernel
theorem d_Mod_open_66 : decode b_Mod_open 66 = .ok (.iaload, 1) := by decide +kernel
theorem d_Mod_open_67 : decode b_Mod_open 67 = .ok (.bipush 127, 2) := by decide +kernel
theorem d_Mod_open_69 : decode b_Mod_open 69 = .ok (.if_icmp .le 7, 3) := by decide +kernel
theorem d_Mod_open_72 : decode b_Mod_open 72 = .ok (.iconst 1, 1) := by decide +kernel
theorem d_Mod_open_73 : decode b_Mod_open 73 = .ok (.goto 4, 3) := by decide +kernel
theorem d_Mod_open_76 : decode b_Mod_open 76 = .ok (.iconst 0, 1) := by decide +kernel
theorem d_Mod_open_77 : decode b_Mod_open 77 = .ok (.istore_n 3, 1) := by decide +kernel
theorem d_Mod_open_78 : decode b_Mod_open 78 = .ok (.iinc 4 1, 3) := by decide +kernel
theorem d_Mod_open_81 : decode b_Mod_open 81 = .ok (.goto (-38), 3) := by decide +kernel
theorem d_Mod_open_84 : decode b_Mod_open 84 = .ok (.iload_n 2, 1) := by decide +kernel
theorem d_Mod_open_85 : decode b_Mod_open 85 = .ok (.ifCond .eq 15, 3) := by decide +kernel
theorem d_Mod_open_88 : decode b_Mod_open 88 = .ok (.iload_n 3, 1) := by decide +kernel
theorem d_Mod_open_89 : decode b_Mod_open 89 = .ok (.ifCond .eq 11, 3) := by decide +kernel
theorem d_Mod_open_92 : decode b_Mod_open 92 = .ok (.aload_n 0, 1) := by decide +kernel
theorem d_Mod_open_93 : decode b_Mod_open 93 = .ok (.iload_n 1, 1) := by decide +kernel
theorem d_Mod_open_94 : decode b_Mod_open 94 = .ok (.invokevirtual 148, 3) := by decide +kernel
theorem d_Mod_open_97 : decode b_Mod_open 97 = .ok (.goto 10, 3) := by decide +kernel
theorem d_Mod_open_100 : decode b_Mod_open 100 = .ok (.aload_n 0, 1) := by decide +kernel
theorem d_Mod_open_101 : decode b_Mod_open 101 = .ok (.getfield 28, 3) := by decide +kernel
theorem d_Mod_open_104 : decode b_Mod_open 104 = .ok (.iload_n 1, 1) := by decide +kernel
theorem d_Mod_open_105 : decode b_Mod_open 105 = .ok (.iconst 2, 1) := by decide +kernel
theorem d_Mod_open_106 : decode b_Mod_open 106 = .ok (.iastore, 1) := by decide +kernel
theorem d_Mod_open_107 : decode b_Mod_open 107 = .ok (.return_, 1) := by decide +kernel
theorem d_Mod_codeOf_0 : decode b_Mod_codeOf 0 = .ok (.aload_n 0, 1) := by decide +kernel
theorem d_Mod_codeOf_1 : decode b_Mod_codeOf 1 = .ok (.getfield 35, 3) := by decide +kernel
theorem d_Mod_codeOf_4 : decode b_Mod_codeOf 4 = .ok (.aload_n 0, 1) := by decide +kernel
theorem d_Mod_codeOf_5 : decode b_Mod_codeOf 5 = .ok (.getfield 22, 3) := by decide +kernel
theorem d_Mod_codeOf_8 : decode b_Mod_codeOf 8 = .ok (.iload_n 1, 1) := by decide +kernel
theorem d_Mod_codeOf_9 : decode b_Mod_codeOf 9 = .ok (.iaload, 1) := by decide +kernel
theorem d_Mod_codeOf_10 : decode b_Mod_codeOf 10 = .ok (.iload_n 2, 1) := by decide +kernel
theorem d_Mod_codeOf_11 : decode b_Mod_codeOf 11 = .ok (.iadd, 1) := by decide +kernel
theorem d_Mod_codeOf_12 : decode b_Mod_codeOf 12 = .ok (.iaload, 1) := by decide +kernel
theorem d_Mod_codeOf_13 : decode b_Mod_codeOf 13 = .ok (.ireturn, 1) := by decide +kernel
theorem d_Mod_composed_0 : decode b_Mod_composed 0 = .ok (.aload_n 0, 1) := by decide +kernel
theorem d_Mod_composed_1 : decode b_Mod_composed 1 = .ok (.iload_n 1, 1) := by decide +kernel
theorem d_Mod_composed_2 : decode b_Mod_composed 2 = .ok (.invokevirtual 138, 3) := by decide +kernel
theorem d_Mod_composed_5 : decode b_Mod_composed 5 = .ok (.aload_n 0, 1) := by decide +kernel
theorem d_Mod_composed_6 : decode b_Mod_composed 6 = .ok (.invokevirtual 151, 3) := by decide +kernel
theorem d_Mod_composed_9 : decode b_Mod_composed 9 = .ok (.aload_n 0, 1) := by decide +kernel
theorem d_Mod_composed_10 : decode b_Mod_composed 10 = .ok (.getfield 64, 3) := by decide +kernel
theorem d_Mod_composed_13 : decode b_Mod_composed 13 = .ok (.aload_n 0, 1) := by decide +kernel
theorem d_Mod_composed_14 : decode b_Mod_composed 14 = .ok (.getfield 25, 3) := by decide +kernel
theorem d_Mod_composed_17 : decode b_Mod_composed 17 = .ok (.iload_n 1, 1) := by decide +kernel
theorem d_Mod_composed_18 : decode b_Mod_composed 18 = .ok (.iaload, 1) := by decide +kernel
theorem d_Mod_composed_19 : decode b_Mod_composed 19 = .ok (.if_icmp .ne 7, 3) := by decide +kernel
theorem d_Mod_composed_22 : decode b_Mod_composed 22 = .ok (.iconst 1, 1) := by decide +kernel
theorem d_Mod_composed_23 : decode b_Mod_composed 23 = .ok (.goto 4, 3) := by decide +kernel
theorem d_Mod_composed_26 : decode b_Mod_composed 26 = .ok (.iconst 0, 1) := by decide +kernel
theorem d_Mod_composed_27 : decode b_Mod_composed 27 = .ok (.istore_n 2, 1) := by decide +kernel
theorem d_Mod_composed_28 : decode b_Mod_composed 28 = .ok (.iconst 0, 1) := by decide +kernel
theorem d_Mod_composed_29 : decode b_Mod_composed 29 = .ok (.istore_n 3, 1) := by decide +kernel
theorem d_Mod_composed_30 : decode b_Mod_composed 30 = .ok (.iload_n 3, 1) := by decide +kernel
theorem d_Mod_composed_31 : decode b_Mod_composed 31 = .ok (.aload_n 0, 1) := by decide +kernel
theorem d_Mod_composed_32 : decode b_Mod_composed 32 = .ok (.getfield 25, 3) := by decide +kernel
theorem d_Mod_composed_35 : decode b_Mod_composed 35 = .ok (.iload_n 1, 1) := by decide +kernel
theorem d_Mod_composed_36 : decode b_Mod_composed 36 = .ok (.iaload, 1) := by decide +kernel
theorem d_Mod_composed_37 : decode b_Mod_composed 37 = .ok (.if_icmp .ge 34, 3) := by decide +kernel
theorem d_Mod_composed_40 : decode b_Mod_composed 40 = .ok (.iload_n 2, 1) := by decide +kernel
theorem d_Mod_composed_41 : decode b_Mod_composed 41 = .ok (.ifCond .eq 30, 3) := by decide +kernel
theorem d_Mod_composed_44 : decode b_Mod_composed 44 = .ok (.aload_n 0, 1) := by decide +kernel
theorem d_Mod_composed_45 : decode b_Mod_composed 45 = .ok (.getfield 16, 3) := by decide +kernel
theorem d_Mod_composed_48 : decode b_Mod_composed 48 = .ok (.iload_n 3, 1) := by decide +kernel
theorem d_Mod_composed_49 : decode b_Mod_composed 49 = .ok (.iaload, 1) := by decide +kernel
theorem d_Mod_composed_50 : decode b_Mod_composed 50 = .ok (.aload_n 0, 1) := by decide +kernel
theorem d_Mod_composed_51 : decode b_Mod_composed 51 = .ok (.iload_n 1, 1) := by decide +kernel
theorem d_Mod_composed_52 : decode b_Mod_composed 52 = .ok (.iload_n 3, 1) := by decide +kernel
theorem d_Mod_composed_53 : decode b_Mod_composed 53 = .ok (.invokevirtual 154, 3) := by decide +kernel
theorem d_Mod_composed_56 : decode b_Mod_composed 56 = .ok (.if_icmp .ne 7, 3) := by decide +kernel
theorem d_Mod_composed_59 : decode b_Mod_composed 59 = .ok (.iconst 1, 1) := by decide +kernel
theorem d_Mod_composed_60 : decode b_Mod_composed 60 = .ok (.goto 4, 3) := by decide +kernel
theorem d_Mod_composed_63 : decode b_Mod_composed 63 = .ok (.iconst 0, 1) := by decide +kernel
theorem d_Mod_composed_64 : decode b_Mod_composed 64 = .ok (.istore_n 2, 1) := by decide +kernel
theorem d_Mod_composed_65 : decode b_Mod_composed 65 = .ok (.iinc 3 1, 3) := by decide +kernel
theorem d_Mod_composed_68 : decode b_Mod_composed 68 = .ok (.goto (-38), 3) := by decide +kernel
theorem d_Mod_composed_71 : decode b_Mod_composed 71 = .ok (.iload_n 2, 1) := by decide +kernel
theorem d_Mod_composed_72 : decode b_Mod_composed 72 = .ok (.ireturn, 1) := by decide +kernel
theorem d_Mod_allGood_0 : decode b_Mod_allGood 0 = .ok (.iconst 1, 1) := by decide +kernel
theorem d_Mod_allGood_1 : decode b_Mod_allGood 1 = .ok (.istore_n 3, 1) := by decide +kernel
theorem d_Mod_allGood_2 : decode b_Mod_allGood 2 = .ok (.iconst 0, 1) := by decide +kernel
theorem d_Mod_allGood_3 : decode b_Mod_allGood 3 = .ok (.istore 4, 2) := by decide +kernel
theorem d_Mod_allGood_5 : decode b_Mod_allGood 5 = .ok (.iload 4, 2) := by decide +kernel
theorem d_Mod_allGood_7 : decode b_Mod_allGood 7 = .ok (.aload_n 0, 1) := by decide +kernel
theorem d_Mod_allGood_8 : decode b_Mod_allGood 8 = .ok (.getfield 25, 3) := by decide +kernel
theorem d_Mod_allGood_11 : decode b_Mod_allGood 11 = .ok (.iload_n 1, 1) := by decide +kernel
theorem d_Mod_allGood_12 : decode b_Mod_allGood 12 = .ok (.iaload, 1) := by decide +kernel
theorem d_Mod_allGood_13 : decode b_Mod_allGood 13 = .ok (.if_icmp .ge 89, 3) := by decide +kernel
theorem d_Mod_allGood_16 : decode b_Mod_allGood 16 = .ok (.aload_n 0, 1) := by decide +kernel
theorem d_Mod_allGood_17 : decode b_Mod_allGood 17 = .ok (.iload_n 1, 1) := by decide +kernel
theorem d_Mod_allGood_18 : decode b_Mod_allGood 18 = .ok (.iload 4, 2) := by decide +kernel
theorem d_Mod_allGood_20 : decode b_Mod_allGood 20 = .ok (.invokevirtual 154, 3) := by decide +kernel
theorem d_Mod_allGood_23 : decode b_Mod_allGood 23 = .ok (.istore 5, 2) := by decide +kernel
theorem d_Mod_allGood_25 : decode b_Mod_allGood 25 = .ok (.iload 5, 2) := by decide +kernel
theorem d_Mod_allGood_27 : decode b_Mod_allGood 27 = .ok (.invokestatic 116, 3) := by decide +kernel
theorem d_Mod_allGood_30 : decode b_Mod_allGood 30 = .ok (.ifCond .eq 24, 3) := by decide +kernel
theorem d_Mod_allGood_33 : decode b_Mod_allGood 33 = .ok (.aload_n 0, 1) := by decide +kernel
theorem d_Mod_allGood_34 : decode b_Mod_allGood 34 = .ok (.getfield 31, 3) := by decide +kernel
theorem d_Mod_allGood_37 : decode b_Mod_allGood 37 = .ok (.iload_n 1, 1) := by decide +kernel
theorem d_Mod_allGood_38 : decode b_Mod_allGood 38 = .ok (.baload, 1) := by decide +kernel
theorem d_Mod_allGood_39 : decode b_Mod_allGood 39 = .ok (.ifCond .ne 11, 3) := by decide +kernel
theorem d_Mod_allGood_42 : decode b_Mod_allGood 42 = .ok (.iload_n 2, 1) := by decide +kernel
theorem d_Mod_allGood_43 : decode b_Mod_allGood 43 = .ok (.iconst 2, 1) := by decide +kernel
theorem d_Mod_allGood_44 : decode b_Mod_allGood 44 = .ok (.invokestatic 119, 3) := by decide +kernel
theorem d_Mod_allGood_47 : decode b_Mod_allGood 47 = .ok (.ifCond .ne 7, 3) := by decide +kernel
theorem d_Mod_allGood_50 : decode b_Mod_allGood 50 = .ok (.iconst 1, 1) := by decide +kernel
theorem d_Mod_allGood_51 : decode b_Mod_allGood 51 = .ok (.goto 4, 3) := by decide +kernel
theorem d_Mod_allGood_54 : decode b_Mod_allGood 54 = .ok (.iconst 0, 1) := by decide +kernel
theorem d_Mod_allGood_55 : decode b_Mod_allGood 55 = .ok (.istore 6, 2) := by decide +kernel
theorem d_Mod_allGood_57 : decode b_Mod_allGood 57 = .ok (.iload_n 3, 1) := by decide +kernel
theorem d_Mod_allGood_58 : decode b_Mod_allGood 58 = .ok (.ifCond .eq 36, 3) := by decide +kernel
theorem d_Mod_allGood_61 : decode b_Mod_allGood 61 = .ok (.iload 5, 2) := by decide +kernel
theorem d_Mod_allGood_63 : decode b_Mod_allGood 63 = .ok (.invokestatic 50, 3) := by decide +kernel
theorem d_Mod_allGood_66 : decode b_Mod_allGood 66 = .ok (.ifCond .ne 24, 3) := by decide +kernel
theorem d_Mod_allGood_69 : decode b_Mod_allGood 69 = .ok (.iload 5, 2) := by decide +kernel
theorem d_Mod_allGood_71 : decode b_Mod_allGood 71 = .ok (.invokestatic 129, 3) := by decide +kernel
theorem d_Mod_allGood_74 : decode b_Mod_allGood 74 = .ok (.ifCond .eq 11, 3) := by decide +kernel
theorem d_Mod_allGood_77 : decode b_Mod_allGood 77 = .ok (.iload_n 2, 1) := by decide +kernel
theorem d_Mod_allGood_78 : decode b_Mod_allGood 78 = .ok (.iconst 1, 1) := by decide +kernel
theorem d_Mod_allGood_79 : decode b_Mod_allGood 79 = .ok (.invokestatic 119, 3) := by decide +kernel
theorem d_Mod_allGood_82 : decode b_Mod_allGood 82 = .ok (.ifCond .eq 8, 3) := by decide +kernel
theorem d_Mod_allGood_85 : decode b_Mod_allGood 85 = .ok (.iload 6, 2) := by decide +kernel
theorem d_Mod_allGood_87 : decode b_Mod_allGood 87 = .ok (.ifCond .eq 7, 3) := by decide +kernel
theorem d_Mod_allGood_90 : decode b_Mod_allGood 90 = .ok (.iconst 1, 1) := by decide +kernel
theorem d_Mod_allGood_91 : decode b_Mod_allGood 91 = .ok (.goto 4, 3) := by decide +kernel
theorem d_Mod_allGood_94 : decode b_Mod_allGood 94 = .ok (.iconst 0, 1) := by decide +kernel
theorem d_Mod_allGood_95 : decode b_Mod_allGood 95 = .ok (.istore_n 3, 1) := by decide +kernel
theorem d_Mod_allGood_96 : decode b_Mod_allGood 96 = .ok (.iinc 4 1, 3) := by decide +kernel
theorem d_Mod_allGood_99 : decode b_Mod_allGood 99 = .ok (.goto (-94), 3) := by decide +kernel
theorem d_Mod_allGood_102 : decode b_Mod_allGood 102 = .ok (.iload_n 3, 1) := by decide +kernel
theorem d_Mod_allGood_103 : decode b_Mod_allGood 103 = .ok (.ireturn, 1) := by decide +kernel
theorem d_Mod_joins_0 : decode b_Mod_joins 0 = .ok (.iload_n 0, 1) := by decide +kernel
theorem d_Mod_joins_1 : decode b_Mod_joins 1 = .ok (.sipush 1575, 3) := by decide +kernel
theorem d_Mod_joins_4 : decode b_Mod_joins 4 = .ok (.if_icmp .ne 7, 3) := by decide +kernel
theorem d_Mod_joins_7 : decode b_Mod_joins 7 = .ok (.iconst 1, 1) := by decide +kernel
theorem d_Mod_joins_8 : decode b_Mod_joins 8 = .ok (.goto 33, 3) := by decide +kernel
theorem d_Mod_joins_11 : decode b_Mod_joins 11 = .ok (.iload_n 0, 1) := by decide +kernel
theorem d_Mod_joins_12 : decode b_Mod_joins 12 = .ok (.sipush 1576, 3) := by decide +kernel
theorem d_Mod_joins_15 : decode b_Mod_joins 15 = .ok (.if_icmp .ne 7, 3) := by decide +kernel
theorem d_Mod_joins_18 : decode b_Mod_joins 18 = .ok (.iconst 2, 1) := by decide +kernel
theorem d_Mod_joins_19 : decode b_Mod_joins 19 = .ok (.goto 22, 3) := by decide +kernel
theorem d_Mod_joins_22 : decode b_Mod_joins 22 = .ok (.iload_n 0, 1) := by decide +kernel
theorem d_Mod_joins_23 : decode b_Mod_joins 23 = .ok (.sipush 1614, 3) := by decide +kernel
theorem d_Mod_joins_26 : decode b_Mod_joins 26 = .ok (.if_icmp .eq 10, 3) := by decide +kernel
theorem d_Mod_joins_29 : decode b_Mod_joins 29 = .ok (.iload_n 0, 1) := by decide +kernel
theorem d_Mod_joins_30 : decode b_Mod_joins 30 = .ok (.sipush 2381, 3) := by decide +kernel
theorem d_Mod_joins_33 : decode b_Mod_joins 33 = .ok (.if_icmp .ne 7, 3) := by decide +kernel
theorem d_Mod_joins_36 : decode b_Mod_joins 36 = .ok (.iconst 3, 1) := by decide +kernel
theorem d_Mod_joins_37 : decode b_Mod_joins 37 = .ok (.goto 4, 3) := by decide +kernel
theorem d_Mod_joins_40 : decode b_Mod_joins 40 = .ok (.iconst 0, 1) := by decide +kernel
theorem d_Mod_joins_41 : decode b_Mod_joins 41 = .ok (.ireturn, 1) := by decide +kernel
theorem d_Mod_across_0 : decode b_Mod_across 0 = .ok (.iload_n 2, 1) := by decide +kernel
theorem d_Mod_across_1 : decode b_Mod_across 1 = .ok (.iload_n 3, 1) := by decide +kernel
theorem d_Mod_across_2 : decode b_Mod_across 2 = .ok (.iadd, 1) := by decide +kernel
theorem d_Mod_across_3 : decode b_Mod_across 3 = .ok (.istore 4, 2) := by decide +kernel
theorem d_Mod_across_5 : decode b_Mod_across 5 = .ok (.iload 4, 2) := by decide +kernel
theorem d_Mod_across_7 : decode b_Mod_across 7 = .ok (.ifCond .lt 37, 3) := by decide +kernel
theorem d_Mod_across_10 : decode b_Mod_across 10 = .ok (.iload 4, 2) := by decide +kernel
theorem d_Mod_across_12 : decode b_Mod_across 12 = .ok (.aload_n 0, 1) := by decide +kernel
theorem d_Mod_across_13 : decode b_Mod_across 13 = .ok (.getfield 25, 3) := by decide +kernel
theorem d_Mod_across_16 : decode b_Mod_across 16 = .ok (.iload_n 1, 1) := by decide +kernel
theorem d_Mod_across_17 : decode b_Mod_across 17 = .ok (.iaload, 1) := by decide +kernel
theorem d_Mod_across_18 : decode b_Mod_across 18 = .ok (.if_icmp .ge 26, 3) := by decide +kernel
theorem d_Mod_across_21 : decode b_Mod_across 21 = .ok (.aload_n 0, 1) := by decide +kernel
theorem d_Mod_across_22 : decode b_Mod_across 22 = .ok (.iload_n 1, 1) := by decide +kernel
theorem d_Mod_across_23 : decode b_Mod_across 23 = .ok (.iload 4, 2) := by decide +kernel
theorem d_Mod_across_25 : decode b_Mod_across 25 = .ok (.invokevirtual 154, 3) := by decide +kernel
theorem d_Mod_across_28 : decode b_Mod_across 28 = .ok (.invokestatic 157, 3) := by decide +kernel
theorem d_Mod_across_31 : decode b_Mod_across 31 = .ok (.iconst 3, 1) := by decide +kernel
theorem d_Mod_across_32 : decode b_Mod_across 32 = .ok (.if_icmp .ne 12, 3) := by decide +kernel
theorem d_Mod_across_35 : decode b_Mod_across 35 = .ok (.iload 4, 2) := by decide +kernel
theorem d_Mod_across_37 : decode b_Mod_across 37 = .ok (.iload_n 3, 1) := by decide +kernel
theorem d_Mod_across_38 : decode b_Mod_across 38 = .ok (.iadd, 1) := by decide +kernel
theorem d_Mod_across_39 : decode b_Mod_across 39 = .ok (.istore 4, 2) := by decide +kernel
theorem d_Mod_across_41 : decode b_Mod_across 41 = .ok (.goto (-36), 3) := by decide +kernel
theorem d_Mod_across_44 : decode b_Mod_across 44 = .ok (.iload 4, 2) := by decide +kernel
theorem d_Mod_across_46 : decode b_Mod_across 46 = .ok (.ifCond .lt 24, 3) := by decide +kernel
theorem d_Mod_across_49 : decode b_Mod_across 49 = .ok (.iload 4, 2) := by decide +kernel
theorem d_Mod_across_51 : decode b_Mod_across 51 = .ok (.aload_n 0, 1) := by decide +kernel
theorem d_Mod_across_52 : decode b_Mod_across 52 = .ok (.getfield 25, 3) := by decide +kernel
theorem d_Mod_across_55 : decode b_Mod_across 55 = .ok (.iload_n 1, 1) := by decide +kernel
theorem d_Mod_across_56 : decode b_Mod_across 56 = .ok (.iaload, 1) := by decide +kernel
theorem d_Mod_across_57 : decode b_Mod_across 57 = .ok (.if_icmp .ge 13, 3) := by decide +kernel
theorem d_Mod_across_60 : decode b_Mod_across 60 = .ok (.aload_n 0, 1) := by decide +kernel
theorem d_Mod_across_61 : decode b_Mod_across 61 = .ok (.iload_n 1, 1) := by decide +kernel
theorem d_Mod_across_62 : decode b_Mod_across 62 = .ok (.iload 4, 2) := by decide +kernel
theorem d_Mod_across_64 : decode b_Mod_across 64 = .ok (.invokevirtual 154, 3) := by decide +kernel
theorem d_Mod_across_67 : decode b_Mod_across 67 = .ok (.goto 4, 3) := by decide +kernel
theorem d_Mod_across_70 : decode b_Mod_across 70 = .ok (.iconst (-1), 1) := by decide +kernel
theorem d_Mod_across_71 : decode b_Mod_across 71 = .ok (.ireturn, 1) := by decide +kernel
theorem d_Mod_joinersRight_0 : decode b_Mod_joinersRight 0 = .ok (.iconst 1, 1) := by decide +kernel
theorem d_Mod_joinersRight_1 : decode b_Mod_joinersRight 1 = .ok (.istore_n 2, 1) := by decide +kernel
theorem d_Mod_joinersRight_2 : decode b_Mod_joinersRight 2 = .ok (.iconst 0, 1) := by decide +kernel
theorem d_Mod_joinersRight_3 : decode b_Mod_joinersRight 3 = .ok (.istore_n 3, 1) := by decide +kernel
theorem d_Mod_joinersRight_4 : decode b_Mod_joinersRight 4 = .ok (.iload_n 3, 1) := by decide +kernel
theorem d_Mod_joinersRight_5 : decode b_Mod_joinersRight 5 = .ok (.aload_n 0, 1) := by decide +kernel
theorem d_Mod_joinersRight_6 : decode b_Mod_joinersRight 6 = .ok (.getfield 25, 3) := by decide +kernel
theorem d_Mod_joinersRight_9 : decode b_Mod_joinersRight 9 = .ok (.iload_n 1, 1) := by decide +kernel
theorem d_Mod_joinersRight_10 : decode b_Mod_joinersRight 10 = .ok (.iaload, 1) := by decide +kernel
theorem d_Mod_joinersRight_11 : decode b_Mod_joinersRight 11 = .ok (.if_icmp .ge 140, 3) := by decide +kernel
theorem d_Mod_joinersRight_14 : decode b_Mod_joinersRight 14 = .ok (.aload_n 0, 1) := by decide +kernel
theorem d_Mod_joinersRight_15 : decode b_Mod_joinersRight 15 = .ok (.iload_n 1, 1) := by decide +kernel
theorem d_Mod_joinersRight_16 : decode b_Mod_joinersRight 16 = .ok (.iload_n 3, 1) := by decide +kernel
theorem d_Mod_joinersRight_17 : decode b_Mod_joinersRight 17 = .ok (.invokevirtual 154, 3) := by decide +kernel
theorem d_Mod_joinersRight_20 : decode b_Mod_joinersRight 20 = .ok (.istore 4, 2) := by decide +kernel
theorem d_Mod_joinersRight_22 : decode b_Mod_joinersRight 22 = .ok (.iload_n 3, 1) := by decide +kernel
theorem d_Mod_joinersRight_23 : decode b_Mod_joinersRight 23 = .ok (.ifCond .le 23, 3) := by decide +kernel
theorem d_Mod_joinersRight_26 : decode b_Mod_joinersRight 26 = .ok (.aload_n 0, 1) := by decide +kernel
theorem d_Mod_joinersRight_27 : decode b_Mod_joinersRight 27 = .ok (.iload_n 1, 1) := by decide +kernel
theorem d_Mod_joinersRight_28 : decode b_Mod_joinersRight 28 = .ok (.iload_n 3, 1) := by decide +kernel
theorem d_Mod_joinersRight_29 : decode b_Mod_joinersRight 29 = .ok (.iconst 1, 1) := by decide +kernel
theorem d_Mod_joinersRight_30 : decode b_Mod_joinersRight 30 = .ok (.isub, 1) := by decide +kernel
theorem d_Mod_joinersRight_31 : decode b_Mod_joinersRight 31 = .ok (.invokevirtual 154, 3) := by decide +kernel
theorem d_Mod_joinersRight_34 : decode b_Mod_joinersRight 34 = .ok (.invokestatic 45, 3) := by decide +kernel
theorem d_Mod_joinersRight_37 : decode b_Mod_joinersRight 37 = .ok (.bipush 9, 2) := by decide +kernel
theorem d_Mod_joinersRight_39 : decode b_Mod_joinersRight 39 = .ok (.if_icmp .ne 7, 3) := by decide +kernel
theorem d_Mod_joinersRight_42 : decode b_Mod_joinersRight 42 = .ok (.iconst 1, 1) := by decide +kernel
theorem d_Mod_joinersRight_43 : decode b_Mod_joinersRight 43 = .ok (.goto 4, 3) := by decide +kernel
theorem d_Mod_joinersRight_46 : decode b_Mod_joinersRight 46 = .ok (.iconst 0, 1) := by decide +kernel
theorem d_Mod_joinersRight_47 : decode b_Mod_joinersRight 47 = .ok (.istore 5, 2) := by decide +kernel
theorem d_Mod_joinersRight_49 : decode b_Mod_joinersRight 49 = .ok (.iload 4, 2) := by decide +kernel
theorem d_Mod_joinersRight_51 : decode b_Mod_joinersRight 51 = .ok (.sipush 8205, 3) := by decide +kernel
theorem d_Mod_joinersRight_54 : decode b_Mod_joinersRight 54 = .ok (.if_icmp .ne 18, 3) := by decide +kernel
theorem d_Mod_joinersRight_57 : decode b_Mod_joinersRight 57 = .ok (.iload_n 2, 1) := by decide +kernel
theorem d_Mod_joinersRight_58 : decode b_Mod_joinersRight 58 = .ok (.ifCond .eq 12, 3) := by decide +kernel
theorem d_Mod_joinersRight_61 : decode b_Mod_joinersRight 61 = .ok (.iload 5, 2) := by decide +kernel
theorem d_Mod_joinersRight_63 : decode b_Mod_joinersRight 63 = .ok (.ifCond .eq 7, 3) := by decide +kernel
theorem d_Mod_joinersRight_66 : decode b_Mod_joinersRight 66 = .ok (.iconst 1, 1) := by decide +kernel
theorem d_Mod_joinersRight_67 : decode b_Mod_joinersRight 67 = .ok (.goto 4, 3) := by decide +kernel
theorem d_Mod_joinersRight_70 : decode b_Mod_joinersRight 70 = .ok (.iconst 0, 1) := by decide +kernel
theorem d_Mod_joinersRight_71 : decode b_Mod_joinersRight 71 = .ok (.istore_n 2, 1) := by decide +kernel
theorem d_Mod_joinersRight_72 : decode b_Mod_joinersRight 72 = .ok (.iload 4, 2) := by decide +kernel
theorem d_Mod_joinersRight_74 : decode b_Mod_joinersRight 74 = .ok (.sipush 8204, 3) := by decide +kernel
theorem d_Mod_joinersRight_77 : decode b_Mod_joinersRight 77 = .ok (.if_icmp .ne 68, 3) := by decide +kernel
theorem d_Mod_joinersRight_80 : decode b_Mod_joinersRight 80 = .ok (.aload_n 0, 1) := by decide +kernel
theorem d_Mod_joinersRight_81 : decode b_Mod_joinersRight 81 = .ok (.iload_n 1, 1) := by decide +kernel
theorem d_Mod_joinersRight_82 : decode b_Mod_joinersRight 82 = .ok (.iload_n 3, 1) := by decide +kernel
theorem d_Mod_joinersRight_83 : decode b_Mod_joinersRight 83 = .ok (.iconst 1, 1) := by decide +kernel
theorem d_Mod_joinersRight_84 : decode b_Mod_joinersRight 84 = .ok (.invokevirtual 160, 3) := by decide +kernel
theorem d_Mod_joinersRight_87 : decode b_Mod_joinersRight 87 = .ok (.invokestatic 157, 3) := by decide +kernel
theorem d_Mod_joinersRight_90 : decode b_Mod_joinersRight 90 = .ok (.istore 6, 2) := by decide +kernel
theorem d_Mod_joinersRight_92 : decode b_Mod_joinersRight 92 = .ok (.aload_n 0, 1) := by decide +kernel
theorem d_Mod_joinersRight_93 : decode b_Mod_joinersRight 93 = .ok (.iload_n 1, 1) := by decide +kernel
theorem d_Mod_joinersRight_94 : decode b_Mod_joinersRight 94 = .ok (.iload_n 3, 1) := by decide +kernel
theorem d_Mod_joinersRight_95 : decode b_Mod_joinersRight 95 = .ok (.iconst (-1), 1) := by decide +kernel
theorem d_Mod_joinersRight_96 : decode b_Mod_joinersRight 96 = .ok (.invokevirtual 160, 3) := by decide +kernel
theorem d_Mod_joinersRight_99 : decode b_Mod_joinersRight 99 = .ok (.invokestatic 157, 3) := by decide +kernel
theorem d_Mod_joinersRight_102 : decode b_Mod_joinersRight 102 = .ok (.iconst 2, 1) := by decide +kernel
theorem d_Mod_joinersRight_103 : decode b_Mod_joinersRight 103 = .ok (.if_icmp .ne 19, 3) := by decide +kernel
theorem d_Mod_joinersRight_106 : decode b_Mod_joinersRight 106 = .ok (.iload 6, 2) := by decide +kernel
theorem d_Mod_joinersRight_108 : decode b_Mod_joinersRight 108 = .ok (.iconst 1, 1) := by decide +kernel
theorem d_Mod_joinersRight_109 : decode b_Mod_joinersRight 109 = .ok (.if_icmp .eq 9, 3) := by decide +kernel
theorem d_Mod_joinersRight_112 : decode b_Mod_joinersRight 112 = .ok (.iload 6, 2) := by decide +kernel
theorem d_Mod_joinersRight_114 : decode b_Mod_joinersRight 114 = .ok (.iconst 2, 1) := by decide +kernel
theorem d_Mod_joinersRight_115 : decode b_Mod_joinersRight 115 = .ok (.if_icmp .ne 7, 3) := by decide +kernel
theorem d_Mod_joinersRight_118 : decode b_Mod_joinersRight 118 = .ok (.iconst 1, 1) := by decide +kernel
theorem d_Mod_joinersRight_119 : decode b_Mod_joinersRight 119 = .ok (.goto 4, 3) := by decide +kernel
theorem d_Mod_joinersRight_122 : decode b_Mod_joinersRight 122 = .ok (.iconst 0, 1) := by decide +kernel
theorem d_Mod_joinersRight_123 : decode b_Mod_joinersRight 123 = .ok (.istore 7, 2) := by decide +kernel
theorem d_Mod_joinersRight_125 : decode b_Mod_joinersRight 125 = .ok (.iload_n 2, 1) := by decide +kernel
theorem d_Mod_joinersRight_126 : decode b_Mod_joinersRight 126 = .ok (.ifCond .eq 17, 3) := by decide +kernel
theorem d_Mod_joinersRight_129 : decode b_Mod_joinersRight 129 = .ok (.iload 5, 2) := by decide +kernel
theorem d_Mod_joinersRight_131 : decode b_Mod_joinersRight 131 = .ok (.ifCond .ne 8, 3) := by decide +kernel
theorem d_Mod_joinersRight_134 : decode b_Mod_joinersRight 134 = .ok (.iload 7, 2) := by decide +kernel
theorem d_Mod_joinersRight_136 : decode b_Mod_joinersRight 136 = .ok (.ifCond .eq 7, 3) := by decide +kernel
theorem d_Mod_joinersRight_139 : decode b_Mod_joinersRight 139 = .ok (.iconst 1, 1) := by decide +kernel
theorem d_Mod_joinersRight_140 : decode b_Mod_joinersRight 140 = .ok (.goto 4, 3) := by decide +kernel
theorem d_Mod_joinersRight_143 : decode b_Mod_joinersRight 143 = .ok (.iconst 0, 1) := by decide +kernel
theorem d_Mod_joinersRight_144 : decode b_Mod_joinersRight 144 = .ok (.istore_n 2, 1) := by decide +kernel
theorem d_Mod_joinersRight_145 : decode b_Mod_joinersRight 145 = .ok (.iinc 3 1, 3) := by decide +kernel
theorem d_Mod_joinersRight_148 : decode b_Mod_joinersRight 148 = .ok (.goto (-144), 3) := by decide +kernel
theorem d_Mod_joinersRight_151 : decode b_Mod_joinersRight 151 = .ok (.iload_n 2, 1) := by decide +kernel
theorem d_Mod_joinersRight_152 : decode b_Mod_joinersRight 152 = .ok (.ireturn, 1) := by decide +kernel
theorem d_Mod_directed_0 : decode b_Mod_directed 0 = .ok (.aload_n 0, 1) := by decide +kernel
theorem d_Mod_directed_1 : decode b_Mod_directed 1 = .ok (.getfield 25, 3) := by decide +kernel
theorem d_Mod_directed_4 : decode b_Mod_directed 4 = .ok (.iload_n 1, 1) := by decide +kernel
theorem d_Mod_directed_5 : decode b_Mod_directed 5 = .ok (.iaload, 1) := by decide +kernel
theorem d_Mod_directed_6 : decode b_Mod_directed 6 = .ok (.istore_n 2, 1) := by decide +kernel
theorem d_Mod_directed_7 : decode b_Mod_directed 7 = .ok (.iconst 0, 1) := by decide +kernel
theorem d_Mod_directed_8 : decode b_Mod_directed 8 = .ok (.istore_n 3, 1) := by decide +kernel
theorem d_Mod_directed_9 : decode b_Mod_directed 9 = .ok (.iconst 0, 1) := by decide +kernel
theorem d_Mod_directed_10 : decode b_Mod_directed 10 = .ok (.istore 4, 2) := by decide +kernel
theorem d_Mod_directed_12 : decode b_Mod_directed 12 = .ok (.iload 4, 2) := by decide +kernel
theorem d_Mod_directed_14 : decode b_Mod_directed 14 = .ok (.iload_n 2, 1) := by decide +kernel
theorem d_Mod_directed_15 : decode b_Mod_directed 15 = .ok (.if_icmp .ge 24, 3) := by decide +kernel
theorem d_Mod_directed_18 : decode b_Mod_directed 18 = .ok (.iload_n 3, 1) := by decide +kernel
theorem d_Mod_directed_19 : decode b_Mod_directed 19 = .ok (.iconst 1, 1) := by decide +kernel
theorem d_Mod_directed_20 : decode b_Mod_directed 20 = .ok (.aload_n 0, 1) := by decide +kernel
theorem d_Mod_directed_21 : decode b_Mod_directed 21 = .ok (.iload_n 1, 1) := by decide +kernel
theorem d_Mod_directed_22 : decode b_Mod_directed 22 = .ok (.iload 4, 2) := by decide +kernel
theorem d_Mod_directed_24 : decode b_Mod_directed 24 = .ok (.invokevirtual 154, 3) := by decide +kernel
theorem d_Mod_directed_27 : decode b_Mod_directed 27 = .ok (.invokestatic 164, 3) := by decide +kernel
theorem d_Mod_directed_30 : decode b_Mod_directed 30 = .ok (.ishl, 1) := by decide +kernel
theorem d_Mod_directed_31 : decode b_Mod_directed 31 = .ok (.ior, 1) := by decide +kernel
theorem d_Mod_directed_32 : decode b_Mod_directed 32 = .ok (.istore_n 3, 1) := by decide +kernel
theorem d_Mod_directed_33 : decode b_Mod_directed 33 = .ok (.iinc 4 1, 3) := by decide +kernel
theorem d_Mod_directed_36 : decode b_Mod_directed 36 = .ok (.goto (-24), 3) := by decide +kernel
theorem d_Mod_directed_39 : decode b_Mod_directed 39 = .ok (.iload_n 2, 1) := by decide +kernel
theorem d_Mod_directed_40 : decode b_Mod_directed 40 = .ok (.iconst 1, 1) := by decide +kernel
theorem d_Mod_directed_41 : decode b_Mod_directed 41 = .ok (.isub, 1) := by decide +kernel
theorem d_Mod_directed_42 : decode b_Mod_directed 42 = .ok (.istore 4, 2) := by decide +kernel
theorem d_Mod_directed_44 : decode b_Mod_directed 44 = .ok (.iload 4, 2) := by decide +kernel
theorem d_Mod_directed_46 : decode b_Mod_directed 46 = .ok (.ifCond .le 24, 3) := by decide +kernel
theorem d_Mod_directed_49 : decode b_Mod_directed 49 = .ok (.aload_n 0, 1) := by decide +kernel
theorem d_Mod_directed_50 : decode b_Mod_directed 50 = .ok (.iload_n 1, 1) := by decide +kernel
theorem d_Mod_directed_51 : decode b_Mod_directed 51 = .ok (.iload 4, 2) := by decide +kernel
theorem d_Mod_directed_53 : decode b_Mod_directed 53 = .ok (.invokevirtual 154, 3) := by decide +kernel
theorem d_Mod_directed_56 : decode b_Mod_directed 56 = .ok (.invokestatic 164, 3) := by decide +kernel
theorem d_Mod_directed_59 : decode b_Mod_directed 59 = .ok (.bipush 6, 2) := by decide +kernel
theorem d_Mod_directed_61 : decode b_Mod_directed 61 = .ok (.if_icmp .ne 9, 3) := by decide +kernel
theorem d_Mod_directed_64 : decode b_Mod_directed 64 = .ok (.iinc 4 ( -1), 3) := by decide +kernel
theorem d_Mod_directed_67 : decode b_Mod_directed 67 = .ok (.goto (-23), 3) := by decide +kernel
theorem d_Mod_directed_70 : decode b_Mod_directed 70 = .ok (.aload_n 0, 1) := by decide +kernel
theorem d_Mod_directed_71 : decode b_Mod_directed 71 = .ok (.iload_n 1, 1) := by decide +kernel
theorem d_Mod_directed_72 : decode b_Mod_directed 72 = .ok (.iload 4, 2) := by decide +kernel
theorem d_Mod_directed_74 : decode b_Mod_directed 74 = .ok (.invokevirtual 154, 3) := by decide +kernel
theorem d_Mod_directed_77 : decode b_Mod_directed 77 = .ok (.invokestatic 164, 3) := by decide +kernel
theorem d_Mod_directed_80 : decode b_Mod_directed 80 = .ok (.istore 5, 2) := by decide +kernel
theorem d_Mod_directed_82 : decode b_Mod_directed 82 = .ok (.aload_n 0, 1) := by decide +kernel
theorem d_Mod_directed_83 : decode b_Mod_directed 83 = .ok (.iload_n 1, 1) := by decide +kernel
theorem d_Mod_directed_84 : decode b_Mod_directed 84 = .ok (.iconst 0, 1) := by decide +kernel
theorem d_Mod_directed_85 : decode b_Mod_directed 85 = .ok (.invokevirtual 154, 3) := by decide +kernel
theorem d_Mod_directed_88 : decode b_Mod_directed 88 = .ok (.invokestatic 164, 3) := by decide +kernel
theorem d_Mod_directed_91 : decode b_Mod_directed 91 = .ok (.istore 6, 2) := by decide +kernel
theorem d_Mod_directed_93 : decode b_Mod_directed 93 = .ok (.iload 6, 2) := by decide +kernel
theorem d_Mod_directed_95 : decode b_Mod_directed 95 = .ok (.bipush 9, 2) := by decide +kernel
theorem d_Mod_directed_97 : decode b_Mod_directed 97 = .ok (.if_icmp .ne 29, 3) := by decide +kernel
theorem d_Mod_directed_100 : decode b_Mod_directed 100 = .ok (.iload_n 3, 1) := by decide +kernel
theorem d_Mod_directed_101 : decode b_Mod_directed 101 = .ok (.bipush 14, 2) := by decide +kernel
theorem d_Mod_directed_103 : decode b_Mod_directed 103 = .ok (.iand, 1) := by decide +kernel
theorem d_Mod_directed_104 : decode b_Mod_directed 104 = .ok (.ifCond .ne 20, 3) := by decide +kernel
theorem d_Mod_directed_107 : decode b_Mod_directed 107 = .ok (.iload 5, 2) := by decide +kernel
theorem d_Mod_directed_109 : decode b_Mod_directed 109 = .ok (.bipush 9, 2) := by decide +kernel
theorem d_Mod_directed_111 : decode b_Mod_directed 111 = .ok (.if_icmp .eq 9, 3) := by decide +kernel
theorem d_Mod_directed_114 : decode b_Mod_directed 114 = .ok (.iload 5, 2) := by decide +kernel
theorem d_Mod_directed_116 : decode b_Mod_directed 116 = .ok (.iconst 4, 1) := by decide +kernel
theorem d_Mod_directed_117 : decode b_Mod_directed 117 = .ok (.if_icmp .ne 7, 3) := by decide +kernel
theorem d_Mod_directed_120 : decode b_Mod_directed 120 = .ok (.iconst 1, 1) := by decide +kernel
theorem d_Mod_directed_121 : decode b_Mod_directed 121 = .ok (.goto 4, 3) := by decide +kernel
theorem d_Mod_directed_124 : decode b_Mod_directed 124 = .ok (.iconst 0, 1) := by decide +kernel
theorem d_Mod_directed_125 : decode b_Mod_directed 125 = .ok (.ireturn, 1) := by decide +kernel
theorem d_Mod_directed_126 : decode b_Mod_directed 126 = .ok (.iload_n 3, 1) := by decide +kernel
theorem d_Mod_directed_127 : decode b_Mod_directed 127 = .ok (.iconst 3, 1) := by decide +kernel
theorem d_Mod_directed_128 : decode b_Mod_directed 128 = .ok (.ishr, 1) := by decide +kernel
theorem d_Mod_directed_129 : decode b_Mod_directed 129 = .ok (.iconst 1, 1) := by decide +kernel
theorem d_Mod_directed_130 : decode b_Mod_directed 130 = .ok (.iand, 1) := by decide +kernel
theorem d_Mod_directed_131 : decode b_Mod_directed 131 = .ok (.iconst 1, 1) := by decide +kernel
theorem d_Mod_directed_132 : decode b_Mod_directed 132 = .ok (.if_icmp .ne 16, 3) := by decide +kernel
theorem d_Mod_directed_135 : decode b_Mod_directed 135 = .ok (.iload_n 3, 1) := by decide +kernel
theorem d_Mod_directed_136 : decode b_Mod_directed 136 = .ok (.iconst 4, 1) := by decide +kernel
theorem d_Mod_directed_137 : decode b_Mod_directed 137 = .ok (.ishr, 1) := by decide +kernel
theorem d_Mod_directed_138 : decode b_Mod_directed 138 = .ok (.iconst 1, 1) := by decide +kernel
theorem d_Mod_directed_139 : decode b_Mod_directed 139 = .ok (.iand, 1) := by decide +kernel
theorem d_Mod_directed_140 : decode b_Mod_directed 140 = .ok (.iconst 1, 1) := by decide +kernel
theorem d_Mod_directed_141 : decode b_Mod_directed 141 = .ok (.if_icmp .ne 7, 3) := by decide +kernel
theorem d_Mod_directed_144 : decode b_Mod_directed 144 = .ok (.iconst 1, 1) := by decide +kernel
theorem d_Mod_directed_145 : decode b_Mod_directed 145 = .ok (.goto 4, 3) := by decide +kernel
theorem d_Mod_directed_148 : decode b_Mod_directed 148 = .ok (.iconst 0, 1) := by decide +kernel
theorem d_Mod_directed_149 : decode b_Mod_directed 149 = .ok (.istore 7, 2) := by decide +kernel
theorem d_Mod_directed_151 : decode b_Mod_directed 151 = .ok (.iload 6, 2) := by decide +kernel
theorem d_Mod_directed_153 : decode b_Mod_directed 153 = .ok (.iconst 1, 1) := by decide +kernel
theorem d_Mod_directed_154 : decode b_Mod_directed 154 = .ok (.if_icmp .eq 9, 3) := by decide +kernel
theorem d_Mod_directed_157 : decode b_Mod_directed 157 = .ok (.iload 6, 2) := by decide +kernel
theorem d_Mod_directed_159 : decode b_Mod_directed 159 = .ok (.iconst 2, 1) := by decide +kernel
theorem d_Mod_directed_160 : decode b_Mod_directed 160 = .ok (.if_icmp .ne 33, 3) := by decide +kernel
theorem d_Mod_directed_163 : decode b_Mod_directed 163 = .ok (.iload_n 3, 1) := by decide +kernel
theorem d_Mod_directed_164 : decode b_Mod_directed 164 = .ok (.bipush 9, 2) := by decide +kernel
theorem d_Mod_directed_166 : decode b_Mod_directed 166 = .ok (.ishr, 1) := by decide +kernel
theorem d_Mod_directed_167 : decode b_Mod_directed 167 = .ok (.iconst 1, 1) := by decide +kernel
theorem d_Mod_directed_168 : decode b_Mod_directed 168 = .ok (.iand, 1) := by decide +kernel
theorem d_Mod_directed_169 : decode b_Mod_directed 169 = .ok (.ifCond .ne 24, 3) := by decide +kernel
theorem d_Mod_directed_172 : decode b_Mod_directed 172 = .ok (.iload 5, 2) := by decide +kernel
theorem d_Mod_directed_174 : decode b_Mod_directed 174 = .ok (.iconst 1, 1) := by decide +kernel
theorem d_Mod_directed_175 : decode b_Mod_directed 175 = .ok (.if_icmp .lt 18, 3) := by decide +kernel
theorem d_Mod_directed_178 : decode b_Mod_directed 178 = .ok (.iload 5, 2) := by decide +kernel
theorem d_Mod_directed_180 : decode b_Mod_directed 180 = .ok (.iconst 4, 1) := by decide +kernel
theorem d_Mod_directed_181 : decode b_Mod_directed 181 = .ok (.if_icmp .gt 12, 3) := by decide +kernel
theorem d_Mod_directed_184 : decode b_Mod_directed 184 = .ok (.iload 7, 2) := by decide +kernel
theorem d_Mod_directed_186 : decode b_Mod_directed 186 = .ok (.ifCond .ne 7, 3) := by decide +kernel
theorem d_Mod_directed_189 : decode b_Mod_directed 189 = .ok (.iconst 1, 1) := by decide +kernel
theorem d_Mod_directed_190 : decode b_Mod_directed 190 = .ok (.goto 4, 3) := by decide +kernel
theorem d_Mod_directed_193 : decode b_Mod_directed 193 = .ok (.iconst 0, 1) := by decide +kernel
theorem d_Mod_directed_194 : decode b_Mod_directed 194 = .ok (.ireturn, 1) := by decide +kernel
theorem d_Mod_anyRight_0 : decode b_Mod_anyRight 0 = .ok (.iconst 0, 1) := by decide +kernel
theorem d_Mod_anyRight_1 : decode b_Mod_anyRight 1 = .ok (.istore_n 1, 1) := by decide +kernel
theorem d_Mod_anyRight_2 : decode b_Mod_anyRight 2 = .ok (.iconst 0, 1) := by decide +kernel
theorem d_Mod_anyRight_3 : decode b_Mod_anyRight 3 = .ok (.istore_n 2, 1) := by decide +kernel
theorem d_Mod_anyRight_4 : decode b_Mod_anyRight 4 = .ok (.iload_n 2, 1) := by decide +kernel
theorem d_Mod_anyRight_5 : decode b_Mod_anyRight 5 = .ok (.aload_n 0, 1) := by decide +kernel
theorem d_Mod_anyRight_6 : decode b_Mod_anyRight 6 = .ok (.getfield 135, 3) := by decide +kernel
theorem d_Mod_anyRight_9 : decode b_Mod_anyRight 9 = .ok (.if_icmp .ge 50, 3) := by decide +kernel
theorem d_Mod_anyRight_12 : decode b_Mod_anyRight 12 = .ok (.iconst 0, 1) := by decide +kernel
theorem d_Mod_anyRight_13 : decode b_Mod_anyRight 13 = .ok (.istore_n 3, 1) := by decide +kernel
theorem d_Mod_anyRight_14 : decode b_Mod_anyRight 14 = .ok (.iload_n 3, 1) := by decide +kernel
theorem d_Mod_anyRight_15 : decode b_Mod_anyRight 15 = .ok (.aload_n 0, 1) := by decide +kernel
theorem d_Mod_anyRight_16 : decode b_Mod_anyRight 16 = .ok (.getfield 25, 3) := by decide +kernel
theorem d_Mod_anyRight_19 : decode b_Mod_anyRight 19 = .ok (.iload_n 2, 1) := by decide +kernel
theorem d_Mod_anyRight_20 : decode b_Mod_anyRight 20 = .ok (.iaload, 1) := by decide +kernel
theorem d_Mod_anyRight_21 : decode b_Mod_anyRight 21 = .ok (.if_icmp .ge 32, 3) := by decide +kernel
theorem d_Mod_anyRight_24 : decode b_Mod_anyRight 24 = .ok (.iload_n 1, 1) := by decide +kernel
theorem d_Mod_anyRight_25 : decode b_Mod_anyRight 25 = .ok (.ifCond .ne 16, 3) := by decide +kernel
theorem d_Mod_anyRight_28 : decode b_Mod_anyRight 28 = .ok (.aload_n 0, 1) := by decide +kernel
theorem d_Mod_anyRight_29 : decode b_Mod_anyRight 29 = .ok (.iload_n 2, 1) := by decide +kernel
theorem d_Mod_anyRight_30 : decode b_Mod_anyRight 30 = .ok (.iload_n 3, 1) := by decide +kernel
theorem d_Mod_anyRight_31 : decode b_Mod_anyRight 31 = .ok (.invokevirtual 154, 3) := by decide +kernel
theorem d_Mod_anyRight_34 : decode b_Mod_anyRight 34 = .ok (.invokestatic 164, 3) := by decide +kernel
theorem d_Mod_anyRight_37 : decode b_Mod_anyRight 37 = .ok (.iconst 3, 1) := by decide +kernel
theorem d_Mod_anyRight_38 : decode b_Mod_anyRight 38 = .ok (.if_icmp .gt 7, 3) := by decide +kernel
theorem d_Mod_anyRight_41 : decode b_Mod_anyRight 41 = .ok (.iconst 1, 1) := by decide +kernel
theorem d_Mod_anyRight_42 : decode b_Mod_anyRight 42 = .ok (.goto 4, 3) := by decide +kernel
theorem d_Mod_anyRight_45 : decode b_Mod_anyRight 45 = .ok (.iconst 0, 1) := by decide +kernel
theorem d_Mod_anyRight_46 : decode b_Mod_anyRight 46 = .ok (.istore_n 1, 1) := by decide +kernel
theorem d_Mod_anyRight_47 : decode b_Mod_anyRight 47 = .ok (.iinc 3 1, 3) := by decide +kernel
theorem d_Mod_anyRight_50 : decode b_Mod_anyRight 50 = .ok (.goto (-36), 3) := by decide +kernel
theorem d_Mod_anyRight_53 : decode b_Mod_anyRight 53 = .ok (.iinc 2 1, 3) := by decide +kernel
theorem d_Mod_anyRight_56 : decode b_Mod_anyRight 56 = .ok (.goto (-52), 3) := by decide +kernel
theorem d_Mod_anyRight_59 : decode b_Mod_anyRight 59 = .ok (.iload_n 1, 1) := by decide +kernel
theorem d_Mod_anyRight_60 : decode b_Mod_anyRight 60 = .ok (.ireturn, 1) := by decide +kernel
theorem d_Mod_hyphenRules_0 : decode b_Mod_hyphenRules 0 = .ok (.aload_n 0, 1) := by decide +kernel
theorem d_Mod_hyphenRules_1 : decode b_Mod_hyphenRules 1 = .ok (.getfield 25, 3) := by decide +kernel
theorem d_Mod_hyphenRules_4 : decode b_Mod_hyphenRules 4 = .ok (.iload_n 1, 1) := by decide +kernel
theorem d_Mod_hyphenRules_5 : decode b_Mod_hyphenRules 5 = .ok (.iaload, 1) := by decide +kernel
theorem d_Mod_hyphenRules_6 : decode b_Mod_hyphenRules 6 = .ok (.istore_n 2, 1) := by decide +kernel
theorem d_Mod_hyphenRules_7 : decode b_Mod_hyphenRules 7 = .ok (.iload_n 2, 1) := by decide +kernel
theorem d_Mod_hyphenRules_8 : decode b_Mod_hyphenRules 8 = .ok (.iconst 3, 1) := by decide +kernel
theorem d_Mod_hyphenRules_9 : decode b_Mod_hyphenRules 9 = .ok (.if_icmp .le 30, 3) := by decide +kernel
theorem d_Mod_hyphenRules_12 : decode b_Mod_hyphenRules 12 = .ok (.aload_n 0, 1) := by decide +kernel
theorem d_Mod_hyphenRules_13 : decode b_Mod_hyphenRules 13 = .ok (.iload_n 1, 1) := by decide +kernel
theorem d_Mod_hyphenRules_14 : decode b_Mod_hyphenRules 14 = .ok (.iconst 2, 1) := by decide +kernel
theorem d_Mod_hyphenRules_15 : decode b_Mod_hyphenRules 15 = .ok (.invokevirtual 154, 3) := by decide +kernel
theorem d_Mod_hyphenRules_18 : decode b_Mod_hyphenRules 18 = .ok (.bipush 45, 2) := by decide +kernel
theorem d_Mod_hyphenRules_20 : decode b_Mod_hyphenRules 20 = .ok (.if_icmp .ne 19, 3) := by decide +kernel
theorem d_Mod_hyphenRules_23 : decode b_Mod_hyphenRules 23 = .ok (.aload_n 0, 1) := by decide +kernel
theorem d_Mod_hyphenRules_24 : decode b_Mod_hyphenRules 24 = .ok (.iload_n 1, 1) := by decide +kernel
theorem d_Mod_hyphenRules_25 : decode b_Mod_hyphenRules 25 = .ok (.iconst 3, 1) := by decide +kernel
theorem d_Mod_hyphenRules_26 : decode b_Mod_hyphenRules 26 = .ok (.invokevirtual 154, 3) := by decide +kernel
theorem d_Mod_hyphenRules_29 : decode b_Mod_hyphenRules 29 = .ok (.bipush 45, 2) := by decide +kernel
theorem d_Mod_hyphenRules_31 : decode b_Mod_hyphenRules 31 = .ok (.if_icmp .ne 8, 3) := by decide +kernel
theorem d_Mod_hyphenRules_34 : decode b_Mod_hyphenRules 34 = .ok (.bipush 8, 2) := by decide +kernel
theorem d_Mod_hyphenRules_36 : decode b_Mod_hyphenRules 36 = .ok (.goto 4, 3) := by decide +kernel
theorem d_Mod_hyphenRules_39 : decode b_Mod_hyphenRules 39 = .ok (.iconst 0, 1) := by decide +kernel
theorem d_Mod_hyphenRules_40 : decode b_Mod_hyphenRules 40 = .ok (.istore_n 3, 1) := by decide +kernel
theorem d_Mod_hyphenRules_41 : decode b_Mod_hyphenRules 41 = .ok (.aload_n 0, 1) := by decide +kernel
theorem d_Mod_hyphenRules_42 : decode b_Mod_hyphenRules 42 = .ok (.iload_n 1, 1) := by decide +kernel
theorem d_Mod_hyphenRules_43 : decode b_Mod_hyphenRules 43 = .ok (.iconst 0, 1) := by decide +kernel
theorem d_Mod_hyphenRules_44 : decode b_Mod_hyphenRules 44 = .ok (.invokevirtual 154, 3) := by decide +kernel
theorem d_Mod_hyphenRules_47 : decode b_Mod_hyphenRules 47 = .ok (.bipush 45, 2) := by decide +kernel
theorem d_Mod_hyphenRules_49 : decode b_Mod_hyphenRules 49 = .ok (.if_icmp .eq 16, 3) := by decide +kernel
theorem d_Mod_hyphenRules_52 : decode b_Mod_hyphenRules 52 = .ok (.aload_n 0, 1) := by decide +kernel
theorem d_Mod_hyphenRules_53 : decode b_Mod_hyphenRules 53 = .ok (.iload_n 1, 1) := by decide +kernel
theorem d_Mod_hyphenRules_54 : decode b_Mod_hyphenRules 54 = .ok (.iload_n 2, 1) := by decide +kernel
theorem d_Mod_hyphenRules_55 : decode b_Mod_hyphenRules 55 = .ok (.iconst 1, 1) := by decide +kernel
theorem d_Mod_hyphenRules_56 : decode b_Mod_hyphenRules 56 = .ok (.isub, 1) := by decide +kernel
theorem d_Mod_hyphenRules_57 : decode b_Mod_hyphenRules 57 = .ok (.invokevirtual 154, 3) := by decide +kernel
theorem d_Mod_hyphenRules_60 : decode b_Mod_hyphenRules 60 = .ok (.bipush 45, 2) := by decide +kernel
theorem d_Mod_hyphenRules_62 : decode b_Mod_hyphenRules 62 = .ok (.if_icmp .ne 10, 3) := by decide +kernel
theorem d_Mod_hyphenRules_65 : decode b_Mod_hyphenRules 65 = .ok (.iload_n 3, 1) := by decide +kernel
theorem d_Mod_hyphenRules_66 : decode b_Mod_hyphenRules 66 = .ok (.bipush 16, 2) := by decide +kernel
theorem d_Mod_hyphenRules_68 : decode b_Mod_hyphenRules 68 = .ok (.iadd, 1) := by decide +kernel
theorem d_Mod_hyphenRules_69 : decode b_Mod_hyphenRules 69 = .ok (.goto 4, 3) := by decide +kernel
theorem d_Mod_hyphenRules_72 : decode b_Mod_hyphenRules 72 = .ok (.iload_n 3, 1) := by decide +kernel
theorem d_Mod_hyphenRules_73 : decode b_Mod_hyphenRules 73 = .ok (.ireturn, 1) := by decide +kernel
theorem d_Mod_check_0 : decode b_Mod_check 0 = .ok (.aload_n 0, 1) := by decide +kernel
theorem d_Mod_check_1 : decode b_Mod_check 1 = .ok (.iload_n 1, 1) := by decide +kernel
theorem d_Mod_check_2 : decode b_Mod_check 2 = .ok (.invokevirtual 167, 3) := by decide +kernel
theorem d_Mod_check_5 : decode b_Mod_check 5 = .ok (.ifCond .eq 7, 3) := by decide +kernel
theorem d_Mod_check_8 : decode b_Mod_check 8 = .ok (.iconst 0, 1) := by decide +kernel
theorem d_Mod_check_9 : decode b_Mod_check 9 = .ok (.goto 4, 3) := by decide +kernel
theorem d_Mod_check_12 : decode b_Mod_check 12 = .ok (.iconst 4, 1) := by decide +kernel
theorem d_Mod_check_13 : decode b_Mod_check 13 = .ok (.istore 4, 2) := by decide +kernel
theorem d_Mod_check_15 : decode b_Mod_check 15 = .ok (.iload_n 2, 1) := by decide +kernel
theorem d_Mod_check_16 : decode b_Mod_check 16 = .ok (.iconst 4, 1) := by decide +kernel
theorem d_Mod_check_17 : decode b_Mod_check 17 = .ok (.invokestatic 119, 3) := by decide +kernel
theorem d_Mod_check_20 : decode b_Mod_check 20 = .ok (.ifCond .eq 14, 3) := by decide +kernel
theorem d_Mod_check_23 : decode b_Mod_check 23 = .ok (.iload 4, 2) := by decide +kernel
theorem d_Mod_check_25 : decode b_Mod_check 25 = .ok (.aload_n 0, 1) := by decide +kernel
theorem d_Mod_check_26 : decode b_Mod_check 26 = .ok (.iload_n 1, 1) := by decide +kernel
theorem d_Mod_check_27 : decode b_Mod_check 27 = .ok (.invokevirtual 170, 3) := by decide +kernel
theorem d_Mod_check_30 : decode b_Mod_check 30 = .ok (.iadd, 1) := by decide +kernel
theorem d_Mod_check_31 : decode b_Mod_check 31 = .ok (.goto 5, 3) := by decide +kernel
theorem d_Mod_check_34 : decode b_Mod_check 34 = .ok (.iload 4, 2) := by decide +kernel
theorem d_Mod_check_36 : decode b_Mod_check 36 = .ok (.istore 4, 2) := by decide +kernel
theorem d_Mod_check_38 : decode b_Mod_check 38 = .ok (.aload_n 0, 1) := by decide +kernel
theorem d_Mod_check_39 : decode b_Mod_check 39 = .ok (.iload_n 1, 1) := by decide +kernel
theorem d_Mod_check_40 : decode b_Mod_check 40 = .ok (.invokevirtual 138, 3) := by decide +kernel
theorem d_Mod_check_43 : decode b_Mod_check 43 = .ok (.aload_n 0, 1) := by decide +kernel
theorem d_Mod_check_44 : decode b_Mod_check 44 = .ok (.invokevirtual 141, 3) := by decide +kernel
theorem d_Mod_check_47 : decode b_Mod_check 47 = .ok (.ifCond .eq 11, 3) := by decide +kernel
theorem d_Mod_check_50 : decode b_Mod_check 50 = .ok (.iload 4, 2) := by decide +kernel
theorem d_Mod_check_52 : decode b_Mod_check 52 = .ok (.bipush 32, 2) := by decide +kernel
theorem d_Mod_check_54 : decode b_Mod_check 54 = .ok (.iadd, 1) := by decide +kernel
theorem d_Mod_check_55 : decode b_Mod_check 55 = .ok (.goto 5, 3) := by decide +kernel
theorem d_Mod_check_58 : decode b_Mod_check 58 = .ok (.iload 4, 2) := by decide +kernel
theorem d_Mod_check_60 : decode b_Mod_check 60 = .ok (.istore 4, 2) := by decide +kernel
theorem d_Mod_check_62 : decode b_Mod_check 62 = .ok (.aload_n 0, 1) := by decide +kernel
theorem d_Mod_check_63 : decode b_Mod_check 63 = .ok (.iload_n 1, 1) := by decide +kernel
theorem d_Mod_check_64 : decode b_Mod_check 64 = .ok (.iconst 0, 1) := by decide +kernel
theorem d_Mod_check_65 : decode b_Mod_check 65 = .ok (.invokevirtual 154, 3) := by decide +kernel
theorem d_Mod_check_68 : decode b_Mod_check 68 = .ok (.invokestatic 45, 3) := by decide +kernel
theorem d_Mod_check_71 : decode b_Mod_check 71 = .ok (.ifCond .le 11, 3) := by decide +kernel
theorem d_Mod_check_74 : decode b_Mod_check 74 = .ok (.iload 4, 2) := by decide +kernel
theorem d_Mod_check_76 : decode b_Mod_check 76 = .ok (.bipush 64, 2) := by decide +kernel
theorem d_Mod_check_78 : decode b_Mod_check 78 = .ok (.iadd, 1) := by decide +kernel
theorem d_Mod_check_79 : decode b_Mod_check 79 = .ok (.goto 5, 3) := by decide +kernel
theorem d_Mod_check_82 : decode b_Mod_check 82 = .ok (.iload 4, 2) := by decide +kernel
theorem d_Mod_check_84 : decode b_Mod_check 84 = .ok (.istore 4, 2) := by decide +kernel
theorem d_Mod_check_86 : decode b_Mod_check 86 = .ok (.aload_n 0, 1) := by decide +kernel
theorem d_Mod_check_87 : decode b_Mod_check 87 = .ok (.iload_n 1, 1) := by decide +kernel
theorem d_Mod_check_88 : decode b_Mod_check 88 = .ok (.iload_n 2, 1) := by decide +kernel
theorem d_Mod_check_89 : decode b_Mod_check 89 = .ok (.invokevirtual 173, 3) := by decide +kernel
theorem d_Mod_check_92 : decode b_Mod_check 92 = .ok (.ifCond .eq 8, 3) := by decide +kernel
theorem d_Mod_check_95 : decode b_Mod_check 95 = .ok (.iload 4, 2) := by decide +kernel
theorem d_Mod_check_97 : decode b_Mod_check 97 = .ok (.goto 9, 3) := by decide +kernel
theorem d_Mod_check_100 : decode b_Mod_check 100 = .ok (.iload 4, 2) := by decide +kernel
theorem d_Mod_check_102 : decode b_Mod_check 102 = .ok (.sipush 128, 3) := by decide +kernel
theorem d_Mod_check_105 : decode b_Mod_check 105 = .ok (.iadd, 1) := by decide +kernel
theorem d_Mod_check_106 : decode b_Mod_check 106 = .ok (.istore 4, 2) := by decide +kernel
theorem d_Mod_check_108 : decode b_Mod_check 108 = .ok (.iload_n 2, 1) := by decide +kernel
theorem d_Mod_check_109 : decode b_Mod_check 109 = .ok (.bipush 8, 2) := by decide +kernel
theorem d_Mod_check_111 : decode b_Mod_check 111 = .ok (.invokestatic 119, 3) := by decide +kernel
theorem d_Mod_check_114 : decode b_Mod_check 114 = .ok (.ifCond .eq 20, 3) := by decide +kernel
theorem d_Mod_check_117 : decode b_Mod_check 117 = .ok (.aload_n 0, 1) := by decide +kernel
theorem d_Mod_check_118 : decode b_Mod_check 118 = .ok (.iload_n 1, 1) := by decide +kernel
theorem d_Mod_check_119 : decode b_Mod_check 119 = .ok (.invokevirtual 176, 3) := by decide +kernel
theorem d_Mod_check_122 : decode b_Mod_check 122 = .ok (.ifCond .ne 12, 3) := by decide +kernel
theorem d_Mod_check_125 : decode b_Mod_check 125 = .ok (.iload 4, 2) := by decide +kernel
theorem d_Mod_check_127 : decode b_Mod_check 127 = .ok (.sipush 256, 3) := by decide +kernel
theorem d_Mod_check_130 : decode b_Mod_check 130 = .ok (.iadd, 1) := by decide +kernel
theorem d_Mod_check_131 : decode b_Mod_check 131 = .ok (.goto 5, 3) := by decide +kernel
theorem d_Mod_check_134 : decode b_Mod_check 134 = .ok (.iload 4, 2) := by decide +kernel
theorem d_Mod_check_136 : decode b_Mod_check 136 = .ok (.istore 4, 2) := by decide +kernel
theorem d_Mod_check_138 : decode b_Mod_check 138 = .ok (.iload_n 3, 1) := by decide +kernel
theorem d_Mod_check_139 : decode b_Mod_check 139 = .ok (.ifCond .eq 20, 3) := by decide +kernel
theorem d_Mod_check_142 : decode b_Mod_check 142 = .ok (.aload_n 0, 1) := by decide +kernel
theorem d_Mod_check_143 : decode b_Mod_check 143 = .ok (.iload_n 1, 1) := by decide +kernel
theorem d_Mod_check_144 : decode b_Mod_check 144 = .ok (.invokevirtual 179, 3) := by decide +kernel
theorem d_Mod_check_147 : decode b_Mod_check 147 = .ok (.ifCond .ne 12, 3) := by decide +kernel
theorem d_Mod_check_150 : decode b_Mod_check 150 = .ok (.iload 4, 2) := by decide +kernel
theorem d_Mod_check_152 : decode b_Mod_check 152 = .ok (.sipush 512, 3) := by decide +kernel
theorem d_Mod_check_155 : decode b_Mod_check 155 = .ok (.iadd, 1) := by decide +kernel
theorem d_Mod_check_156 : decode b_Mod_check 156 = .ok (.goto 5, 3) := by decide +kernel
theorem d_Mod_check_159 : decode b_Mod_check 159 = .ok (.iload 4, 2) := by decide +kernel
theorem d_Mod_check_161 : decode b_Mod_check 161 = .ok (.ireturn, 1) := by decide +kernel
theorem d_Mod_give_0 : decode b_Mod_give 0 = .ok (.aload_n 0, 1) := by decide +kernel
theorem d_Mod_give_1 : decode b_Mod_give 1 = .ok (.iconst 0, 1) := by decide +kernel
theorem d_Mod_give_2 : decode b_Mod_give 2 = .ok (.putfield 77, 3) := by decide +kernel
theorem d_Mod_give_5 : decode b_Mod_give 5 = .ok (.iconst 0, 1) := by decide +kernel
theorem d_Mod_give_6 : decode b_Mod_give 6 = .ok (.istore_n 3, 1) := by decide +kernel
theorem d_Mod_give_7 : decode b_Mod_give 7 = .ok (.iload_n 3, 1) := by decide +kernel
theorem d_Mod_give_8 : decode b_Mod_give 8 = .ok (.aload_n 0, 1) := by decide +kernel
theorem d_Mod_give_9 : decode b_Mod_give 9 = .ok (.getfield 135, 3) := by decide +kernel
theorem d_Mod_give_12 : decode b_Mod_give 12 = .ok (.if_icmp .ge 273, 3) := by decide +kernel
theorem d_Mod_give_15 : decode b_Mod_give 15 = .ok (.aload_n 0, 1) := by decide +kernel
theorem d_Mod_give_16 : decode b_Mod_give 16 = .ok (.iload_n 3, 1) := by decide +kernel
theorem d_Mod_give_17 : decode b_Mod_give 17 = .ok (.invokevirtual 138, 3) := by decide +kernel
theorem d_Mod_give_20 : decode b_Mod_give 20 = .ok (.iconst 0, 1) := by decide +kernel
theorem d_Mod_give_21 : decode b_Mod_give 21 = .ok (.istore 4, 2) := by decide +kernel
theorem d_Mod_give_23 : decode b_Mod_give 23 = .ok (.iconst 0, 1) := by decide +kernel
theorem d_Mod_give_24 : decode b_Mod_give 24 = .ok (.istore 5, 2) := by decide +kernel
theorem d_Mod_give_26 : decode b_Mod_give 26 = .ok (.iload 5, 2) := by decide +kernel
theorem d_Mod_give_28 : decode b_Mod_give 28 = .ok (.aload_n 0, 1) := by decide +kernel
theorem d_Mod_give_29 : decode b_Mod_give 29 = .ok (.getfield 64, 3) := by decide +kernel
theorem d_Mod_give_32 : decode b_Mod_give 32 = .ok (.if_icmp .ge 33, 3) := by decide +kernel
theorem d_Mod_give_35 : decode b_Mod_give 35 = .ok (.iload 4, 2) := by decide +kernel
theorem d_Mod_give_37 : decode b_Mod_give 37 = .ok (.ifCond .ne 15, 3) := by decide +kernel
theorem d_Mod_give_40 : decode b_Mod_give 40 = .ok (.aload_n 0, 1) := by decide +kernel
theorem d_Mod_give_41 : decode b_Mod_give 41 = .ok (.getfield 16, 3) := by decide +kernel
theorem d_Mod_give_44 : decode b_Mod_give 44 = .ok (.iload 5, 2) := by decide +kernel
theorem d_Mod_give_46 : decode b_Mod_give 46 = .ok (.iaload, 1) := by decide +kernel
theorem d_Mod_give_47 : decode b_Mod_give 47 = .ok (.bipush 127, 2) := by decide +kernel
theorem d_Mod_give_49 : decode b_Mod_give 49 = .ok (.if_icmp .le 7, 3) := by decide +kernel
theorem d_Mod_give_52 : decode b_Mod_give 52 = .ok (.iconst 1, 1) := by decide +kernel
theorem d_Mod_give_53 : decode b_Mod_give 53 = .ok (.goto 4, 3) := by decide +kernel
theorem d_Mod_give_56 : decode b_Mod_give 56 = .ok (.iconst 0, 1) := by decide +kernel
theorem d_Mod_give_57 : decode b_Mod_give 57 = .ok (.istore 4, 2) := by decide +kernel
theorem d_Mod_give_59 : decode b_Mod_give 59 = .ok (.iinc 5 1, 3) := by decide +kernel
theorem d_Mod_give_62 : decode b_Mod_give 62 = .ok (.goto (-36), 3) := by decide +kernel
theorem d_Mod_give_65 : decode b_Mod_give 65 = .ok (.aload_n 0, 1) := by decide +kernel
theorem d_Mod_give_66 : decode b_Mod_give 66 = .ok (.getfield 77, 3) := by decide +kernel
theorem d_Mod_give_69 : decode b_Mod_give 69 = .ok (.istore 5, 2) := by decide +kernel
theorem d_Mod_give_71 : decode b_Mod_give 71 = .ok (.iload_n 2, 1) := by decide +kernel
theorem d_Mod_give_72 : decode b_Mod_give 72 = .ok (.ifCond .eq 39, 3) := by decide +kernel
theorem d_Mod_give_75 : decode b_Mod_give 75 = .ok (.iload 4, 2) := by decide +kernel
theorem d_Mod_give_77 : decode b_Mod_give 77 = .ok (.ifCond .eq 34, 3) := by decide +kernel
theorem d_Mod_give_80 : decode b_Mod_give 80 = .ok (.aload_n 0, 1) := by decide +kernel
theorem d_Mod_give_81 : decode b_Mod_give 81 = .ok (.bipush 120, 2) := by decide +kernel
theorem d_Mod_give_83 : decode b_Mod_give 83 = .ok (.invokevirtual 80, 3) := by decide +kernel
theorem d_Mod_give_86 : decode b_Mod_give 86 = .ok (.aload_n 0, 1) := by decide +kernel
theorem d_Mod_give_87 : decode b_Mod_give 87 = .ok (.bipush 110, 2) := by decide +kernel
theorem d_Mod_give_89 : decode b_Mod_give 89 = .ok (.invokevirtual 80, 3) := by decide +kernel
theorem d_Mod_give_92 : decode b_Mod_give 92 = .ok (.aload_n 0, 1) := by decide +kernel
theorem d_Mod_give_93 : decode b_Mod_give 93 = .ok (.bipush 45, 2) := by decide +kernel
theorem d_Mod_give_95 : decode b_Mod_give 95 = .ok (.invokevirtual 80, 3) := by decide +kernel
theorem d_Mod_give_98 : decode b_Mod_give 98 = .ok (.aload_n 0, 1) := by decide +kernel
theorem d_Mod_give_99 : decode b_Mod_give 99 = .ok (.bipush 45, 2) := by decide +kernel
theorem d_Mod_give_101 : decode b_Mod_give 101 = .ok (.invokevirtual 80, 3) := by decide +kernel
theorem d_Mod_give_104 : decode b_Mod_give 104 = .ok (.aload_n 0, 1) := by decide +kernel
theorem d_Mod_give_105 : decode b_Mod_give 105 = .ok (.invokevirtual 182, 3) := by decide +kernel
theorem d_Mod_give_108 : decode b_Mod_give 108 = .ok (.goto 32, 3) := by decide +kernel
theorem d_Mod_give_111 : decode b_Mod_give 111 = .ok (.iconst 0, 1) := by decide +kernel
theorem d_Mod_give_112 : decode b_Mod_give 112 = .ok (.istore 6, 2) := by decide +kernel
theorem d_Mod_give_114 : decode b_Mod_give 114 = .ok (.iload 6, 2) := by decide +kernel
theorem d_Mod_give_116 : decode b_Mod_give 116 = .ok (.aload_n 0, 1) := by decide +kernel
theorem d_Mod_give_117 : decode b_Mod_give 117 = .ok (.getfield 64, 3) := by decide +kernel
theorem d_Mod_give_120 : decode b_Mod_give 120 = .ok (.if_icmp .ge 20, 3) := by decide +kernel
theorem d_Mod_give_123 : decode b_Mod_give 123 = .ok (.aload_n 0, 1) := by decide +kernel
theorem d_Mod_give_124 : decode b_Mod_give 124 = .ok (.aload_n 0, 1) := by decide +kernel
theorem d_Mod_give_125 : decode b_Mod_give 125 = .ok (.getfield 16, 3) := by decide +kernel
theorem d_Mod_give_128 : decode b_Mod_give 128 = .ok (.iload 6, 2) := by decide +kernel
theorem d_Mod_give_130 : decode b_Mod_give 130 = .ok (.iaload, 1) := by decide +kernel
theorem d_Mod_give_131 : decode b_Mod_give 131 = .ok (.invokevirtual 80, 3) := by decide +kernel
theorem d_Mod_give_134 : decode b_Mod_give 134 = .ok (.iinc 6 1, 3) := by decide +kernel
theorem d_Mod_give_137 : decode b_Mod_give 137 = .ok (.goto (-23), 3) := by decide +kernel
theorem d_Mod_give_140 : decode b_Mod_give 140 = .ok (.aload_n 0, 1) := by decide +kernel
theorem d_Mod_give_141 : decode b_Mod_give 141 = .ok (.getfield 77, 3) := by decide +kernel
theorem d_Mod_give_144 : decode b_Mod_give 144 = .ok (.iload 5, 2) := by decide +kernel
theorem d_Mod_give_146 : decode b_Mod_give 146 = .ok (.isub, 1) := by decide +kernel
theorem d_Mod_give_147 : decode b_Mod_give 147 = .ok (.istore 6, 2) := by decide +kernel
theorem d_Mod_give_149 : decode b_Mod_give 149 = .ok (.iload 6, 2) := by decide +kernel
theorem d_Mod_give_151 : decode b_Mod_give 151 = .ok (.bipush 20, 2) := by decide +kernel
theorem d_Mod_give_153 : decode b_Mod_give 153 = .ok (.if_icmp .gt 26, 3) := by decide +kernel
theorem d_Mod_give_156 : decode b_Mod_give 156 = .ok (.iload 6, 2) := by decide +kernel
theorem d_Mod_give_158 : decode b_Mod_give 158 = .ok (.ifCond .ne 25, 3) := by decide +kernel
theorem d_Mod_give_161 : decode b_Mod_give 161 = .ok (.iload_n 3, 1) := by decide +kernel
theorem d_Mod_give_162 : decode b_Mod_give 162 = .ok (.aload_n 0, 1) := by decide +kernel
theorem d_Mod_give_163 : decode b_Mod_give 163 = .ok (.getfield 135, 3) := by decide +kernel
theorem d_Mod_give_166 : decode b_Mod_give 166 = .ok (.iconst 1, 1) := by decide +kernel
theorem d_Mod_give_167 : decode b_Mod_give 167 = .ok (.isub, 1) := by decide +kernel
theorem d_Mod_give_168 : decode b_Mod_give 168 = .ok (.if_icmp .lt 11, 3) := by decide +kernel
theorem d_Mod_give_171 : decode b_Mod_give 171 = .ok (.aload_n 0, 1) := by decide +kernel
theorem d_Mod_give_172 : decode b_Mod_give 172 = .ok (.getfield 135, 3) := by decide +kernel
theorem d_Mod_give_175 : decode b_Mod_give 175 = .ok (.iconst 1, 1) := by decide +kernel
theorem d_Mod_give_176 : decode b_Mod_give 176 = .ok (.if_icmp .ne 7, 3) := by decide +kernel
theorem d_Mod_give_179 : decode b_Mod_give 179 = .ok (.iconst 1, 1) := by decide +kernel
theorem d_Mod_give_180 : decode b_Mod_give 180 = .ok (.goto 4, 3) := by decide +kernel
theorem d_Mod_give_183 : decode b_Mod_give 183 = .ok (.iconst 0, 1) := by decide +kernel
theorem d_Mod_give_184 : decode b_Mod_give 184 = .ok (.istore 7, 2) := by decide +kernel
theorem d_Mod_give_186 : decode b_Mod_give 186 = .ok (.aload_n 0, 1) := by decide +kernel
theorem d_Mod_give_187 : decode b_Mod_give 187 = .ok (.getfield 28, 3) := by decide +kernel
theorem d_Mod_give_190 : decode b_Mod_give 190 = .ok (.iload_n 3, 1) := by decide +kernel
theorem d_Mod_give_191 : decode b_Mod_give 191 = .ok (.iload_n 2, 1) := by decide +kernel
theorem d_Mod_give_192 : decode b_Mod_give 192 = .ok (.ifCond .eq 30, 3) := by decide +kernel
theorem d_Mod_give_195 : decode b_Mod_give 195 = .ok (.iload_n 1, 1) := by decide +kernel
theorem d_Mod_give_196 : decode b_Mod_give 196 = .ok (.bipush 32, 2) := by decide +kernel
theorem d_Mod_give_198 : decode b_Mod_give 198 = .ok (.invokestatic 119, 3) := by decide +kernel
theorem d_Mod_give_201 : decode b_Mod_give 201 = .ok (.ifCond .eq 21, 3) := by decide +kernel
theorem d_Mod_give_204 : decode b_Mod_give 204 = .ok (.iload 7, 2) := by decide +kernel
theorem d_Mod_give_206 : decode b_Mod_give 206 = .ok (.ifCond .eq 16, 3) := by decide +kernel
theorem d_Mod_give_209 : decode b_Mod_give 209 = .ok (.aload_n 0, 1) := by decide +kernel
theorem d_Mod_give_210 : decode b_Mod_give 210 = .ok (.getfield 28, 3) := by decide +kernel
theorem d_Mod_give_213 : decode b_Mod_give 213 = .ok (.iload_n 3, 1) := by decide +kernel
theorem d_Mod_give_214 : decode b_Mod_give 214 = .ok (.iaload, 1) := by decide +kernel
theorem d_Mod_give_215 : decode b_Mod_give 215 = .ok (.sipush 1024, 3) := by decide +kernel
theorem d_Mod_give_218 : decode b_Mod_give 218 = .ok (.ior, 1) := by decide +kernel
theorem d_Mod_give_219 : decode b_Mod_give 219 = .ok (.goto 9, 3) := by decide +kernel
theorem d_Mod_give_222 : decode b_Mod_give 222 = .ok (.aload_n 0, 1) := by decide +kernel
theorem d_Mod_give_223 : decode b_Mod_give 223 = .ok (.getfield 28, 3) := by decide +kernel
theorem d_Mod_give_226 : decode b_Mod_give 226 = .ok (.iload_n 3, 1) := by decide +kernel
theorem d_Mod_give_227 : decode b_Mod_give 227 = .ok (.iaload, 1) := by decide +kernel
theorem d_Mod_give_228 : decode b_Mod_give 228 = .ok (.iastore, 1) := by decide +kernel
theorem d_Mod_give_229 : decode b_Mod_give 229 = .ok (.aload_n 0, 1) := by decide +kernel
theorem d_Mod_give_230 : decode b_Mod_give 230 = .ok (.iload 6, 2) := by decide +kernel
theorem d_Mod_give_232 : decode b_Mod_give 232 = .ok (.ifCond .ne 24, 3) := by decide +kernel
theorem d_Mod_give_235 : decode b_Mod_give 235 = .ok (.iload_n 3, 1) := by decide +kernel
theorem d_Mod_give_236 : decode b_Mod_give 236 = .ok (.aload_n 0, 1) := by decide +kernel
theorem d_Mod_give_237 : decode b_Mod_give 237 = .ok (.getfield 135, 3) := by decide +kernel
theorem d_Mod_give_240 : decode b_Mod_give 240 = .ok (.iconst 1, 1) := by decide +kernel
theorem d_Mod_give_241 : decode b_Mod_give 241 = .ok (.isub, 1) := by decide +kernel
theorem d_Mod_give_242 : decode b_Mod_give 242 = .ok (.if_icmp .ne 14, 3) := by decide +kernel
theorem d_Mod_give_245 : decode b_Mod_give 245 = .ok (.iload_n 3, 1) := by decide +kernel
theorem d_Mod_give_246 : decode b_Mod_give 246 = .ok (.ifCond .le 10, 3) := by decide +kernel
theorem d_Mod_give_249 : decode b_Mod_give 249 = .ok (.iload 5, 2) := by decide +kernel
theorem d_Mod_give_251 : decode b_Mod_give 251 = .ok (.iconst 1, 1) := by decide +kernel
theorem d_Mod_give_252 : decode b_Mod_give 252 = .ok (.isub, 1) := by decide +kernel
theorem d_Mod_give_253 : decode b_Mod_give 253 = .ok (.goto 7, 3) := by decide +kernel
theorem d_Mod_give_256 : decode b_Mod_give 256 = .ok (.aload_n 0, 1) := by decide +kernel
theorem d_Mod_give_257 : decode b_Mod_give 257 = .ok (.getfield 77, 3) := by decide +kernel
theorem d_Mod_give_260 : decode b_Mod_give 260 = .ok (.putfield 185, 3) := by decide +kernel
theorem d_Mod_give_263 : decode b_Mod_give 263 = .ok (.iload_n 3, 1) := by decide +kernel
theorem d_Mod_give_264 : decode b_Mod_give 264 = .ok (.aload_n 0, 1) := by decide +kernel
theorem d_Mod_give_265 : decode b_Mod_give 265 = .ok (.getfield 135, 3) := by decide +kernel
theorem d_Mod_give_268 : decode b_Mod_give 268 = .ok (.iconst 1, 1) := by decide +kernel
theorem d_Mod_give_269 : decode b_Mod_give 269 = .ok (.isub, 1) := by decide +kernel
theorem d_Mod_give_270 : decode b_Mod_give 270 = .ok (.if_icmp .ge 9, 3) := by decide +kernel
theorem d_Mod_give_273 : decode b_Mod_give 273 = .ok (.aload_n 0, 1) := by decide +kernel
theorem d_Mod_give_274 : decode b_Mod_give 274 = .ok (.bipush 46, 2) := by decide +kernel
theorem d_Mod_give_276 : decode b_Mod_give 276 = .ok (.invokevirtual 80, 3) := by decide +kernel
theorem d_Mod_give_279 : decode b_Mod_give 279 = .ok (.iinc 3 1, 3) := by decide +kernel
theorem d_Mod_give_282 : decode b_Mod_give 282 = .ok (.goto (-275), 3) := by decide +kernel
theorem d_Mod_give_285 : decode b_Mod_give 285 = .ok (.return_, 1) := by decide +kernel
theorem d_Mod_process_0 : decode b_Mod_process 0 = .ok (.iload_n 1, 1) := by decide +kernel
theorem d_Mod_process_1 : decode b_Mod_process 1 = .ok (.iconst 0, 1) := by decide +kernel
theorem d_Mod_process_2 : decode b_Mod_process 2 = .ok (.bipush 63, 2) := by decide +kernel
theorem d_Mod_process_4 : decode b_Mod_process 4 = .ok (.invokestatic 41, 3) := by decide +kernel
theorem d_Mod_process_7 : decode b_Mod_process 7 = .ok (.ifCond .ne 5, 3) := by decide +kernel
theorem d_Mod_process_10 : decode b_Mod_process 10 = .ok (.iconst (-1), 1) := by decide +kernel
theorem d_Mod_process_11 : decode b_Mod_process 11 = .ok (.ireturn, 1) := by decide +kernel
theorem d_Mod_process_12 : decode b_Mod_process 12 = .ok (.aload_n 0, 1) := by decide +kernel
theorem d_Mod_process_13 : decode b_Mod_process 13 = .ok (.iload_n 1, 1) := by decide +kernel
theorem d_Mod_process_14 : decode b_Mod_process 14 = .ok (.invokevirtual 188, 3) := by decide +kernel
theorem d_Mod_process_17 : decode b_Mod_process 17 = .ok (.ifCond .eq 7, 3) := by decide +kernel
theorem d_Mod_process_20 : decode b_Mod_process 20 = .ok (.iconst 1, 1) := by decide +kernel
theorem d_Mod_process_21 : decode b_Mod_process 21 = .ok (.goto 4, 3) := by decide +kernel
theorem d_Mod_process_24 : decode b_Mod_process 24 = .ok (.iconst 0, 1) := by decide +kernel
theorem d_Mod_process_25 : decode b_Mod_process 25 = .ok (.istore_n 3, 1) := by decide +kernel
theorem d_Mod_process_26 : decode b_Mod_process 26 = .ok (.aload_n 0, 1) := by decide +kernel
theorem d_Mod_process_27 : decode b_Mod_process 27 = .ok (.invokevirtual 151, 3) := by decide +kernel
theorem d_Mod_process_30 : decode b_Mod_process 30 = .ok (.aload_n 0, 1) := by decide +kernel
theorem d_Mod_process_31 : decode b_Mod_process 31 = .ok (.invokevirtual 191, 3) := by decide +kernel
theorem d_Mod_process_34 : decode b_Mod_process 34 = .ok (.iconst 0, 1) := by decide +kernel
theorem d_Mod_process_35 : decode b_Mod_process 35 = .ok (.istore 4, 2) := by decide +kernel
theorem d_Mod_process_37 : decode b_Mod_process 37 = .ok (.iload 4, 2) := by decide +kernel
theorem d_Mod_process_39 : decode b_Mod_process 39 = .ok (.aload_n 0, 1) := by decide +kernel
theorem d_Mod_process_40 : decode b_Mod_process 40 = .ok (.getfield 135, 3) := by decide +kernel
theorem d_Mod_process_43 : decode b_Mod_process 43 = .ok (.if_icmp .ge 15, 3) := by decide +kernel
theorem d_Mod_process_46 : decode b_Mod_process 46 = .ok (.aload_n 0, 1) := by decide +kernel
theorem d_Mod_process_47 : decode b_Mod_process 47 = .ok (.iload 4, 2) := by decide +kernel
theorem d_Mod_process_49 : decode b_Mod_process 49 = .ok (.invokevirtual 194, 3) := by decide +kernel
theorem d_Mod_process_52 : decode b_Mod_process 52 = .ok (.iinc 4 1, 3) := by decide +kernel
theorem d_Mod_process_55 : decode b_Mod_process 55 = .ok (.goto (-18), 3) := by decide +kernel
theorem d_Mod_process_58 : decode b_Mod_process 58 = .ok (.iload_n 1, 1) := by decide +kernel
theorem d_Mod_process_59 : decode b_Mod_process 59 = .ok (.bipush 16, 2) := by decide +kernel
theorem d_Mod_process_61 : decode b_Mod_process 61 = .ok (.invokestatic 119, 3) := by decide +kernel
theorem d_Mod_process_64 : decode b_Mod_process 64 = .ok (.ifCond .eq 14, 3) := by decide +kernel
theorem d_Mod_process_67 : decode b_Mod_process 67 = .ok (.aload_n 0, 1) := by decide +kernel
theorem d_Mod_process_68 : decode b_Mod_process 68 = .ok (.invokevirtual 197, 3) := by decide +kernel
theorem d_Mod_process_71 : decode b_Mod_process 71 = .ok (.ifCond .eq 7, 3) := by decide +kernel
theorem d_Mod_process_74 : decode b_Mod_process 74 = .ok (.iconst 1, 1) := by decide +kernel
theorem d_Mod_process_75 : decode b_Mod_process 75 = .ok (.goto 4, 3) := by decide +kernel
theorem d_Mod_process_78 : decode b_Mod_process 78 = .ok (.iconst 0, 1) := by decide +kernel
theorem d_Mod_process_79 : decode b_Mod_process 79 = .ok (.istore 4, 2) := by decide +kernel
theorem d_Mod_process_81 : decode b_Mod_process 81 = .ok (.iconst 0, 1) := by decide +kernel
theorem d_Mod_process_82 : decode b_Mod_process 82 = .ok (.istore 5, 2) := by decide +kernel
theorem d_Mod_process_84 : decode b_Mod_process 84 = .ok (.iload 5, 2) := by decide +kernel
theorem d_Mod_process_86 : decode b_Mod_process 86 = .ok (.aload_n 0, 1) := by decide +kernel
theorem d_Mod_process_87 : decode b_Mod_process 87 = .ok (.getfield 135, 3) := by decide +kernel
theorem d_Mod_process_90 : decode b_Mod_process 90 = .ok (.if_icmp .ge 55, 3) := by decide +kernel
theorem d_Mod_process_93 : decode b_Mod_process 93 = .ok (.aload_n 0, 1) := by decide +kernel
theorem d_Mod_process_94 : decode b_Mod_process 94 = .ok (.getfield 28, 3) := by decide +kernel
theorem d_Mod_process_97 : decode b_Mod_process 97 = .ok (.iload 5, 2) := by decide +kernel
theorem d_Mod_process_99 : decode b_Mod_process 99 = .ok (.aload_n 0, 1) := by decide +kernel
theorem d_Mod_process_100 : decode b_Mod_process 100 = .ok (.getfield 28, 3) := by decide +kernel
theorem d_Mod_process_103 : decode b_Mod_process 103 = .ok (.iload 5, 2) := by decide +kernel
theorem d_Mod_process_105 : decode b_Mod_process 105 = .ok (.iaload, 1) := by decide +kernel
theorem d_Mod_process_106 : decode b_Mod_process 106 = .ok (.ifCond .ne 25, 3) := by decide +kernel
theorem d_Mod_process_109 : decode b_Mod_process 109 = .ok (.aload_n 0, 1) := by decide +kernel
theorem d_Mod_process_110 : decode b_Mod_process 110 = .ok (.getfield 25, 3) := by decide +kernel
theorem d_Mod_process_113 : decode b_Mod_process 113 = .ok (.iload 5, 2) := by decide +kernel
theorem d_Mod_process_115 : decode b_Mod_process 115 = .ok (.iaload, 1) := by decide +kernel
theorem d_Mod_process_116 : decode b_Mod_process 116 = .ok (.ifCond .le 15, 3) := by decide +kernel
theorem d_Mod_process_119 : decode b_Mod_process 119 = .ok (.aload_n 0, 1) := by decide +kernel
theorem d_Mod_process_120 : decode b_Mod_process 120 = .ok (.iload 5, 2) := by decide +kernel
theorem d_Mod_process_122 : decode b_Mod_process 122 = .ok (.iload_n 1, 1) := by decide +kernel
theorem d_Mod_process_123 : decode b_Mod_process 123 = .ok (.iload 4, 2) := by decide +kernel
theorem d_Mod_process_125 : decode b_Mod_process 125 = .ok (.invokevirtual 200, 3) := by decide +kernel
theorem d_Mod_process_128 : decode b_Mod_process 128 = .ok (.goto 10, 3) := by decide +kernel
theorem d_Mod_process_131 : decode b_Mod_process 131 = .ok (.aload_n 0, 1) := by decide +kernel
theorem d_Mod_process_132 : decode b_Mod_process 132 = .ok (.getfield 28, 3) := by decide +kernel
theorem d_Mod_process_135 : decode b_Mod_process 135 = .ok (.iload 5, 2) := by decide +kernel
theorem d_Mod_process_137 : decode b_Mod_process 137 = .ok (.iaload, 1) := by decide +kernel
theorem d_Mod_process_138 : decode b_Mod_process 138 = .ok (.iastore, 1) := by decide +kernel
theorem d_Mod_process_139 : decode b_Mod_process 139 = .ok (.iinc 5 1, 3) := by decide +kernel
theorem d_Mod_process_142 : decode b_Mod_process 142 = .ok (.goto (-58), 3) := by decide +kernel
theorem d_Mod_process_145 : decode b_Mod_process 145 = .ok (.aload_n 0, 1) := by decide +kernel
theorem d_Mod_process_146 : decode b_Mod_process 146 = .ok (.iload_n 1, 1) := by decide +kernel
theorem d_Mod_process_147 : decode b_Mod_process 147 = .ok (.iload_n 2, 1) := by decide +kernel
theorem d_Mod_process_148 : decode b_Mod_process 148 = .ok (.invokevirtual 204, 3) := by decide +kernel
theorem d_Mod_process_151 : decode b_Mod_process 151 = .ok (.iconst 0, 1) := by decide +kernel
theorem d_Mod_process_152 : decode b_Mod_process 152 = .ok (.istore 5, 2) := by decide +kernel
theorem d_Mod_process_154 : decode b_Mod_process 154 = .ok (.iload 5, 2) := by decide +kernel
theorem d_Mod_process_156 : decode b_Mod_process 156 = .ok (.aload_n 0, 1) := by decide +kernel
theorem d_Mod_process_157 : decode b_Mod_process 157 = .ok (.getfield 135, 3) := by decide +kernel
theorem d_Mod_process_160 : decode b_Mod_process 160 = .ok (.if_icmp .ge 19, 3) := by decide +kernel
theorem d_Mod_process_163 : decode b_Mod_process 163 = .ok (.iload_n 3, 1) := by decide +kernel
theorem d_Mod_process_164 : decode b_Mod_process 164 = .ok (.aload_n 0, 1) := by decide +kernel
theorem d_Mod_process_165 : decode b_Mod_process 165 = .ok (.getfield 28, 3) := by decide +kernel
theorem d_Mod_process_168 : decode b_Mod_process 168 = .ok (.iload 5, 2) := by decide +kernel
theorem d_Mod_process_170 : decode b_Mod_process 170 = .ok (.iaload, 1) := by decide +kernel
theorem d_Mod_process_171 : decode b_Mod_process 171 = .ok (.ior, 1) := by decide +kernel
theorem d_Mod_process_172 : decode b_Mod_process 172 = .ok (.istore_n 3, 1) := by decide +kernel
theorem d_Mod_process_173 : decode b_Mod_process 173 = .ok (.iinc 5 1, 3) := by decide +kernel
theorem d_Mod_process_176 : decode b_Mod_process 176 = .ok (.goto (-22), 3) := by decide +kernel
theorem d_Mod_process_179 : decode b_Mod_process 179 = .ok (.iload_n 2, 1) := by decide +kernel
theorem d_Mod_process_180 : decode b_Mod_process 180 = .ok (.ifCond .eq 36, 3) := by decide +kernel
theorem d_Mod_process_183 : decode b_Mod_process 183 = .ok (.iload_n 1, 1) := by decide +kernel
theorem d_Mod_process_184 : decode b_Mod_process 184 = .ok (.bipush 32, 2) := by decide +kernel
theorem d_Mod_process_186 : decode b_Mod_process 186 = .ok (.invokestatic 119, 3) := by decide +kernel
theorem d_Mod_process_189 : decode b_Mod_process 189 = .ok (.ifCond .eq 27, 3) := by decide +kernel
theorem d_Mod_process_192 : decode b_Mod_process 192 = .ok (.aload_n 0, 1) := by decide +kernel
theorem d_Mod_process_193 : decode b_Mod_process 193 = .ok (.getfield 185, 3) := by decide +kernel
theorem d_Mod_process_196 : decode b_Mod_process 196 = .ok (.ifCond .eq 12, 3) := by decide +kernel
theorem d_Mod_process_199 : decode b_Mod_process 199 = .ok (.aload_n 0, 1) := by decide +kernel
theorem d_Mod_process_200 : decode b_Mod_process 200 = .ok (.getfield 185, 3) := by decide +kernel
theorem d_Mod_process_203 : decode b_Mod_process 203 = .ok (.bipush 60, 2) := by decide +kernel
theorem d_Mod_process_205 : decode b_Mod_process 205 = .ok (.if_icmp .le 11, 3) := by decide +kernel
theorem d_Mod_process_208 : decode b_Mod_process 208 = .ok (.iload_n 3, 1) := by decide +kernel
theorem d_Mod_process_209 : decode b_Mod_process 209 = .ok (.sipush 1024, 3) := by decide +kernel
theorem d_Mod_process_212 : decode b_Mod_process 212 = .ok (.ior, 1) := by decide +kernel
theorem d_Mod_process_213 : decode b_Mod_process 213 = .ok (.goto 4, 3) := by decide +kernel
theorem d_Mod_process_216 : decode b_Mod_process 216 = .ok (.iload_n 3, 1) := by decide +kernel
theorem d_Mod_process_217 : decode b_Mod_process 217 = .ok (.ireturn, 1) := by decide +kernel
theorem d_Mod_length_0 : decode b_Mod_length 0 = .ok (.aload_n 0, 1) := by decide +kernel
theorem d_Mod_length_1 : decode b_Mod_length 1 = .ok (.getfield 77, 3) := by decide +kernel
theorem d_Mod_length_4 : decode b_Mod_length 4 = .ok (.ireturn, 1) := by decide +kernel
theorem d_Mod_at_0 : decode b_Mod_at 0 = .ok (.iload_n 1, 1) := by decide +kernel
theorem d_Mod_at_1 : decode b_Mod_at 1 = .ok (.iconst 0, 1) := by decide +kernel
theorem d_Mod_at_2 : decode b_Mod_at 2 = .ok (.aload_n 0, 1) := by decide +kernel
theorem d_Mod_at_3 : decode b_Mod_at 3 = .ok (.getfield 77, 3) := by decide +kernel
theorem d_Mod_at_6 : decode b_Mod_at 6 = .ok (.iconst 1, 1) := by decide +kernel
theorem d_Mod_at_7 : decode b_Mod_at 7 = .ok (.isub, 1) := by decide +kernel
theorem d_Mod_at_8 : decode b_Mod_at 8 = .ok (.invokestatic 41, 3) := by decide +kernel
theorem d_Mod_at_11 : decode b_Mod_at 11 = .ok (.ifCond .eq 12, 3) := by decide +kernel
theorem d_Mod_at_14 : decode b_Mod_at 14 = .ok (.aload_n 0, 1) := by decide +kernel
theorem d_Mod_at_15 : decode b_Mod_at 15 = .ok (.getfield 13, 3) := by decide +kernel
theorem d_Mod_at_18 : decode b_Mod_at 18 = .ok (.iload_n 1, 1) := by decide +kernel
theorem d_Mod_at_19 : decode b_Mod_at 19 = .ok (.iaload, 1) := by decide +kernel
theorem d_Mod_at_20 : decode b_Mod_at 20 = .ok (.goto 4, 3) := by decide +kernel
theorem d_Mod_at_23 : decode b_Mod_at 23 = .ok (.iconst (-1), 1) := by decide +kernel
theorem d_Mod_at_24 : decode b_Mod_at 24 = .ok (.ireturn, 1) := by decide +kernel
theorem d_Mod_labels_0 : decode b_Mod_labels 0 = .ok (.aload_n 0, 1) := by decide +kernel
theorem d_Mod_labels_1 : decode b_Mod_labels 1 = .ok (.getfield 135, 3) := by decide +kernel
theorem d_Mod_labels_4 : decode b_Mod_labels 4 = .ok (.ireturn, 1) := by decide +kernel
theorem d_Mod_broken_0 : decode b_Mod_broken 0 = .ok (.iload_n 1, 1) := by decide +kernel
theorem d_Mod_broken_1 : decode b_Mod_broken 1 = .ok (.iconst 0, 1) := by decide +kernel
theorem d_Mod_broken_2 : decode b_Mod_broken 2 = .ok (.aload_n 0, 1) := by decide +kernel
theorem d_Mod_broken_3 : decode b_Mod_broken 3 = .ok (.getfield 135, 3) := by decide +kernel
theorem d_Mod_broken_6 : decode b_Mod_broken 6 = .ok (.iconst 1, 1) := by decide +kernel
theorem d_Mod_broken_7 : decode b_Mod_broken 7 = .ok (.isub, 1) := by decide +kernel
theorem d_Mod_broken_8 : decode b_Mod_broken 8 = .ok (.invokestatic 41, 3) := by decide +kernel
theorem d_Mod_broken_11 : decode b_Mod_broken 11 = .ok (.ifCond .eq 12, 3) := by decide +kernel
theorem d_Mod_broken_14 : decode b_Mod_broken 14 = .ok (.aload_n 0, 1) := by decide +kernel
theorem d_Mod_broken_15 : decode b_Mod_broken 15 = .ok (.getfield 28, 3) := by decide +kernel
theorem d_Mod_broken_18 : decode b_Mod_broken 18 = .ok (.iload_n 1, 1) := by decide +kernel
theorem d_Mod_broken_19 : decode b_Mod_broken 19 = .ok (.iaload, 1) := by decide +kernel
theorem d_Mod_broken_20 : decode b_Mod_broken 20 = .ok (.goto 4, 3) := by decide +kernel
theorem d_Mod_broken_23 : decode b_Mod_broken 23 = .ok (.iconst (-1), 1) := by decide +kernel
theorem d_Mod_broken_24 : decode b_Mod_broken 24 = .ok (.ireturn, 1) := by decide +kernel
theorem d_Mod_pack_0 : decode b_Mod_pack 0 = .ok (.aload_n 0, 1) := by decide +kernel
theorem d_Mod_pack_1 : decode b_Mod_pack 1 = .ok (.invokevirtual 208, 3) := by decide +kernel
theorem d_Mod_pack_4 : decode b_Mod_pack 4 = .ok (.aload_n 0, 1) := by decide +kernel
theorem d_Mod_pack_5 : decode b_Mod_pack 5 = .ok (.iconst 0, 1) := by decide +kernel
theorem d_Mod_pack_6 : decode b_Mod_pack 6 = .ok (.putfield 77, 3) := by decide +kernel
theorem d_Mod_pack_9 : decode b_Mod_pack 9 = .ok (.aload_n 0, 1) := by decide +kernel
theorem d_Mod_pack_10 : decode b_Mod_pack 10 = .ok (.invokevirtual 182, 3) := by decide +kernel
theorem d_Mod_pack_13 : decode b_Mod_pack 13 = .ok (.aload_n 0, 1) := by decide +kernel
theorem d_Mod_pack_14 : decode b_Mod_pack 14 = .ok (.getfield 77, 3) := by decide +kernel
theorem d_Mod_pack_17 : decode b_Mod_pack 17 = .ok (.ireturn, 1) := by decide +kernel
theorem d_Mod_unpack_0 : decode b_Mod_unpack 0 = .ok (.aload_n 0, 1) := by decide +kernel
theorem d_Mod_unpack_1 : decode b_Mod_unpack 1 = .ok (.invokevirtual 208, 3) := by decide +kernel
theorem d_Mod_unpack_4 : decode b_Mod_unpack 4 = .ok (.aload_n 0, 1) := by decide +kernel
theorem d_Mod_unpack_5 : decode b_Mod_unpack 5 = .ok (.iconst 0, 1) := by decide +kernel
theorem d_Mod_unpack_6 : decode b_Mod_unpack 6 = .ok (.invokevirtual 145, 3) := by decide +kernel
theorem d_Mod_unpack_9 : decode b_Mod_unpack 9 = .ok (.ifCond .ne 5, 3) := by decide +kernel
theorem d_Mod_unpack_12 : decode b_Mod_unpack 12 = .ok (.iconst 0, 1) := by decide +kernel
theorem d_Mod_unpack_13 : decode b_Mod_unpack 13 = .ok (.ireturn, 1) := by decide +kernel
theorem d_Mod_unpack_14 : decode b_Mod_unpack 14 = .ok (.aload_n 0, 1) := by decide +kernel
theorem d_Mod_unpack_15 : decode b_Mod_unpack 15 = .ok (.invokevirtual 211, 3) := by decide +kernel
theorem d_Mod_unpack_18 : decode b_Mod_unpack 18 = .ok (.iconst 1, 1) := by decide +kernel
theorem d_Mod_unpack_19 : decode b_Mod_unpack 19 = .ok (.ireturn, 1) := by decide +kernel
theorem d_Mod_compose_0 : decode b_Mod_compose 0 = .ok (.aload_n 0, 1) := by decide +kernel
theorem d_Mod_compose_1 : decode b_Mod_compose 1 = .ok (.invokevirtual 208, 3) := by decide +kernel
theorem d_Mod_compose_4 : decode b_Mod_compose 4 = .ok (.aload_n 0, 1) := by decide +kernel
theorem d_Mod_compose_5 : decode b_Mod_compose 5 = .ok (.invokevirtual 151, 3) := by decide +kernel
theorem d_Mod_compose_8 : decode b_Mod_compose 8 = .ok (.aload_n 0, 1) := by decide +kernel
theorem d_Mod_compose_9 : decode b_Mod_compose 9 = .ok (.invokevirtual 211, 3) := by decide +kernel
theorem d_Mod_compose_12 : decode b_Mod_compose 12 = .ok (.aload_n 0, 1) := by decide +kernel
theorem d_Mod_compose_13 : decode b_Mod_compose 13 = .ok (.getfield 77, 3) := by decide +kernel
theorem d_Mod_compose_16 : decode b_Mod_compose 16 = .ok (.ireturn, 1) := by decide +kernel
