theorem d_Codes_isWithin_0 : decode b_Codes_isWithin 0 = .ok (.iload_n 0, 1) := by decide +kernel
theorem d_Codes_isWithin_1 : decode b_Codes_isWithin 1 = .ok (.iload_n 1, 1) := by decide +kernel
theorem d_Codes_isWithin_2 : decode b_Codes_isWithin 2 = .ok (.if_icmp .lt 12, 3) := by decide +kernel
theorem d_Codes_isWithin_5 : decode b_Codes_isWithin 5 = .ok (.iload_n 0, 1) := by decide +kernel
theorem d_Codes_isWithin_6 : decode b_Codes_isWithin 6 = .ok (.iload_n 2, 1) := by decide +kernel
theorem d_Codes_isWithin_7 : decode b_Codes_isWithin 7 = .ok (.if_icmp .gt 7, 3) := by decide +kernel
theorem d_Codes_isWithin_10 : decode b_Codes_isWithin 10 = .ok (.iconst 1, 1) := by decide +kernel
theorem d_Codes_isWithin_11 : decode b_Codes_isWithin 11 = .ok (.goto 4, 3) := by decide +kernel
theorem d_Codes_isWithin_14 : decode b_Codes_isWithin 14 = .ok (.iconst 0, 1) := by decide +kernel
theorem d_Codes_isWithin_15 : decode b_Codes_isWithin 15 = .ok (.ireturn, 1) := by decide +kernel
theorem d_Codes_isCapital_0 : decode b_Codes_isCapital 0 = .ok (.iload_n 0, 1) := by decide +kernel
theorem d_Codes_isCapital_1 : decode b_Codes_isCapital 1 = .ok (.bipush 65, 2) := by decide +kernel
theorem d_Codes_isCapital_3 : decode b_Codes_isCapital 3 = .ok (.if_icmp .lt 13, 3) := by decide +kernel
theorem d_Codes_isCapital_6 : decode b_Codes_isCapital 6 = .ok (.iload_n 0, 1) := by decide +kernel
theorem d_Codes_isCapital_7 : decode b_Codes_isCapital 7 = .ok (.bipush 90, 2) := by decide +kernel
theorem d_Codes_isCapital_9 : decode b_Codes_isCapital 9 = .ok (.if_icmp .gt 7, 3) := by decide +kernel
theorem d_Codes_isCapital_12 : decode b_Codes_isCapital 12 = .ok (.iconst 1, 1) := by decide +kernel
theorem d_Codes_isCapital_13 : decode b_Codes_isCapital 13 = .ok (.goto 4, 3) := by decide +kernel
theorem d_Codes_isCapital_16 : decode b_Codes_isCapital 16 = .ok (.iconst 0, 1) := by decide +kernel
theorem d_Codes_isCapital_17 : decode b_Codes_isCapital 17 = .ok (.ireturn, 1) := by decide +kernel
theorem d_Codes_isOdd_0 : decode b_Codes_isOdd 0 = .ok (.iload_n 0, 1) := by decide +kernel
theorem d_Codes_isOdd_1 : decode b_Codes_isOdd 1 = .ok (.sipush 223, 3) := by decide +kernel
theorem d_Codes_isOdd_4 : decode b_Codes_isOdd 4 = .ok (.if_icmp .eq 24, 3) := by decide +kernel
theorem d_Codes_isOdd_7 : decode b_Codes_isOdd 7 = .ok (.iload_n 0, 1) := by decide +kernel
theorem d_Codes_isOdd_8 : decode b_Codes_isOdd 8 = .ok (.sipush 962, 3) := by decide +kernel
theorem d_Codes_isOdd_11 : decode b_Codes_isOdd 11 = .ok (.if_icmp .eq 17, 3) := by decide +kernel
theorem d_Codes_isOdd_14 : decode b_Codes_isOdd 14 = .ok (.iload_n 0, 1) := by decide +kernel
theorem d_Codes_isOdd_15 : decode b_Codes_isOdd 15 = .ok (.sipush 8204, 3) := by decide +kernel
theorem d_Codes_isOdd_18 : decode b_Codes_isOdd 18 = .ok (.if_icmp .eq 10, 3) := by decide +kernel
theorem d_Codes_isOdd_21 : decode b_Codes_isOdd 21 = .ok (.iload_n 0, 1) := by decide +kernel
theorem d_Codes_isOdd_22 : decode b_Codes_isOdd 22 = .ok (.sipush 8205, 3) := by decide +kernel
theorem d_Codes_isOdd_25 : decode b_Codes_isOdd 25 = .ok (.if_icmp .ne 7, 3) := by decide +kernel
theorem d_Codes_isOdd_28 : decode b_Codes_isOdd 28 = .ok (.iconst 1, 1) := by decide +kernel
theorem d_Codes_isOdd_29 : decode b_Codes_isOdd 29 = .ok (.goto 4, 3) := by decide +kernel
theorem d_Codes_isOdd_32 : decode b_Codes_isOdd 32 = .ok (.iconst 0, 1) := by decide +kernel
theorem d_Codes_isOdd_33 : decode b_Codes_isOdd 33 = .ok (.ireturn, 1) := by decide +kernel
theorem d_Codes_isInGoodRanges_0 : decode b_Codes_isInGoodRanges 0 = .ok (.iconst 0, 1) := by decide +kernel
theorem d_Codes_isInGoodRanges_1 : decode b_Codes_isInGoodRanges 1 = .ok (.istore_n 1, 1) := by decide +kernel
theorem d_Codes_isInGoodRanges_2 : decode b_Codes_isInGoodRanges 2 = .ok (.iload_n 1, 1) := by decide +kernel
theorem d_Codes_isInGoodRanges_3 : decode b_Codes_isInGoodRanges 3 = .ok (.iconst 1, 1) := by decide +kernel
theorem d_Codes_isInGoodRanges_4 : decode b_Codes_isInGoodRanges 4 = .ok (.iadd, 1) := by decide +kernel
theorem d_Codes_isInGoodRanges_5 : decode b_Codes_isInGoodRanges 5 = .ok (.getstatic 9, 3) := by decide +kernel
theorem d_Codes_isInGoodRanges_8 : decode b_Codes_isInGoodRanges 8 = .ok (.arraylength, 1) := by decide +kernel
theorem d_Codes_isInGoodRanges_9 : decode b_Codes_isInGoodRanges 9 = .ok (.if_icmp .ge 31, 3) := by decide +kernel
theorem d_Codes_isInGoodRanges_12 : decode b_Codes_isInGoodRanges 12 = .ok (.iload_n 0, 1) := by decide +kernel
theorem d_Codes_isInGoodRanges_13 : decode b_Codes_isInGoodRanges 13 = .ok (.getstatic 9, 3) := by decide +kernel
theorem d_Codes_isInGoodRanges_16 : decode b_Codes_isInGoodRanges 16 = .ok (.iload_n 1, 1) := by decide +kernel
theorem d_Codes_isInGoodRanges_17 : decode b_Codes_isInGoodRanges 17 = .ok (.iaload, 1) := by decide +kernel
theorem d_Codes_isInGoodRanges_18 : decode b_Codes_isInGoodRanges 18 = .ok (.if_icmp .lt 16, 3) := by decide +kernel
theorem d_Codes_isInGoodRanges_21 : decode b_Codes_isInGoodRanges 21 = .ok (.iload_n 0, 1) := by decide +kernel
theorem d_Codes_isInGoodRanges_22 : decode b_Codes_isInGoodRanges 22 = .ok (.getstatic 9, 3) := by decide +kernel
theorem d_Codes_isInGoodRanges_25 : decode b_Codes_isInGoodRanges 25 = .ok (.iload_n 1, 1) := by decide +kernel
theorem d_Codes_isInGoodRanges_26 : decode b_Codes_isInGoodRanges 26 = .ok (.iconst 1, 1) := by decide +kernel
theorem d_Codes_isInGoodRanges_27 : decode b_Codes_isInGoodRanges 27 = .ok (.iadd, 1) := by decide +kernel
theorem d_Codes_isInGoodRanges_28 : decode b_Codes_isInGoodRanges 28 = .ok (.iaload, 1) := by decide +kernel
theorem d_Codes_isInGoodRanges_29 : decode b_Codes_isInGoodRanges 29 = .ok (.if_icmp .gt 5, 3) := by decide +kernel
theorem d_Codes_isInGoodRanges_32 : decode b_Codes_isInGoodRanges 32 = .ok (.iconst 1, 1) := by decide +kernel
theorem d_Codes_isInGoodRanges_33 : decode b_Codes_isInGoodRanges 33 = .ok (.ireturn, 1) := by decide +kernel
theorem d_Codes_isInGoodRanges_34 : decode b_Codes_isInGoodRanges 34 = .ok (.iinc 1 2, 3) := by decide +kernel
theorem d_Codes_isInGoodRanges_37 : decode b_Codes_isInGoodRanges 37 = .ok (.goto (-35), 3) := by decide +kernel
theorem d_Codes_isInGoodRanges_40 : decode b_Codes_isInGoodRanges 40 = .ok (.iconst 0, 1) := by decide +kernel
theorem d_Codes_isInGoodRanges_41 : decode b_Codes_isInGoodRanges 41 = .ok (.ireturn, 1) := by decide +kernel
theorem d_Codes_isPlain_0 : decode b_Codes_isPlain 0 = .ok (.iload_n 0, 1) := by decide +kernel
theorem d_Codes_isPlain_1 : decode b_Codes_isPlain 1 = .ok (.iconst 0, 1) := by decide +kernel
theorem d_Codes_isPlain_2 : decode b_Codes_isPlain 2 = .ok (.bipush 127, 2) := by decide +kernel
theorem d_Codes_isPlain_4 : decode b_Codes_isPlain 4 = .ok (.invokestatic 15, 3) := by decide +kernel
theorem d_Codes_isPlain_7 : decode b_Codes_isPlain 7 = .ok (.ifCond .eq 21, 3) := by decide +kernel
theorem d_Codes_isPlain_10 : decode b_Codes_isPlain 10 = .ok (.iload_n 0, 1) := by decide +kernel
theorem d_Codes_isPlain_11 : decode b_Codes_isPlain 11 = .ok (.invokestatic 19, 3) := by decide +kernel
theorem d_Codes_isPlain_14 : decode b_Codes_isPlain 14 = .ok (.ifCond .ne 14, 3) := by decide +kernel
theorem d_Codes_isPlain_17 : decode b_Codes_isPlain 17 = .ok (.iload_n 0, 1) := by decide +kernel
theorem d_Codes_isPlain_18 : decode b_Codes_isPlain 18 = .ok (.invokestatic 23, 3) := by decide +kernel
theorem d_Codes_isPlain_21 : decode b_Codes_isPlain 21 = .ok (.ifCond .ne 7, 3) := by decide +kernel
theorem d_Codes_isPlain_24 : decode b_Codes_isPlain 24 = .ok (.iconst 1, 1) := by decide +kernel
theorem d_Codes_isPlain_25 : decode b_Codes_isPlain 25 = .ok (.goto 4, 3) := by decide +kernel
theorem d_Codes_isPlain_28 : decode b_Codes_isPlain 28 = .ok (.iconst 0, 1) := by decide +kernel
theorem d_Codes_isPlain_29 : decode b_Codes_isPlain 29 = .ok (.ireturn, 1) := by decide +kernel
theorem d_Codes_isGood_0 : decode b_Codes_isGood 0 = .ok (.iload_n 0, 1) := by decide +kernel
theorem d_Codes_isGood_1 : decode b_Codes_isGood 1 = .ok (.invokestatic 23, 3) := by decide +kernel
theorem d_Codes_isGood_4 : decode b_Codes_isGood 4 = .ok (.ifCond .ne 25, 3) := by decide +kernel
theorem d_Codes_isGood_7 : decode b_Codes_isGood 7 = .ok (.iload_n 1, 1) := by decide +kernel
theorem d_Codes_isGood_8 : decode b_Codes_isGood 8 = .ok (.ifCond .ne 10, 3) := by decide +kernel
theorem d_Codes_isGood_11 : decode b_Codes_isGood 11 = .ok (.iload_n 0, 1) := by decide +kernel
theorem d_Codes_isGood_12 : decode b_Codes_isGood 12 = .ok (.invokestatic 26, 3) := by decide +kernel
theorem d_Codes_isGood_15 : decode b_Codes_isGood 15 = .ok (.ifCond .ne 14, 3) := by decide +kernel
theorem d_Codes_isGood_18 : decode b_Codes_isGood 18 = .ok (.iload_n 2, 1) := by decide +kernel
theorem d_Codes_isGood_19 : decode b_Codes_isGood 19 = .ok (.ifCond .ne 14, 3) := by decide +kernel
theorem d_Codes_isGood_22 : decode b_Codes_isGood 22 = .ok (.iload_n 0, 1) := by decide +kernel
theorem d_Codes_isGood_23 : decode b_Codes_isGood 23 = .ok (.invokestatic 29, 3) := by decide +kernel
theorem d_Codes_isGood_26 : decode b_Codes_isGood 26 = .ok (.ifCond .eq 7, 3) := by decide +kernel
theorem d_Codes_isGood_29 : decode b_Codes_isGood 29 = .ok (.iconst 1, 1) := by decide +kernel
theorem d_Codes_isGood_30 : decode b_Codes_isGood 30 = .ok (.goto 4, 3) := by decide +kernel
theorem d_Codes_isGood_33 : decode b_Codes_isGood 33 = .ok (.iconst 0, 1) := by decide +kernel
theorem d_Codes_isGood_34 : decode b_Codes_isGood 34 = .ok (.ireturn, 1) := by decide +kernel
theorem d_Codes_mappedTo_0 : decode b_Codes_mappedTo 0 = .ok (.iload_n 0, 1) := by decide +kernel
theorem d_Codes_mappedTo_1 : decode b_Codes_mappedTo 1 = .ok (.ldc 32, 2) := by decide +kernel
theorem d_Codes_mappedTo_3 : decode b_Codes_mappedTo 3 = .ok (.ldc 33, 2) := by decide +kernel
theorem d_Codes_mappedTo_5 : decode b_Codes_mappedTo 5 = .ok (.invokestatic 15, 3) := by decide +kernel
theorem d_Codes_mappedTo_8 : decode b_Codes_mappedTo 8 = .ok (.ifCond .eq 24, 3) := by decide +kernel
theorem d_Codes_mappedTo_11 : decode b_Codes_mappedTo 11 = .ok (.iload_n 0, 1) := by decide +kernel
theorem d_Codes_mappedTo_12 : decode b_Codes_mappedTo 12 = .ok (.ldc 34, 2) := by decide +kernel
theorem d_Codes_mappedTo_14 : decode b_Codes_mappedTo 14 = .ok (.isub, 1) := by decide +kernel
theorem d_Codes_mappedTo_15 : decode b_Codes_mappedTo 15 = .ok (.istore_n 1, 1) := by decide +kernel
theorem d_Codes_mappedTo_16 : decode b_Codes_mappedTo 16 = .ok (.iload_n 1, 1) := by decide +kernel
theorem d_Codes_mappedTo_17 : decode b_Codes_mappedTo 17 = .ok (.invokestatic 19, 3) := by decide +kernel
theorem d_Codes_mappedTo_20 : decode b_Codes_mappedTo 20 = .ok (.ifCond .eq 10, 3) := by decide +kernel
theorem d_Codes_mappedTo_23 : decode b_Codes_mappedTo 23 = .ok (.iload_n 1, 1) := by decide +kernel
theorem d_Codes_mappedTo_24 : decode b_Codes_mappedTo 24 = .ok (.bipush 32, 2) := by decide +kernel
theorem d_Codes_mappedTo_26 : decode b_Codes_mappedTo 26 = .ok (.iadd, 1) := by decide +kernel
theorem d_Codes_mappedTo_27 : decode b_Codes_mappedTo 27 = .ok (.goto 4, 3) := by decide +kernel
theorem d_Codes_mappedTo_30 : decode b_Codes_mappedTo 30 = .ok (.iload_n 1, 1) := by decide +kernel
theorem d_Codes_mappedTo_31 : decode b_Codes_mappedTo 31 = .ok (.ireturn, 1) := by decide +kernel
theorem d_Codes_mappedTo_32 : decode b_Codes_mappedTo 32 = .ok (.iload_n 0, 1) := by decide +kernel
theorem d_Codes_mappedTo_33 : decode b_Codes_mappedTo 33 = .ok (.sipush 12290, 3) := by decide +kernel
theorem d_Codes_mappedTo_36 : decode b_Codes_mappedTo 36 = .ok (.if_icmp .ne 6, 3) := by decide +kernel
theorem d_Codes_mappedTo_39 : decode b_Codes_mappedTo 39 = .ok (.bipush 46, 2) := by decide +kernel
theorem d_Codes_mappedTo_41 : decode b_Codes_mappedTo 41 = .ok (.ireturn, 1) := by decide +kernel
theorem d_Codes_mappedTo_42 : decode b_Codes_mappedTo 42 = .ok (.iload_n 0, 1) := by decide +kernel
theorem d_Codes_mappedTo_43 : decode b_Codes_mappedTo 43 = .ok (.sipush 192, 3) := by decide +kernel
theorem d_Codes_mappedTo_46 : decode b_Codes_mappedTo 46 = .ok (.sipush 222, 3) := by decide +kernel
theorem d_Codes_mappedTo_49 : decode b_Codes_mappedTo 49 = .ok (.invokestatic 15, 3) := by decide +kernel
theorem d_Codes_mappedTo_52 : decode b_Codes_mappedTo 52 = .ok (.ifCond .eq 14, 3) := by decide +kernel
theorem d_Codes_mappedTo_55 : decode b_Codes_mappedTo 55 = .ok (.iload_n 0, 1) := by decide +kernel
theorem d_Codes_mappedTo_56 : decode b_Codes_mappedTo 56 = .ok (.sipush 215, 3) := by decide +kernel
theorem d_Codes_mappedTo_59 : decode b_Codes_mappedTo 59 = .ok (.if_icmp .eq 7, 3) := by decide +kernel
theorem d_Codes_mappedTo_62 : decode b_Codes_mappedTo 62 = .ok (.iconst 1, 1) := by decide +kernel
theorem d_Codes_mappedTo_63 : decode b_Codes_mappedTo 63 = .ok (.goto 4, 3) := by decide +kernel
theorem d_Codes_mappedTo_66 : decode b_Codes_mappedTo 66 = .ok (.iconst 0, 1) := by decide +kernel
theorem d_Codes_mappedTo_67 : decode b_Codes_mappedTo 67 = .ok (.istore_n 1, 1) := by decide +kernel
theorem d_Codes_mappedTo_68 : decode b_Codes_mappedTo 68 = .ok (.iload_n 0, 1) := by decide +kernel
theorem d_Codes_mappedTo_69 : decode b_Codes_mappedTo 69 = .ok (.sipush 913, 3) := by decide +kernel
theorem d_Codes_mappedTo_72 : decode b_Codes_mappedTo 72 = .ok (.sipush 937, 3) := by decide +kernel
theorem d_Codes_mappedTo_75 : decode b_Codes_mappedTo 75 = .ok (.invokestatic 15, 3) := by decide +kernel
theorem d_Codes_mappedTo_78 : decode b_Codes_mappedTo 78 = .ok (.ifCond .eq 14, 3) := by decide +kernel
theorem d_Codes_mappedTo_81 : decode b_Codes_mappedTo 81 = .ok (.iload_n 0, 1) := by decide +kernel
theorem d_Codes_mappedTo_82 : decode b_Codes_mappedTo 82 = .ok (.sipush 930, 3) := by decide +kernel
theorem d_Codes_mappedTo_85 : decode b_Codes_mappedTo 85 = .ok (.if_icmp .eq 7, 3) := by decide +kernel
theorem d_Codes_mappedTo_88 : decode b_Codes_mappedTo 88 = .ok (.iconst 1, 1) := by decide +kernel
theorem d_Codes_mappedTo_89 : decode b_Codes_mappedTo 89 = .ok (.goto 4, 3) := by decide +kernel
theorem d_Codes_mappedTo_92 : decode b_Codes_mappedTo 92 = .ok (.iconst 0, 1) := by decide +kernel
theorem d_Codes_mappedTo_93 : decode b_Codes_mappedTo 93 = .ok (.istore_n 2, 1) := by decide +kernel
theorem d_Codes_mappedTo_94 : decode b_Codes_mappedTo 94 = .ok (.iload_n 0, 1) := by decide +kernel
theorem d_Codes_mappedTo_95 : decode b_Codes_mappedTo 95 = .ok (.invokestatic 19, 3) := by decide +kernel
theorem d_Codes_mappedTo_98 : decode b_Codes_mappedTo 98 = .ok (.ifCond .ne 11, 3) := by decide +kernel
theorem d_Codes_mappedTo_101 : decode b_Codes_mappedTo 101 = .ok (.iload_n 1, 1) := by decide +kernel
theorem d_Codes_mappedTo_102 : decode b_Codes_mappedTo 102 = .ok (.ifCond .ne 7, 3) := by decide +kernel
theorem d_Codes_mappedTo_105 : decode b_Codes_mappedTo 105 = .ok (.iload_n 2, 1) := by decide +kernel
theorem d_Codes_mappedTo_106 : decode b_Codes_mappedTo 106 = .ok (.ifCond .eq 10, 3) := by decide +kernel
theorem d_Codes_mappedTo_109 : decode b_Codes_mappedTo 109 = .ok (.iload_n 0, 1) := by decide +kernel
theorem d_Codes_mappedTo_110 : decode b_Codes_mappedTo 110 = .ok (.bipush 32, 2) := by decide +kernel
theorem d_Codes_mappedTo_112 : decode b_Codes_mappedTo 112 = .ok (.iadd, 1) := by decide +kernel
theorem d_Codes_mappedTo_113 : decode b_Codes_mappedTo 113 = .ok (.goto 4, 3) := by decide +kernel
theorem d_Codes_mappedTo_116 : decode b_Codes_mappedTo 116 = .ok (.iload_n 0, 1) := by decide +kernel
theorem d_Codes_mappedTo_117 : decode b_Codes_mappedTo 117 = .ok (.ireturn, 1) := by decide +kernel
theorem d_Codes_order_0 : decode b_Codes_order 0 = .ok (.iload_n 0, 1) := by decide +kernel
theorem d_Codes_order_1 : decode b_Codes_order 1 = .ok (.lookupswitch 73 #[(768, 59), (769, 59), (776, 59), (807, 63), (1614, 67), (2381, 70)], 59) := by decide +kernel
theorem d_Codes_order_60 : decode b_Codes_order 60 = .ok (.sipush 230, 3) := by decide +kernel
theorem d_Codes_order_63 : decode b_Codes_order 63 = .ok (.ireturn, 1) := by decide +kernel
theorem d_Codes_order_64 : decode b_Codes_order 64 = .ok (.sipush 202, 3) := by decide +kernel
theorem d_Codes_order_67 : decode b_Codes_order 67 = .ok (.ireturn, 1) := by decide +kernel
theorem d_Codes_order_68 : decode b_Codes_order 68 = .ok (.bipush 30, 2) := by decide +kernel
theorem d_Codes_order_70 : decode b_Codes_order 70 = .ok (.ireturn, 1) := by decide +kernel
theorem d_Codes_order_71 : decode b_Codes_order 71 = .ok (.bipush 9, 2) := by decide +kernel
theorem d_Codes_order_73 : decode b_Codes_order 73 = .ok (.ireturn, 1) := by decide +kernel
theorem d_Codes_order_74 : decode b_Codes_order 74 = .ok (.iconst 0, 1) := by decide +kernel
theorem d_Codes_order_75 : decode b_Codes_order 75 = .ok (.ireturn, 1) := by decide +kernel
theorem d_Codes_isMark_0 : decode b_Codes_isMark 0 = .ok (.iload_n 0, 1) := by decide +kernel
theorem d_Codes_isMark_1 : decode b_Codes_isMark 1 = .ok (.invokestatic 35, 3) := by decide +kernel
theorem d_Codes_isMark_4 : decode b_Codes_isMark 4 = .ok (.ifCond .le 7, 3) := by decide +kernel
theorem d_Codes_isMark_7 : decode b_Codes_isMark 7 = .ok (.iconst 1, 1) := by decide +kernel
theorem d_Codes_isMark_8 : decode b_Codes_isMark 8 = .ok (.goto 4, 3) := by decide +kernel
theorem d_Codes_isMark_11 : decode b_Codes_isMark 11 = .ok (.iconst 0, 1) := by decide +kernel
theorem d_Codes_isMark_12 : decode b_Codes_isMark 12 = .ok (.ireturn, 1) := by decide +kernel
theorem d_Codes_direction_0 : decode b_Codes_direction 0 = .ok (.iload_n 0, 1) := by decide +kernel
theorem d_Codes_direction_1 : decode b_Codes_direction 1 = .ok (.invokestatic 39, 3) := by decide +kernel
theorem d_Codes_direction_4 : decode b_Codes_direction 4 = .ok (.ifCond .eq 6, 3) := by decide +kernel
theorem d_Codes_direction_7 : decode b_Codes_direction 7 = .ok (.bipush 64, 2) := by decide +kernel
theorem d_Codes_direction_9 : decode b_Codes_direction 9 = .ok (.ireturn, 1) := by decide +kernel
theorem d_Codes_direction_10 : decode b_Codes_direction 10 = .ok (.iload_n 0, 1) := by decide +kernel
theorem d_Codes_direction_11 : decode b_Codes_direction 11 = .ok (.iconst 0, 1) := by decide +kernel
theorem d_Codes_direction_12 : decode b_Codes_direction 12 = .ok (.bipush 127, 2) := by decide +kernel
theorem d_Codes_direction_14 : decode b_Codes_direction 14 = .ok (.invokestatic 15, 3) := by decide +kernel
theorem d_Codes_direction_17 : decode b_Codes_direction 17 = .ok (.ifCond .eq 8, 3) := by decide +kernel
theorem d_Codes_direction_20 : decode b_Codes_direction 20 = .ok (.iload_n 0, 1) := by decide +kernel
theorem d_Codes_direction_21 : decode b_Codes_direction 21 = .ok (.invokestatic 42, 3) := by decide +kernel
theorem d_Codes_direction_24 : decode b_Codes_direction 24 = .ok (.ireturn, 1) := by decide +kernel
theorem d_Codes_direction_25 : decode b_Codes_direction 25 = .ok (.iload_n 0, 1) := by decide +kernel
theorem d_Codes_direction_26 : decode b_Codes_direction 26 = .ok (.sipush 1488, 3) := by decide +kernel
theorem d_Codes_direction_29 : decode b_Codes_direction 29 = .ok (.sipush 1514, 3) := by decide +kernel
theorem d_Codes_direction_32 : decode b_Codes_direction 32 = .ok (.invokestatic 15, 3) := by decide +kernel
theorem d_Codes_direction_35 : decode b_Codes_direction 35 = .ok (.ifCond .eq 5, 3) := by decide +kernel
theorem d_Codes_direction_38 : decode b_Codes_direction 38 = .ok (.iconst 2, 1) := by decide +kernel
theorem d_Codes_direction_39 : decode b_Codes_direction 39 = .ok (.ireturn, 1) := by decide +kernel
theorem d_Codes_direction_40 : decode b_Codes_direction 40 = .ok (.iload_n 0, 1) := by decide +kernel
theorem d_Codes_direction_41 : decode b_Codes_direction 41 = .ok (.sipush 1575, 3) := by decide +kernel
theorem d_Codes_direction_44 : decode b_Codes_direction 44 = .ok (.if_icmp .eq 10, 3) := by decide +kernel
theorem d_Codes_direction_47 : decode b_Codes_direction 47 = .ok (.iload_n 0, 1) := by decide +kernel
theorem d_Codes_direction_48 : decode b_Codes_direction 48 = .ok (.sipush 1576, 3) := by decide +kernel
theorem d_Codes_direction_51 : decode b_Codes_direction 51 = .ok (.if_icmp .ne 5, 3) := by decide +kernel
theorem d_Codes_direction_54 : decode b_Codes_direction 54 = .ok (.iconst 4, 1) := by decide +kernel
theorem d_Codes_direction_55 : decode b_Codes_direction 55 = .ok (.ireturn, 1) := by decide +kernel
theorem d_Codes_direction_56 : decode b_Codes_direction 56 = .ok (.iload_n 0, 1) := by decide +kernel
theorem d_Codes_direction_57 : decode b_Codes_direction 57 = .ok (.sipush 1632, 3) := by decide +kernel
theorem d_Codes_direction_60 : decode b_Codes_direction 60 = .ok (.sipush 1641, 3) := by decide +kernel
theorem d_Codes_direction_63 : decode b_Codes_direction 63 = .ok (.invokestatic 15, 3) := by decide +kernel
theorem d_Codes_direction_66 : decode b_Codes_direction 66 = .ok (.ifCond .eq 6, 3) := by decide +kernel
theorem d_Codes_direction_69 : decode b_Codes_direction 69 = .ok (.bipush 8, 2) := by decide +kernel
theorem d_Codes_direction_71 : decode b_Codes_direction 71 = .ok (.ireturn, 1) := by decide +kernel
theorem d_Codes_direction_72 : decode b_Codes_direction 72 = .ok (.iload_n 0, 1) := by decide +kernel
theorem d_Codes_direction_73 : decode b_Codes_direction 73 = .ok (.sipush 1776, 3) := by decide +kernel
theorem d_Codes_direction_76 : decode b_Codes_direction 76 = .ok (.sipush 1785, 3) := by decide +kernel
theorem d_Codes_direction_79 : decode b_Codes_direction 79 = .ok (.invokestatic 15, 3) := by decide +kernel
theorem d_Codes_direction_82 : decode b_Codes_direction 82 = .ok (.ifCond .eq 6, 3) := by decide +kernel
theorem d_Codes_direction_85 : decode b_Codes_direction 85 = .ok (.bipush 16, 2) := by decide +kernel
theorem d_Codes_direction_87 : decode b_Codes_direction 87 = .ok (.ireturn, 1) := by decide +kernel
theorem d_Codes_direction_88 : decode b_Codes_direction 88 = .ok (.iload_n 0, 1) := by decide +kernel
theorem d_Codes_direction_89 : decode b_Codes_direction 89 = .ok (.sipush 8204, 3) := by decide +kernel
theorem d_Codes_direction_92 : decode b_Codes_direction 92 = .ok (.if_icmp .eq 10, 3) := by decide +kernel
theorem d_Codes_direction_95 : decode b_Codes_direction 95 = .ok (.iload_n 0, 1) := by decide +kernel
theorem d_Codes_direction_96 : decode b_Codes_direction 96 = .ok (.sipush 8205, 3) := by decide +kernel
theorem d_Codes_direction_99 : decode b_Codes_direction 99 = .ok (.if_icmp .ne 9, 3) := by decide +kernel
theorem d_Codes_direction_102 : decode b_Codes_direction 102 = .ok (.sipush 128, 3) := by decide +kernel
theorem d_Codes_direction_105 : decode b_Codes_direction 105 = .ok (.goto 4, 3) := by decide +kernel
theorem d_Codes_direction_108 : decode b_Codes_direction 108 = .ok (.iconst 1, 1) := by decide +kernel
theorem d_Codes_direction_109 : decode b_Codes_direction 109 = .ok (.ireturn, 1) := by decide +kernel
theorem d_Codes_asciiDirection_0 : decode b_Codes_asciiDirection 0 = .ok (.iload_n 0, 1) := by decide +kernel
theorem d_Codes_asciiDirection_1 : decode b_Codes_asciiDirection 1 = .ok (.bipush 48, 2) := by decide +kernel
theorem d_Codes_asciiDirection_3 : decode b_Codes_asciiDirection 3 = .ok (.bipush 57, 2) := by decide +kernel
theorem d_Codes_asciiDirection_5 : decode b_Codes_asciiDirection 5 = .ok (.invokestatic 15, 3) := by decide +kernel
theorem d_Codes_asciiDirection_8 : decode b_Codes_asciiDirection 8 = .ok (.ifCond .eq 6, 3) := by decide +kernel
theorem d_Codes_asciiDirection_11 : decode b_Codes_asciiDirection 11 = .ok (.bipush 16, 2) := by decide +kernel
theorem d_Codes_asciiDirection_13 : decode b_Codes_asciiDirection 13 = .ok (.ireturn, 1) := by decide +kernel
theorem d_Codes_asciiDirection_14 : decode b_Codes_asciiDirection 14 = .ok (.iload_n 0, 1) := by decide +kernel
theorem d_Codes_asciiDirection_15 : decode b_Codes_asciiDirection 15 = .ok (.bipush 45, 2) := by decide +kernel
theorem d_Codes_asciiDirection_17 : decode b_Codes_asciiDirection 17 = .ok (.if_icmp .ne 6, 3) := by decide +kernel
theorem d_Codes_asciiDirection_20 : decode b_Codes_asciiDirection 20 = .ok (.bipush 32, 2) := by decide +kernel
theorem d_Codes_asciiDirection_22 : decode b_Codes_asciiDirection 22 = .ok (.ireturn, 1) := by decide +kernel
theorem d_Codes_asciiDirection_23 : decode b_Codes_asciiDirection 23 = .ok (.iload_n 0, 1) := by decide +kernel
theorem d_Codes_asciiDirection_24 : decode b_Codes_asciiDirection 24 = .ok (.invokestatic 19, 3) := by decide +kernel
theorem d_Codes_asciiDirection_27 : decode b_Codes_asciiDirection 27 = .ok (.ifCond .ne 14, 3) := by decide +kernel
theorem d_Codes_asciiDirection_30 : decode b_Codes_asciiDirection 30 = .ok (.iload_n 0, 1) := by decide +kernel
theorem d_Codes_asciiDirection_31 : decode b_Codes_asciiDirection 31 = .ok (.bipush 97, 2) := by decide +kernel
theorem d_Codes_asciiDirection_33 : decode b_Codes_asciiDirection 33 = .ok (.bipush 122, 2) := by decide +kernel
theorem d_Codes_asciiDirection_35 : decode b_Codes_asciiDirection 35 = .ok (.invokestatic 15, 3) := by decide +kernel
theorem d_Codes_asciiDirection_38 : decode b_Codes_asciiDirection 38 = .ok (.ifCond .eq 7, 3) := by decide +kernel
theorem d_Codes_asciiDirection_41 : decode b_Codes_asciiDirection 41 = .ok (.iconst 1, 1) := by decide +kernel
theorem d_Codes_asciiDirection_42 : decode b_Codes_asciiDirection 42 = .ok (.goto 6, 3) := by decide +kernel
theorem d_Codes_asciiDirection_45 : decode b_Codes_asciiDirection 45 = .ok (.sipush 256, 3) := by decide +kernel
theorem d_Codes_asciiDirection_48 : decode b_Codes_asciiDirection 48 = .ok (.ireturn, 1) := by decide +kernel
theorem d_Codes_hasRightToLeft_0 : decode b_Codes_hasRightToLeft 0 = .ok (.iconst 0, 1) := by decide +kernel
theorem d_Codes_hasRightToLeft_1 : decode b_Codes_hasRightToLeft 1 = .ok (.istore_n 1, 1) := by decide +kernel
theorem d_Codes_hasRightToLeft_2 : decode b_Codes_hasRightToLeft 2 = .ok (.iload_n 1, 1) := by decide +kernel
theorem d_Codes_hasRightToLeft_3 : decode b_Codes_hasRightToLeft 3 = .ok (.aload_n 0, 1) := by decide +kernel
theorem d_Codes_hasRightToLeft_4 : decode b_Codes_hasRightToLeft 4 = .ok (.invokevirtual 45, 3) := by decide +kernel
theorem d_Codes_hasRightToLeft_7 : decode b_Codes_hasRightToLeft 7 = .ok (.if_icmp .ge 25, 3) := by decide +kernel
theorem d_Codes_hasRightToLeft_10 : decode b_Codes_hasRightToLeft 10 = .ok (.aload_n 0, 1) := by decide +kernel
theorem d_Codes_hasRightToLeft_11 : decode b_Codes_hasRightToLeft 11 = .ok (.iload_n 1, 1) := by decide +kernel
theorem d_Codes_hasRightToLeft_12 : decode b_Codes_hasRightToLeft 12 = .ok (.invokevirtual 51, 3) := by decide +kernel
theorem d_Codes_hasRightToLeft_15 : decode b_Codes_hasRightToLeft 15 = .ok (.invokestatic 54, 3) := by decide +kernel
theorem d_Codes_hasRightToLeft_18 : decode b_Codes_hasRightToLeft 18 = .ok (.bipush 14, 2) := by decide +kernel
theorem d_Codes_hasRightToLeft_20 : decode b_Codes_hasRightToLeft 20 = .ok (.iand, 1) := by decide +kernel
theorem d_Codes_hasRightToLeft_21 : decode b_Codes_hasRightToLeft 21 = .ok (.ifCond .eq 5, 3) := by decide +kernel
theorem d_Codes_hasRightToLeft_24 : decode b_Codes_hasRightToLeft 24 = .ok (.iconst 1, 1) := by decide +kernel
theorem d_Codes_hasRightToLeft_25 : decode b_Codes_hasRightToLeft 25 = .ok (.ireturn, 1) := by decide +kernel
theorem d_Codes_hasRightToLeft_26 : decode b_Codes_hasRightToLeft 26 = .ok (.iinc 1 1, 3) := by decide +kernel
theorem d_Codes_hasRightToLeft_29 : decode b_Codes_hasRightToLeft 29 = .ok (.goto (-27), 3) := by decide +kernel
theorem d_Codes_hasRightToLeft_32 : decode b_Codes_hasRightToLeft 32 = .ok (.iconst 0, 1) := by decide +kernel
theorem d_Codes_hasRightToLeft_33 : decode b_Codes_hasRightToLeft 33 = .ok (.ireturn, 1) := by decide +kernel
theorem d_Codes_joining_0 : decode b_Codes_joining 0 = .ok (.iload_n 0, 1) := by decide +kernel
theorem d_Codes_joining_1 : decode b_Codes_joining 1 = .ok (.lookupswitch 49 #[(1575, 43), (1576, 45), (1614, 47), (2381, 47)], 43) := by decide +kernel
theorem d_Codes_joining_44 : decode b_Codes_joining 44 = .ok (.iconst 1, 1) := by decide +kernel
theorem d_Codes_joining_45 : decode b_Codes_joining 45 = .ok (.ireturn, 1) := by decide +kernel
theorem d_Codes_joining_46 : decode b_Codes_joining 46 = .ok (.iconst 2, 1) := by decide +kernel
theorem d_Codes_joining_47 : decode b_Codes_joining 47 = .ok (.ireturn, 1) := by decide +kernel
theorem d_Codes_joining_48 : decode b_Codes_joining 48 = .ok (.iconst 3, 1) := by decide +kernel
theorem d_Codes_joining_49 : decode b_Codes_joining 49 = .ok (.ireturn, 1) := by decide +kernel
theorem d_Codes_joining_50 : decode b_Codes_joining 50 = .ok (.iconst 0, 1) := by decide +kernel
theorem d_Codes_joining_51 : decode b_Codes_joining 51 = .ok (.ireturn, 1) := by decide +kernel
theorem d_Labels_init_0 : decode b_Labels_init 0 = .ok (.aload_n 0, 1) := by decide +kernel
theorem d_Labels_init_1 : decode b_Labels_init 1 = .ok (.invokespecial 3, 3) := by decide +kernel
theorem d_Labels_init_4 : decode b_Labels_init 4 = .ok (.aload_n 0, 1) := by decide +kernel
theorem d_Labels_init_5 : decode b_Labels_init 5 = .ok (.new 9, 3) := by decide +kernel
theorem d_Labels_init_8 : decode b_Labels_init 8 = .ok (.dup, 1) := by decide +kernel
theorem d_Labels_init_9 : decode b_Labels_init 9 = .ok (.bipush 96, 2) := by decide +kernel
theorem d_Labels_init_11 : decode b_Labels_init 11 = .ok (.invokespecial 11, 3) := by decide +kernel
theorem d_Labels_init_14 : decode b_Labels_init 14 = .ok (.putfield 14, 3) := by decide +kernel
theorem d_Labels_init_17 : decode b_Labels_init 17 = .ok (.aload_n 0, 1) := by decide +kernel
theorem d_Labels_init_18 : decode b_Labels_init 18 = .ok (.bipush 49, 2) := by decide +kernel
theorem d_Labels_init_20 : decode b_Labels_init 20 = .ok (.newarray .int, 2) := by decide +kernel
theorem d_Labels_init_22 : decode b_Labels_init 22 = .ok (.putfield 20, 3) := by decide +kernel
theorem d_Labels_init_25 : decode b_Labels_init 25 = .ok (.aload_n 0, 1) := by decide +kernel
theorem d_Labels_init_26 : decode b_Labels_init 26 = .ok (.bipush 49, 2) := by decide +kernel
theorem d_Labels_init_28 : decode b_Labels_init 28 = .ok (.newarray .int, 2) := by decide +kernel
theorem d_Labels_init_30 : decode b_Labels_init 30 = .ok (.putfield 24, 3) := by decide +kernel
theorem d_Labels_init_33 : decode b_Labels_init 33 = .ok (.aload_n 0, 1) := by decide +kernel
theorem d_Labels_init_34 : decode b_Labels_init 34 = .ok (.bipush 49, 2) := by decide +kernel
theorem d_Labels_init_36 : decode b_Labels_init 36 = .ok (.newarray .boolean, 2) := by decide +kernel
theorem d_Labels_init_38 : decode b_Labels_init 38 = .ok (.putfield 27, 3) := by decide +kernel
theorem d_Labels_init_41 : decode b_Labels_init 41 = .ok (.aload_n 0, 1) := by decide +kernel
theorem d_Labels_init_42 : decode b_Labels_init 42 = .ok (.iconst 0, 1) := by decide +kernel
theorem d_Labels_init_43 : decode b_Labels_init 43 = .ok (.putfield 31, 3) := by decide +kernel
theorem d_Labels_init_46 : decode b_Labels_init 46 = .ok (.return_, 1) := by decide +kernel
theorem d_Labels_empty_0 : decode b_Labels_empty 0 = .ok (.aload_n 0, 1) := by decide +kernel
theorem d_Labels_empty_1 : decode b_Labels_empty 1 = .ok (.getfield 14, 3) := by decide +kernel
theorem d_Labels_empty_4 : decode b_Labels_empty 4 = .ok (.invokevirtual 35, 3) := by decide +kernel
theorem d_Labels_empty_7 : decode b_Labels_empty 7 = .ok (.aload_n 0, 1) := by decide +kernel
theorem d_Labels_empty_8 : decode b_Labels_empty 8 = .ok (.iconst 0, 1) := by decide +kernel
theorem d_Labels_empty_9 : decode b_Labels_empty 9 = .ok (.putfield 31, 3) := by decide +kernel
theorem d_Labels_empty_12 : decode b_Labels_empty 12 = .ok (.return_, 1) := by decide +kernel
theorem d_Labels_add_0 : decode b_Labels_add 0 = .ok (.aload_n 0, 1) := by decide +kernel
theorem d_Labels_add_1 : decode b_Labels_add 1 = .ok (.getfield 31, 3) := by decide +kernel
theorem d_Labels_add_4 : decode b_Labels_add 4 = .ok (.bipush 49, 2) := by decide +kernel
theorem d_Labels_add_6 : decode b_Labels_add 6 = .ok (.if_icmp .lt 4, 3) := by decide +kernel
theorem d_Labels_add_9 : decode b_Labels_add 9 = .ok (.return_, 1) := by decide +kernel
theorem d_Labels_add_10 : decode b_Labels_add 10 = .ok (.aload_n 0, 1) := by decide +kernel
theorem d_Labels_add_11 : decode b_Labels_add 11 = .ok (.getfield 14, 3) := by decide +kernel
theorem d_Labels_add_14 : decode b_Labels_add 14 = .ok (.aload_n 1, 1) := by decide +kernel
theorem d_Labels_add_15 : decode b_Labels_add 15 = .ok (.iconst 0, 1) := by decide +kernel
theorem d_Labels_add_16 : decode b_Labels_add 16 = .ok (.aload_n 1, 1) := by decide +kernel
theorem d_Labels_add_17 : decode b_Labels_add 17 = .ok (.invokevirtual 38, 3) := by decide +kernel
theorem d_Labels_add_20 : decode b_Labels_add 20 = .ok (.invokevirtual 42, 3) := by decide +kernel
theorem d_Labels_add_23 : decode b_Labels_add 23 = .ok (.aload_n 0, 1) := by decide +kernel
theorem d_Labels_add_24 : decode b_Labels_add 24 = .ok (.getfield 20, 3) := by decide +kernel
theorem d_Labels_add_27 : decode b_Labels_add 27 = .ok (.aload_n 0, 1) := by decide +kernel
theorem d_Labels_add_28 : decode b_Labels_add 28 = .ok (.getfield 31, 3) := by decide +kernel
theorem d_Labels_add_31 : decode b_Labels_add 31 = .ok (.aload_n 0, 1) := by decide +kernel
theorem d_Labels_add_32 : decode b_Labels_add 32 = .ok (.getfield 14, 3) := by decide +kernel
theorem d_Labels_add_35 : decode b_Labels_add 35 = .ok (.invokevirtual 38, 3) := by decide +kernel
theorem d_Labels_add_38 : decode b_Labels_add 38 = .ok (.iastore, 1) := by decide +kernel
theorem d_Labels_add_39 : decode b_Labels_add 39 = .ok (.aload_n 0, 1) := by decide +kernel
theorem d_Labels_add_40 : decode b_Labels_add 40 = .ok (.getfield 24, 3) := by decide +kernel
theorem d_Labels_add_43 : decode b_Labels_add 43 = .ok (.aload_n 0, 1) := by decide +kernel
theorem d_Labels_add_44 : decode b_Labels_add 44 = .ok (.getfield 31, 3) := by decide +kernel
theorem d_Labels_add_47 : decode b_Labels_add 47 = .ok (.iload_n 3, 1) := by decide +kernel
theorem d_Labels_add_48 : decode b_Labels_add 48 = .ok (.iastore, 1) := by decide +kernel
theorem d_Labels_add_49 : decode b_Labels_add 49 = .ok (.aload_n 0, 1) := by decide +kernel
theorem d_Labels_add_50 : decode b_Labels_add 50 = .ok (.getfield 27, 3) := by decide +kernel
theorem d_Labels_add_53 : decode b_Labels_add 53 = .ok (.aload_n 0, 1) := by decide +kernel
theorem d_Labels_add_54 : decode b_Labels_add 54 = .ok (.getfield 31, 3) := by decide +kernel
theorem d_Labels_add_57 : decode b_Labels_add 57 = .ok (.iload_n 2, 1) := by decide +kernel
theorem d_Labels_add_58 : decode b_Labels_add 58 = .ok (.bastore, 1) := by decide +kernel
theorem d_Labels_add_59 : decode b_Labels_add 59 = .ok (.aload_n 0, 1) := by decide +kernel
theorem d_Labels_add_60 : decode b_Labels_add 60 = .ok (.dup, 1) := by decide +kernel
theorem d_Labels_add_61 : decode b_Labels_add 61 = .ok (.getfield 31, 3) := by decide +kernel
theorem d_Labels_add_64 : decode b_Labels_add 64 = .ok (.iconst 1, 1) := by decide +kernel
theorem d_Labels_add_65 : decode b_Labels_add 65 = .ok (.iadd, 1) := by decide +kernel
theorem d_Labels_add_66 : decode b_Labels_add 66 = .ok (.putfield 31, 3) := by decide +kernel
theorem d_Labels_add_69 : decode b_Labels_add 69 = .ok (.return_, 1) := by decide +kernel
theorem d_Labels_count_0 : decode b_Labels_count 0 = .ok (.aload_n 0, 1) := by decide +kernel
theorem d_Labels_count_1 : decode b_Labels_count 1 = .ok (.getfield 31, 3) := by decide +kernel
theorem d_Labels_count_4 : decode b_Labels_count 4 = .ok (.ireturn, 1) := by decide +kernel
theorem d_Labels_codes_0 : decode b_Labels_codes 0 = .ok (.aload_n 0, 1) := by decide +kernel
theorem d_Labels_codes_1 : decode b_Labels_codes 1 = .ok (.getfield 14, 3) := by decide +kernel
theorem d_Labels_codes_4 : decode b_Labels_codes 4 = .ok (.areturn, 1) := by decide +kernel
theorem d_Labels_has_0 : decode b_Labels_has 0 = .ok (.iload_n 1, 1) := by decide +kernel
theorem d_Labels_has_1 : decode b_Labels_has 1 = .ok (.ifCond .lt 15, 3) := by decide +kernel
theorem d_Labels_has_4 : decode b_Labels_has 4 = .ok (.iload_n 1, 1) := by decide +kernel
theorem d_Labels_has_5 : decode b_Labels_has 5 = .ok (.aload_n 0, 1) := by decide +kernel
theorem d_Labels_has_6 : decode b_Labels_has 6 = .ok (.getfield 31, 3) := by decide +kernel
theorem d_Labels_has_9 : decode b_Labels_has 9 = .ok (.if_icmp .ge 7, 3) := by decide +kernel
theorem d_Labels_has_12 : decode b_Labels_has 12 = .ok (.iconst 1, 1) := by decide +kernel
theorem d_Labels_has_13 : decode b_Labels_has 13 = .ok (.goto 4, 3) := by decide +kernel
theorem d_Labels_has_16 : decode b_Labels_has 16 = .ok (.iconst 0, 1) := by decide +kernel
theorem d_Labels_has_17 : decode b_Labels_has 17 = .ok (.ireturn, 1) := by decide +kernel
theorem d_Labels_wasTagged_0 : decode b_Labels_wasTagged 0 = .ok (.aload_n 0, 1) := by decide +kernel
theorem d_Labels_wasTagged_1 : decode b_Labels_wasTagged 1 = .ok (.iload_n 1, 1) := by decide +kernel
theorem d_Labels_wasTagged_2 : decode b_Labels_wasTagged 2 = .ok (.invokevirtual 46, 3) := by decide +kernel
theorem d_Labels_wasTagged_5 : decode b_Labels_wasTagged 5 = .ok (.ifCond .eq 16, 3) := by decide +kernel
theorem d_Labels_wasTagged_8 : decode b_Labels_wasTagged 8 = .ok (.aload_n 0, 1) := by decide +kernel
theorem d_Labels_wasTagged_9 : decode b_Labels_wasTagged 9 = .ok (.getfield 27, 3) := by decide +kernel
theorem d_Labels_wasTagged_12 : decode b_Labels_wasTagged 12 = .ok (.iload_n 1, 1) := by decide +kernel
theorem d_Labels_wasTagged_13 : decode b_Labels_wasTagged 13 = .ok (.baload, 1) := by decide +kernel
theorem d_Labels_wasTagged_14 : decode b_Labels_wasTagged 14 = .ok (.ifCond .eq 7, 3) := by decide +kernel
theorem d_Labels_wasTagged_17 : decode b_Labels_wasTagged 17 = .ok (.iconst 1, 1) := by decide +kernel
theorem d_Labels_wasTagged_18 : decode b_Labels_wasTagged 18 = .ok (.goto 4, 3) := by decide +kernel
theorem d_Labels_wasTagged_21 : decode b_Labels_wasTagged 21 = .ok (.iconst 0, 1) := by decide +kernel
theorem d_Labels_wasTagged_22 : decode b_Labels_wasTagged 22 = .ok (.ireturn, 1) := by decide +kernel
theorem d_Labels_rules_0 : decode b_Labels_rules 0 = .ok (.aload_n 0, 1) := by decide +kernel
theorem d_Labels_rules_1 : decode b_Labels_rules 1 = .ok (.iload_n 1, 1) := by decide +kernel
theorem d_Labels_rules_2 : decode b_Labels_rules 2 = .ok (.invokevirtual 46, 3) := by decide +kernel
theorem d_Labels_rules_5 : decode b_Labels_rules 5 = .ok (.ifCond .eq 12, 3) := by decide +kernel
theorem d_Labels_rules_8 : decode b_Labels_rules 8 = .ok (.aload_n 0, 1) := by decide +kernel
theorem d_Labels_rules_9 : decode b_Labels_rules 9 = .ok (.getfield 24, 3) := by decide +kernel
theorem d_Labels_rules_12 : decode b_Labels_rules 12 = .ok (.iload_n 1, 1) := by decide +kernel
theorem d_Labels_rules_13 : decode b_Labels_rules 13 = .ok (.iaload, 1) := by decide +kernel
theorem d_Labels_rules_14 : decode b_Labels_rules 14 = .ok (.goto 4, 3) := by decide +kernel
theorem d_Labels_rules_17 : decode b_Labels_rules 17 = .ok (.iconst (-1), 1) := by decide +kernel
theorem d_Labels_rules_18 : decode b_Labels_rules 18 = .ok (.ireturn, 1) := by decide +kernel
theorem d_Labels_addRules_0 : decode b_Labels_addRules 0 = .ok (.aload_n 0, 1) := by decide +kernel
theorem d_Labels_addRules_1 : decode b_Labels_addRules 1 = .ok (.iload_n 1, 1) := by decide +kernel
theorem d_Labels_addRules_2 : decode b_Labels_addRules 2 = .ok (.invokevirtual 46, 3) := by decide +kernel
theorem d_Labels_addRules_5 : decode b_Labels_addRules 5 = .ok (.ifCond .eq 13, 3) := by decide +kernel
theorem d_Labels_addRules_8 : decode b_Labels_addRules 8 = .ok (.aload_n 0, 1) := by decide +kernel
theorem d_Labels_addRules_9 : decode b_Labels_addRules 9 = .ok (.getfield 24, 3) := by decide +kernel
theorem d_Labels_addRules_12 : decode b_Labels_addRules 12 = .ok (.iload_n 1, 1) := by decide +kernel
theorem d_Labels_addRules_13 : decode b_Labels_addRules 13 = .ok (.dup2, 1) := by decide +kernel
theorem d_Labels_addRules_14 : decode b_Labels_addRules 14 = .ok (.iaload, 1) := by decide +kernel
theorem d_Labels_addRules_15 : decode b_Labels_addRules 15 = .ok (.iload_n 2, 1) := by decide +kernel
theorem d_Labels_addRules_16 : decode b_Labels_addRules 16 = .ok (.ior, 1) := by decide +kernel
theorem d_Labels_addRules_17 : decode b_Labels_addRules 17 = .ok (.iastore, 1) := by decide +kernel
theorem d_Labels_addRules_18 : decode b_Labels_addRules 18 = .ok (.return_, 1) := by decide +kernel
theorem d_Labels_allRules_0 : decode b_Labels_allRules 0 = .ok (.iconst 0, 1) := by decide +kernel
theorem d_Labels_allRules_1 : decode b_Labels_allRules 1 = .ok (.istore_n 1, 1) := by decide +kernel
theorem d_Labels_allRules_2 : decode b_Labels_allRules 2 = .ok (.iconst 0, 1) := by decide +kernel
theorem d_Labels_allRules_3 : decode b_Labels_allRules 3 = .ok (.istore_n 2, 1) := by decide +kernel
theorem d_Labels_allRules_4 : decode b_Labels_allRules 4 = .ok (.iload_n 2, 1) := by decide +kernel
theorem d_Labels_allRules_5 : decode b_Labels_allRules 5 = .ok (.aload_n 0, 1) := by decide +kernel
theorem d_Labels_allRules_6 : decode b_Labels_allRules 6 = .ok (.getfield 31, 3) := by decide +kernel
theorem d_Labels_allRules_9 : decode b_Labels_allRules 9 = .ok (.if_icmp .ge 18, 3) := by decide +kernel
theorem d_Labels_allRules_12 : decode b_Labels_allRules 12 = .ok (.iload_n 1, 1) := by decide +kernel
theorem d_Labels_allRules_13 : decode b_Labels_allRules 13 = .ok (.aload_n 0, 1) := by decide +kernel
theorem d_Labels_allRules_14 : decode b_Labels_allRules 14 = .ok (.getfield 24, 3) := by decide +kernel
theorem d_Labels_allRules_17 : decode b_Labels_allRules 17 = .ok (.iload_n 2, 1) := by decide +kernel
theorem d_Labels_allRules_18 : decode b_Labels_allRules 18 = .ok (.iaload, 1) := by decide +kernel
theorem d_Labels_allRules_19 : decode b_Labels_allRules 19 = .ok (.ior, 1) := by decide +kernel
theorem d_Labels_allRules_20 : decode b_Labels_allRules 20 = .ok (.istore_n 1, 1) := by decide +kernel
theorem d_Labels_allRules_21 : decode b_Labels_allRules 21 = .ok (.iinc 2 1, 3) := by decide +kernel
theorem d_Labels_allRules_24 : decode b_Labels_allRules 24 = .ok (.goto (-20), 3) := by decide +kernel
theorem d_Labels_allRules_27 : decode b_Labels_allRules 27 = .ok (.iload_n 1, 1) := by decide +kernel
theorem d_Labels_allRules_28 : decode b_Labels_allRules 28 = .ok (.ireturn, 1) := by decide +kernel
theorem d_Labels_copyLabel_0 : decode b_Labels_copyLabel 0 = .ok (.aload_n 2, 1) := by decide +kernel
theorem d_Labels_copyLabel_1 : decode b_Labels_copyLabel 1 = .ok (.invokevirtual 35, 3) := by decide +kernel
theorem d_Labels_copyLabel_4 : decode b_Labels_copyLabel 4 = .ok (.aload_n 0, 1) := by decide +kernel
theorem d_Labels_copyLabel_5 : decode b_Labels_copyLabel 5 = .ok (.iload_n 1, 1) := by decide +kernel
theorem d_Labels_copyLabel_6 : decode b_Labels_copyLabel 6 = .ok (.invokevirtual 46, 3) := by decide +kernel
theorem d_Labels_copyLabel_9 : decode b_Labels_copyLabel 9 = .ok (.ifCond .eq 33, 3) := by decide +kernel
theorem d_Labels_copyLabel_12 : decode b_Labels_copyLabel 12 = .ok (.aload_n 2, 1) := by decide +kernel
theorem d_Labels_copyLabel_13 : decode b_Labels_copyLabel 13 = .ok (.aload_n 0, 1) := by decide +kernel
theorem d_Labels_copyLabel_14 : decode b_Labels_copyLabel 14 = .ok (.getfield 14, 3) := by decide +kernel
theorem d_Labels_copyLabel_17 : decode b_Labels_copyLabel 17 = .ok (.iload_n 1, 1) := by decide +kernel
theorem d_Labels_copyLabel_18 : decode b_Labels_copyLabel 18 = .ok (.ifCond .ne 7, 3) := by decide +kernel
theorem d_Labels_copyLabel_21 : decode b_Labels_copyLabel 21 = .ok (.iconst 0, 1) := by decide +kernel
theorem d_Labels_copyLabel_22 : decode b_Labels_copyLabel 22 = .ok (.goto 11, 3) := by decide +kernel
theorem d_Labels_copyLabel_25 : decode b_Labels_copyLabel 25 = .ok (.aload_n 0, 1) := by decide +kernel
theorem d_Labels_copyLabel_26 : decode b_Labels_copyLabel 26 = .ok (.getfield 20, 3) := by decide +kernel
theorem d_Labels_copyLabel_29 : decode b_Labels_copyLabel 29 = .ok (.iload_n 1, 1) := by decide +kernel
theorem d_Labels_copyLabel_30 : decode b_Labels_copyLabel 30 = .ok (.iconst 1, 1) := by decide +kernel
theorem d_Labels_copyLabel_31 : decode b_Labels_copyLabel 31 = .ok (.isub, 1) := by decide +kernel
theorem d_Labels_copyLabel_32 : decode b_Labels_copyLabel 32 = .ok (.iaload, 1) := by decide +kernel
theorem d_Labels_copyLabel_33 : decode b_Labels_copyLabel 33 = .ok (.aload_n 0, 1) := by decide +kernel
theorem d_Labels_copyLabel_34 : decode b_Labels_copyLabel 34 = .ok (.getfield 20, 3) := by decide +kernel
theorem d_Labels_copyLabel_37 : decode b_Labels_copyLabel 37 = .ok (.iload_n 1, 1) := by decide +kernel
theorem d_Labels_copyLabel_38 : decode b_Labels_copyLabel 38 = .ok (.iaload, 1) := by decide +kernel
theorem d_Labels_copyLabel_39 : decode b_Labels_copyLabel 39 = .ok (.invokevirtual 42, 3) := by decide +kernel
theorem d_Labels_copyLabel_42 : decode b_Labels_copyLabel 42 = .ok (.return_, 1) := by decide +kernel
theorem d_Row_init_0 : decode b_Row_init 0 = .ok (.aload_n 0, 1) := by decide +kernel
theorem d_Row_init_1 : decode b_Row_init 1 = .ok (.invokespecial 3, 3) := by decide +kernel
theorem d_Row_init_4 : decode b_Row_init 4 = .ok (.aload_n 0, 1) := by decide +kernel
theorem d_Row_init_5 : decode b_Row_init 5 = .ok (.iload_n 1, 1) := by decide +kernel
theorem d_Row_init_6 : decode b_Row_init 6 = .ok (.newarray .int, 2) := by decide +kernel
theorem d_Row_init_8 : decode b_Row_init 8 = .ok (.putfield 9, 3) := by decide +kernel
theorem d_Row_init_11 : decode b_Row_init 11 = .ok (.aload_n 0, 1) := by decide +kernel
theorem d_Row_init_12 : decode b_Row_init 12 = .ok (.iconst 0, 1) := by decide +kernel
theorem d_Row_init_13 : decode b_Row_init 13 = .ok (.putfield 15, 3) := by decide +kernel
theorem d_Row_init_16 : decode b_Row_init 16 = .ok (.return_, 1) := by decide +kernel
theorem d_Row_size_0 : decode b_Row_size 0 = .ok (.aload_n 0, 1) := by decide +kernel
theorem d_Row_size_1 : decode b_Row_size 1 = .ok (.getfield 15, 3) := by decide +kernel
theorem d_Row_size_4 : decode b_Row_size 4 = .ok (.ireturn, 1) := by decide +kernel
theorem d_Row_get_0 : decode b_Row_get 0 = .ok (.iload_n 1, 1) := by decide +kernel
theorem d_Row_get_1 : decode b_Row_get 1 = .ok (.ifCond .lt 11, 3) := by decide +kernel
theorem d_Row_get_4 : decode b_Row_get 4 = .ok (.iload_n 1, 1) := by decide +kernel
theorem d_Row_get_5 : decode b_Row_get 5 = .ok (.aload_n 0, 1) := by decide +kernel
theorem d_Row_get_6 : decode b_Row_get 6 = .ok (.getfield 15, 3) := by decide +kernel
theorem d_Row_get_9 : decode b_Row_get 9 = .ok (.if_icmp .lt 7, 3) := by decide +kernel
theorem d_Row_get_12 : decode b_Row_get 12 = .ok (.iconst (-1), 1) := by decide +kernel
theorem d_Row_get_13 : decode b_Row_get 13 = .ok (.goto 9, 3) := by decide +kernel
theorem d_Row_get_16 : decode b_Row_get 16 = .ok (.aload_n 0, 1) := by decide +kernel
theorem d_Row_get_17 : decode b_Row_get 17 = .ok (.getfield 9, 3) := by decide +kernel
theorem d_Row_get_20 : decode b_Row_get 20 = .ok (.iload_n 1, 1) := by decide +kernel
theorem d_Row_get_21 : decode b_Row_get 21 = .ok (.iaload, 1) := by decide +kernel
theorem d_Row_get_22 : decode b_Row_get 22 = .ok (.ireturn, 1) := by decide +kernel
theorem d_Row_set_0 : decode b_Row_set 0 = .ok (.iload_n 1, 1) := by decide +kernel
theorem d_Row_set_1 : decode b_Row_set 1 = .ok (.ifCond .lt 18, 3) := by decide +kernel
theorem d_Row_set_4 : decode b_Row_set 4 = .ok (.iload_n 1, 1) := by decide +kernel
theorem d_Row_set_5 : decode b_Row_set 5 = .ok (.aload_n 0, 1) := by decide +kernel
theorem d_Row_set_6 : decode b_Row_set 6 = .ok (.getfield 15, 3) := by decide +kernel
theorem d_Row_set_9 : decode b_Row_set 9 = .ok (.if_icmp .ge 10, 3) := by decide +kernel
theorem d_Row_set_12 : decode b_Row_set 12 = .ok (.aload_n 0, 1) := by decide +kernel
theorem d_Row_set_13 : decode b_Row_set 13 = .ok (.getfield 9, 3) := by decide +kernel
theorem d_Row_set_16 : decode b_Row_set 16 = .ok (.iload_n 1, 1) := by decide +kernel
theorem d_Row_set_17 : decode b_Row_set 17 = .ok (.iload_n 2, 1) := by decide +kernel
theorem d_Row_set_18 : decode b_Row_set 18 = .ok (.iastore, 1) := by decide +kernel
theorem d_Row_set_19 : decode b_Row_set 19 = .ok (.return_, 1) := by decide +kernel
theorem d_Row_empty_0 : decode b_Row_empty 0 = .ok (.aload_n 0, 1) := by decide +kernel
theorem d_Row_empty_1 : decode b_Row_empty 1 = .ok (.iconst 0, 1) := by decide +kernel
theorem d_Row_empty_2 : decode b_Row_empty 2 = .ok (.putfield 15, 3) := by decide +kernel
theorem d_Row_empty_5 : decode b_Row_empty 5 = .ok (.return_, 1) := by decide +kernel
theorem d_Row_add_0 : decode b_Row_add 0 = .ok (.aload_n 0, 1) := by decide +kernel
theorem d_Row_add_1 : decode b_Row_add 1 = .ok (.getfield 15, 3) := by decide +kernel
theorem d_Row_add_4 : decode b_Row_add 4 = .ok (.aload_n 0, 1) := by decide +kernel
theorem d_Row_add_5 : decode b_Row_add 5 = .ok (.getfield 9, 3) := by decide +kernel
theorem d_Row_add_8 : decode b_Row_add 8 = .ok (.arraylength, 1) := by decide +kernel
theorem d_Row_add_9 : decode b_Row_add 9 = .ok (.if_icmp .lt 5, 3) := by decide +kernel
theorem d_Row_add_12 : decode b_Row_add 12 = .ok (.iconst 0, 1) := by decide +kernel
theorem d_Row_add_13 : decode b_Row_add 13 = .ok (.ireturn, 1) := by decide +kernel
theorem d_Row_add_14 : decode b_Row_add 14 = .ok (.aload_n 0, 1) := by decide +kernel
theorem d_Row_add_15 : decode b_Row_add 15 = .ok (.getfield 9, 3) := by decide +kernel
theorem d_Row_add_18 : decode b_Row_add 18 = .ok (.aload_n 0, 1) := by decide +kernel
theorem d_Row_add_19 : decode b_Row_add 19 = .ok (.getfield 15, 3) := by decide +kernel
theorem d_Row_add_22 : decode b_Row_add 22 = .ok (.iload_n 1, 1) := by decide +kernel
theorem d_Row_add_23 : decode b_Row_add 23 = .ok (.iastore, 1) := by decide +kernel
theorem d_Row_add_24 : decode b_Row_add 24 = .ok (.aload_n 0, 1) := by decide +kernel
theorem d_Row_add_25 : decode b_Row_add 25 = .ok (.dup, 1) := by decide +kernel
theorem d_Row_add_26 : decode b_Row_add 26 = .ok (.getfield 15, 3) := by decide +kernel
theorem d_Row_add_29 : decode b_Row_add 29 = .ok (.iconst 1, 1) := by decide +kernel
theorem d_Row_add_30 : decode b_Row_add 30 = .ok (.iadd, 1) := by decide +kernel
theorem d_Row_add_31 : decode b_Row_add 31 = .ok (.putfield 15, 3) := by decide +kernel
theorem d_Row_add_34 : decode b_Row_add 34 = .ok (.iconst 1, 1) := by decide +kernel
theorem d_Row_add_35 : decode b_Row_add 35 = .ok (.ireturn, 1) := by decide +kernel
theorem d_Row_insert_0 : decode b_Row_insert 0 = .ok (.aload_n 0, 1) := by decide +kernel
theorem d_Row_insert_1 : decode b_Row_insert 1 = .ok (.getfield 15, 3) := by decide +kernel
theorem d_Row_insert_4 : decode b_Row_insert 4 = .ok (.aload_n 0, 1) := by decide +kernel
theorem d_Row_insert_5 : decode b_Row_insert 5 = .ok (.getfield 9, 3) := by decide +kernel
theorem d_Row_insert_8 : decode b_Row_insert 8 = .ok (.arraylength, 1) := by decide +kernel
theorem d_Row_insert_9 : decode b_Row_insert 9 = .ok (.if_icmp .ge 15, 3) := by decide +kernel
theorem d_Row_insert_12 : decode b_Row_insert 12 = .ok (.iload_n 1, 1) := by decide +kernel
theorem d_Row_insert_13 : decode b_Row_insert 13 = .ok (.ifCond .lt 11, 3) := by decide +kernel
theorem d_Row_insert_16 : decode b_Row_insert 16 = .ok (.iload_n 1, 1) := by decide +kernel
theorem d_Row_insert_17 : decode b_Row_insert 17 = .ok (.aload_n 0, 1) := by decide +kernel
theorem d_Row_insert_18 : decode b_Row_insert 18 = .ok (.getfield 15, 3) := by decide +kernel
theorem d_Row_insert_21 : decode b_Row_insert 21 = .ok (.if_icmp .le 5, 3) := by decide +kernel
theorem d_Row_insert_24 : decode b_Row_insert 24 = .ok (.iconst 0, 1) := by decide +kernel
theorem d_Row_insert_25 : decode b_Row_insert 25 = .ok (.ireturn, 1) := by decide +kernel
theorem d_Row_insert_26 : decode b_Row_insert 26 = .ok (.aload_n 0, 1) := by decide +kernel
theorem d_Row_insert_27 : decode b_Row_insert 27 = .ok (.getfield 15, 3) := by decide +kernel
theorem d_Row_insert_30 : decode b_Row_insert 30 = .ok (.istore_n 3, 1) := by decide +kernel
theorem d_Row_insert_31 : decode b_Row_insert 31 = .ok (.iload_n 3, 1) := by decide +kernel
theorem d_Row_insert_32 : decode b_Row_insert 32 = .ok (.iload_n 1, 1) := by decide +kernel
theorem d_Row_insert_33 : decode b_Row_insert 33 = .ok (.if_icmp .le 23, 3) := by decide +kernel
theorem d_Row_insert_36 : decode b_Row_insert 36 = .ok (.aload_n 0, 1) := by decide +kernel
theorem d_Row_insert_37 : decode b_Row_insert 37 = .ok (.getfield 9, 3) := by decide +kernel
theorem d_Row_insert_40 : decode b_Row_insert 40 = .ok (.iload_n 3, 1) := by decide +kernel
theorem d_Row_insert_41 : decode b_Row_insert 41 = .ok (.aload_n 0, 1) := by decide +kernel
theorem d_Row_insert_42 : decode b_Row_insert 42 = .ok (.getfield 9, 3) := by decide +kernel
theorem d_Row_insert_45 : decode b_Row_insert 45 = .ok (.iload_n 3, 1) := by decide +kernel
theorem d_Row_insert_46 : decode b_Row_insert 46 = .ok (.iconst 1, 1) := by decide +kernel
theorem d_Row_insert_47 : decode b_Row_insert 47 = .ok (.isub, 1) := by decide +kernel
theorem d_Row_insert_48 : decode b_Row_insert 48 = .ok (.iaload, 1) := by decide +kernel
theorem d_Row_insert_49 : decode b_Row_insert 49 = .ok (.iastore, 1) := by decide +kernel
theorem d_Row_insert_50 : decode b_Row_insert 50 = .ok (.iinc 3 ( -1), 3) := by decide +kernel
theorem d_Row_insert_53 : decode b_Row_insert 53 = .ok (.goto (-22), 3) := by decide +kernel
theorem d_Row_insert_56 : decode b_Row_insert 56 = .ok (.aload_n 0, 1) := by decide +kernel
theorem d_Row_insert_57 : decode b_Row_insert 57 = .ok (.getfield 9, 3) := by decide +kernel
theorem d_Row_insert_60 : decode b_Row_insert 60 = .ok (.iload_n 1, 1) := by decide +kernel
theorem d_Row_insert_61 : decode b_Row_insert 61 = .ok (.iload_n 2, 1) := by decide +kernel
theorem d_Row_insert_62 : decode b_Row_insert 62 = .ok (.iastore, 1) := by decide +kernel
theorem d_Row_insert_63 : decode b_Row_insert 63 = .ok (.aload_n 0, 1) := by decide +kernel
theorem d_Row_insert_64 : decode b_Row_insert 64 = .ok (.dup, 1) := by decide +kernel
theorem d_Row_insert_65 : decode b_Row_insert 65 = .ok (.getfield 15, 3) := by decide +kernel
theorem d_Row_insert_68 : decode b_Row_insert 68 = .ok (.iconst 1, 1) := by decide +kernel
theorem d_Row_insert_69 : decode b_Row_insert 69 = .ok (.iadd, 1) := by decide +kernel
theorem d_Row_insert_70 : decode b_Row_insert 70 = .ok (.putfield 15, 3) := by decide +kernel
theorem d_Row_insert_73 : decode b_Row_insert 73 = .ok (.iconst 1, 1) := by decide +kernel
theorem d_Row_insert_74 : decode b_Row_insert 74 = .ok (.ireturn, 1) := by decide +kernel
theorem d_Row_addPart_0 : decode b_Row_addPart 0 = .ok (.iload_n 2, 1) := by decide +kernel
theorem d_Row_addPart_1 : decode b_Row_addPart 1 = .ok (.istore 4, 2) := by decide +kernel
theorem d_Row_addPart_3 : decode b_Row_addPart 3 = .ok (.iload 4, 2) := by decide +kernel
theorem d_Row_addPart_5 : decode b_Row_addPart 5 = .ok (.iload_n 3, 1) := by decide +kernel
theorem d_Row_addPart_6 : decode b_Row_addPart 6 = .ok (.if_icmp .ge 20, 3) := by decide +kernel
theorem d_Row_addPart_9 : decode b_Row_addPart 9 = .ok (.aload_n 0, 1) := by decide +kernel
theorem d_Row_addPart_10 : decode b_Row_addPart 10 = .ok (.aload_n 1, 1) := by decide +kernel
theorem d_Row_addPart_11 : decode b_Row_addPart 11 = .ok (.iload 4, 2) := by decide +kernel
theorem d_Row_addPart_13 : decode b_Row_addPart 13 = .ok (.invokevirtual 19, 3) := by decide +kernel
theorem d_Row_addPart_16 : decode b_Row_addPart 16 = .ok (.invokevirtual 23, 3) := by decide +kernel
theorem d_Row_addPart_19 : decode b_Row_addPart 19 = .ok (.pop, 1) := by decide +kernel
theorem d_Row_addPart_20 : decode b_Row_addPart 20 = .ok (.iinc 4 1, 3) := by decide +kernel
theorem d_Row_addPart_23 : decode b_Row_addPart 23 = .ok (.goto (-20), 3) := by decide +kernel
theorem d_Row_addPart_26 : decode b_Row_addPart 26 = .ok (.return_, 1) := by decide +kernel
theorem d_Row_hasAbove_0 : decode b_Row_hasAbove 0 = .ok (.iconst 0, 1) := by decide +kernel
theorem d_Row_hasAbove_1 : decode b_Row_hasAbove 1 = .ok (.istore_n 2, 1) := by decide +kernel
theorem d_Row_hasAbove_2 : decode b_Row_hasAbove 2 = .ok (.iload_n 2, 1) := by decide +kernel
theorem d_Row_hasAbove_3 : decode b_Row_hasAbove 3 = .ok (.aload_n 0, 1) := by decide +kernel
theorem d_Row_hasAbove_4 : decode b_Row_hasAbove 4 = .ok (.getfield 15, 3) := by decide +kernel
theorem d_Row_hasAbove_7 : decode b_Row_hasAbove 7 = .ok (.if_icmp .ge 21, 3) := by decide +kernel
theorem d_Row_hasAbove_10 : decode b_Row_hasAbove 10 = .ok (.aload_n 0, 1) := by decide +kernel
theorem d_Row_hasAbove_11 : decode b_Row_hasAbove 11 = .ok (.getfield 9, 3) := by decide +kernel
theorem d_Row_hasAbove_14 : decode b_Row_hasAbove 14 = .ok (.iload_n 2, 1) := by decide +kernel
theorem d_Row_hasAbove_15 : decode b_Row_hasAbove 15 = .ok (.iaload, 1) := by decide +kernel
theorem d_Row_hasAbove_16 : decode b_Row_hasAbove 16 = .ok (.iload_n 1, 1) := by decide +kernel
theorem d_Row_hasAbove_17 : decode b_Row_hasAbove 17 = .ok (.if_icmp .le 5, 3) := by decide +kernel
theorem d_Row_hasAbove_20 : decode b_Row_hasAbove 20 = .ok (.iconst 1, 1) := by decide +kernel
theorem d_Row_hasAbove_21 : decode b_Row_hasAbove 21 = .ok (.ireturn, 1) := by decide +kernel
theorem d_Row_hasAbove_22 : decode b_Row_hasAbove 22 = .ok (.iinc 2 1, 3) := by decide +kernel
theorem d_Row_hasAbove_25 : decode b_Row_hasAbove 25 = .ok (.goto (-23), 3) := by decide +kernel
theorem d_Row_hasAbove_28 : decode b_Row_hasAbove 28 = .ok (.iconst 0, 1) := by decide +kernel
theorem d_Row_hasAbove_29 : decode b_Row_hasAbove 29 = .ok (.ireturn, 1) := by decide +kernel
theorem d_Row_isSameAs_0 : decode b_Row_isSameAs 0 = .ok (.aload_n 0, 1) := by decide +kernel
theorem d_Row_isSameAs_1 : decode b_Row_isSameAs 1 = .ok (.getfield 15, 3) := by decide +kernel
theorem d_Row_isSameAs_4 : decode b_Row_isSameAs 4 = .ok (.aload_n 1, 1) := by decide +kernel
theorem d_Row_isSameAs_5 : decode b_Row_isSameAs 5 = .ok (.invokevirtual 27, 3) := by decide +kernel
theorem d_Row_isSameAs_8 : decode b_Row_isSameAs 8 = .ok (.if_icmp .eq 5, 3) := by decide +kernel
theorem d_Row_isSameAs_11 : decode b_Row_isSameAs 11 = .ok (.iconst 0, 1) := by decide +kernel
theorem d_Row_isSameAs_12 : decode b_Row_isSameAs 12 = .ok (.ireturn, 1) := by decide +kernel
theorem d_Row_isSameAs_13 : decode b_Row_isSameAs 13 = .ok (.iconst 0, 1) := by decide +kernel
theorem d_Row_isSameAs_14 : decode b_Row_isSameAs 14 = .ok (.istore_n 2, 1) := by decide +kernel
theorem d_Row_isSameAs_15 : decode b_Row_isSameAs 15 = .ok (.iload_n 2, 1) := by decide +kernel
theorem d_Row_isSameAs_16 : decode b_Row_isSameAs 16 = .ok (.aload_n 0, 1) := by decide +kernel
theorem d_Row_isSameAs_17 : decode b_Row_isSameAs 17 = .ok (.getfield 15, 3) := by decide +kernel
theorem d_Row_isSameAs_20 : decode b_Row_isSameAs 20 = .ok (.if_icmp .ge 25, 3) := by decide +kernel
theorem d_Row_isSameAs_23 : decode b_Row_isSameAs 23 = .ok (.aload_n 0, 1) := by decide +kernel
theorem d_Row_isSameAs_24 : decode b_Row_isSameAs 24 = .ok (.getfield 9, 3) := by decide +kernel
theorem d_Row_isSameAs_27 : decode b_Row_isSameAs 27 = .ok (.iload_n 2, 1) := by decide +kernel
theorem d_Row_isSameAs_28 : decode b_Row_isSameAs 28 = .ok (.iaload, 1) := by decide +kernel
theorem d_Row_isSameAs_29 : decode b_Row_isSameAs 29 = .ok (.aload_n 1, 1) := by decide +kernel
theorem d_Row_isSameAs_30 : decode b_Row_isSameAs 30 = .ok (.iload_n 2, 1) := by decide +kernel
theorem d_Row_isSameAs_31 : decode b_Row_isSameAs 31 = .ok (.invokevirtual 19, 3) := by decide +kernel
theorem d_Row_isSameAs_34 : decode b_Row_isSameAs 34 = .ok (.if_icmp .eq 5, 3) := by decide +kernel
theorem d_Row_isSameAs_37 : decode b_Row_isSameAs 37 = .ok (.iconst 0, 1) := by decide +kernel
theorem d_Row_isSameAs_38 : decode b_Row_isSameAs 38 = .ok (.ireturn, 1) := by decide +kernel
theorem d_Row_isSameAs_39 : decode b_Row_isSameAs 39 = .ok (.iinc 2 1, 3) := by decide +kernel
theorem d_Row_isSameAs_42 : decode b_Row_isSameAs 42 = .ok (.goto (-27), 3) := by decide +kernel
theorem d_Row_isSameAs_45 : decode b_Row_isSameAs 45 = .ok (.iconst 1, 1) := by decide +kernel
theorem d_Row_isSameAs_46 : decode b_Row_isSameAs 46 = .ok (.ireturn, 1) := by decide +kernel
theorem d_Math_max_0 : decode b_Math_max 0 = .ok (.iload_n 0, 1) := by decide +kernel
theorem d_Math_max_1 : decode b_Math_max 1 = .ok (.iload_n 1, 1) := by decide +kernel
theorem d_Math_max_2 : decode b_Math_max 2 = .ok (.if_icmp .lt 7, 3) := by decide +kernel
theorem d_Math_max_5 : decode b_Math_max 5 = .ok (.iload_n 0, 1) := by decide +kernel
theorem d_Math_max_6 : decode b_Math_max 6 = .ok (.goto 4, 3) := by decide +kernel
theorem d_Math_max_9 : decode b_Math_max 9 = .ok (.iload_n 1, 1) := by decide +kernel
theorem d_Math_max_10 : decode b_Math_max 10 = .ok (.ireturn, 1) := by decide +kernel
theorem d_Math_min_0 : decode b_Math_min 0 = .ok (.iload_n 0, 1) := by decide +kernel
theorem d_Math_min_1 : decode b_Math_min 1 = .ok (.iload_n 1, 1) := by decide +kernel
theorem d_Math_min_2 : decode b_Math_min 2 = .ok (.if_icmp .gt 7, 3) := by decide +kernel
theorem d_Math_min_5 : decode b_Math_min 5 = .ok (.iload_n 0, 1) := by decide +kernel
theorem d_Math_min_6 : decode b_Math_min 6 = .ok (.goto 4, 3) := by decide +kernel
theorem d_Math_min_9 : decode b_Math_min 9 = .ok (.iload_n 1, 1) := by decide +kernel
theorem d_Math_min_10 : decode b_Math_min 10 = .ok (.ireturn, 1) := by decide +kernel
