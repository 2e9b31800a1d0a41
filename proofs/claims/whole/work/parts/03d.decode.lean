theorem d_Host_init_0 : decode b_Host_init 0 = .ok (.aload_n 0, 1) := by decide +kernel
theorem d_Host_init_1 : decode b_Host_init 1 = .ok (.invokespecial 3, 3) := by decide +kernel
theorem d_Host_init_4 : decode b_Host_init 4 = .ok (.aload_n 0, 1) := by decide +kernel
theorem d_Host_init_5 : decode b_Host_init 5 = .ok (.new 9, 3) := by decide +kernel
theorem d_Host_init_8 : decode b_Host_init 8 = .ok (.dup, 1) := by decide +kernel
theorem d_Host_init_9 : decode b_Host_init 9 = .ok (.bipush 48, 2) := by decide +kernel
theorem d_Host_init_11 : decode b_Host_init 11 = .ok (.invokespecial 11, 3) := by decide +kernel
theorem d_Host_init_14 : decode b_Host_init 14 = .ok (.putfield 14, 3) := by decide +kernel
theorem d_Host_init_17 : decode b_Host_init 17 = .ok (.aload_n 0, 1) := by decide +kernel
theorem d_Host_init_18 : decode b_Host_init 18 = .ok (.new 9, 3) := by decide +kernel
theorem d_Host_init_21 : decode b_Host_init 21 = .ok (.dup, 1) := by decide +kernel
theorem d_Host_init_22 : decode b_Host_init 22 = .ok (.sipush 512, 3) := by decide +kernel
theorem d_Host_init_25 : decode b_Host_init 25 = .ok (.invokespecial 11, 3) := by decide +kernel
theorem d_Host_init_28 : decode b_Host_init 28 = .ok (.putfield 18, 3) := by decide +kernel
theorem d_Host_init_31 : decode b_Host_init 31 = .ok (.aload_n 0, 1) := by decide +kernel
theorem d_Host_init_32 : decode b_Host_init 32 = .ok (.new 9, 3) := by decide +kernel
theorem d_Host_init_35 : decode b_Host_init 35 = .ok (.dup, 1) := by decide +kernel
theorem d_Host_init_36 : decode b_Host_init 36 = .ok (.bipush 96, 2) := by decide +kernel
theorem d_Host_init_38 : decode b_Host_init 38 = .ok (.invokespecial 11, 3) := by decide +kernel
theorem d_Host_init_41 : decode b_Host_init 41 = .ok (.putfield 21, 3) := by decide +kernel
theorem d_Host_init_44 : decode b_Host_init 44 = .ok (.aload_n 0, 1) := by decide +kernel
theorem d_Host_init_45 : decode b_Host_init 45 = .ok (.new 9, 3) := by decide +kernel
theorem d_Host_init_48 : decode b_Host_init 48 = .ok (.dup, 1) := by decide +kernel
theorem d_Host_init_49 : decode b_Host_init 49 = .ok (.bipush 96, 2) := by decide +kernel
theorem d_Host_init_51 : decode b_Host_init 51 = .ok (.invokespecial 11, 3) := by decide +kernel
theorem d_Host_init_54 : decode b_Host_init 54 = .ok (.putfield 24, 3) := by decide +kernel
theorem d_Host_init_57 : decode b_Host_init 57 = .ok (.aload_n 0, 1) := by decide +kernel
theorem d_Host_init_58 : decode b_Host_init 58 = .ok (.new 9, 3) := by decide +kernel
theorem d_Host_init_61 : decode b_Host_init 61 = .ok (.dup, 1) := by decide +kernel
theorem d_Host_init_62 : decode b_Host_init 62 = .ok (.bipush 96, 2) := by decide +kernel
theorem d_Host_init_64 : decode b_Host_init 64 = .ok (.invokespecial 11, 3) := by decide +kernel
theorem d_Host_init_67 : decode b_Host_init 67 = .ok (.putfield 27, 3) := by decide +kernel
theorem d_Host_init_70 : decode b_Host_init 70 = .ok (.aload_n 0, 1) := by decide +kernel
theorem d_Host_init_71 : decode b_Host_init 71 = .ok (.new 9, 3) := by decide +kernel
theorem d_Host_init_74 : decode b_Host_init 74 = .ok (.dup, 1) := by decide +kernel
theorem d_Host_init_75 : decode b_Host_init 75 = .ok (.bipush 48, 2) := by decide +kernel
theorem d_Host_init_77 : decode b_Host_init 77 = .ok (.invokespecial 11, 3) := by decide +kernel
theorem d_Host_init_80 : decode b_Host_init 80 = .ok (.putfield 30, 3) := by decide +kernel
theorem d_Host_init_83 : decode b_Host_init 83 = .ok (.aload_n 0, 1) := by decide +kernel
theorem d_Host_init_84 : decode b_Host_init 84 = .ok (.new 33, 3) := by decide +kernel
theorem d_Host_init_87 : decode b_Host_init 87 = .ok (.dup, 1) := by decide +kernel
theorem d_Host_init_88 : decode b_Host_init 88 = .ok (.invokespecial 35, 3) := by decide +kernel
theorem d_Host_init_91 : decode b_Host_init 91 = .ok (.putfield 36, 3) := by decide +kernel
theorem d_Host_init_94 : decode b_Host_init 94 = .ok (.aload_n 0, 1) := by decide +kernel
theorem d_Host_init_95 : decode b_Host_init 95 = .ok (.new 40, 3) := by decide +kernel
theorem d_Host_init_98 : decode b_Host_init 98 = .ok (.dup, 1) := by decide +kernel
theorem d_Host_init_99 : decode b_Host_init 99 = .ok (.invokespecial 42, 3) := by decide +kernel
theorem d_Host_init_102 : decode b_Host_init 102 = .ok (.putfield 43, 3) := by decide +kernel
theorem d_Host_init_105 : decode b_Host_init 105 = .ok (.aload_n 0, 1) := by decide +kernel
theorem d_Host_init_106 : decode b_Host_init 106 = .ok (.new 47, 3) := by decide +kernel
theorem d_Host_init_109 : decode b_Host_init 109 = .ok (.dup, 1) := by decide +kernel
theorem d_Host_init_110 : decode b_Host_init 110 = .ok (.invokespecial 49, 3) := by decide +kernel
theorem d_Host_init_113 : decode b_Host_init 113 = .ok (.putfield 50, 3) := by decide +kernel
theorem d_Host_init_116 : decode b_Host_init 116 = .ok (.aload_n 0, 1) := by decide +kernel
theorem d_Host_init_117 : decode b_Host_init 117 = .ok (.new 54, 3) := by decide +kernel
theorem d_Host_init_120 : decode b_Host_init 120 = .ok (.dup, 1) := by decide +kernel
theorem d_Host_init_121 : decode b_Host_init 121 = .ok (.invokespecial 56, 3) := by decide +kernel
theorem d_Host_init_124 : decode b_Host_init 124 = .ok (.putfield 57, 3) := by decide +kernel
theorem d_Host_init_127 : decode b_Host_init 127 = .ok (.return_, 1) := by decide +kernel
theorem d_Host_put_0 : decode b_Host_put 0 = .ok (.iload_n 1, 1) := by decide +kernel
theorem d_Host_put_1 : decode b_Host_put 1 = .ok (.ldc 61, 2) := by decide +kernel
theorem d_Host_put_3 : decode b_Host_put 3 = .ok (.ldc 62, 2) := by decide +kernel
theorem d_Host_put_5 : decode b_Host_put 5 = .ok (.invokestatic 63, 3) := by decide +kernel
theorem d_Host_put_8 : decode b_Host_put 8 = .ok (.istore_n 2, 1) := by decide +kernel
theorem d_Host_put_9 : decode b_Host_put 9 = .ok (.iload_n 1, 1) := by decide +kernel
theorem d_Host_put_10 : decode b_Host_put 10 = .ok (.iconst 0, 1) := by decide +kernel
theorem d_Host_put_11 : decode b_Host_put 11 = .ok (.ldc 69, 2) := by decide +kernel
theorem d_Host_put_13 : decode b_Host_put 13 = .ok (.invokestatic 63, 3) := by decide +kernel
theorem d_Host_put_16 : decode b_Host_put 16 = .ok (.ifCond .eq 7, 3) := by decide +kernel
theorem d_Host_put_19 : decode b_Host_put 19 = .ok (.iload_n 2, 1) := by decide +kernel
theorem d_Host_put_20 : decode b_Host_put 20 = .ok (.ifCond .eq 5, 3) := by decide +kernel
theorem d_Host_put_23 : decode b_Host_put 23 = .ok (.iconst 0, 1) := by decide +kernel
theorem d_Host_put_24 : decode b_Host_put 24 = .ok (.ireturn, 1) := by decide +kernel
theorem d_Host_put_25 : decode b_Host_put 25 = .ok (.aload_n 0, 1) := by decide +kernel
theorem d_Host_put_26 : decode b_Host_put 26 = .ok (.getfield 14, 3) := by decide +kernel
theorem d_Host_put_29 : decode b_Host_put 29 = .ok (.iload_n 1, 1) := by decide +kernel
theorem d_Host_put_30 : decode b_Host_put 30 = .ok (.invokevirtual 70, 3) := by decide +kernel
theorem d_Host_put_33 : decode b_Host_put 33 = .ok (.ireturn, 1) := by decide +kernel
theorem d_Host_type_0 : decode b_Host_type 0 = .ok (.iload_n 3, 1) := by decide +kernel
theorem d_Host_type_1 : decode b_Host_type 1 = .ok (.iconst 1, 1) := by decide +kernel
theorem d_Host_type_2 : decode b_Host_type 2 = .ok (.if_icmp .lt 23, 3) := by decide +kernel
theorem d_Host_type_5 : decode b_Host_type 5 = .ok (.iload_n 3, 1) := by decide +kernel
theorem d_Host_type_6 : decode b_Host_type 6 = .ok (.bipush 8, 2) := by decide +kernel
theorem d_Host_type_8 : decode b_Host_type 8 = .ok (.if_icmp .gt 17, 3) := by decide +kernel
theorem d_Host_type_11 : decode b_Host_type 11 = .ok (.aload_n 0, 1) := by decide +kernel
theorem d_Host_type_12 : decode b_Host_type 12 = .ok (.getfield 14, 3) := by decide +kernel
theorem d_Host_type_15 : decode b_Host_type 15 = .ok (.invokevirtual 74, 3) := by decide +kernel
theorem d_Host_type_18 : decode b_Host_type 18 = .ok (.iload_n 3, 1) := by decide +kernel
theorem d_Host_type_19 : decode b_Host_type 19 = .ok (.iadd, 1) := by decide +kernel
theorem d_Host_type_20 : decode b_Host_type 20 = .ok (.bipush 48, 2) := by decide +kernel
theorem d_Host_type_22 : decode b_Host_type 22 = .ok (.if_icmp .le 5, 3) := by decide +kernel
theorem d_Host_type_25 : decode b_Host_type 25 = .ok (.iconst 0, 1) := by decide +kernel
theorem d_Host_type_26 : decode b_Host_type 26 = .ok (.ireturn, 1) := by decide +kernel
theorem d_Host_type_27 : decode b_Host_type 27 = .ok (.iload_n 3, 1) := by decide +kernel
theorem d_Host_type_28 : decode b_Host_type 28 = .ok (.iconst 1, 1) := by decide +kernel
theorem d_Host_type_29 : decode b_Host_type 29 = .ok (.isub, 1) := by decide +kernel
theorem d_Host_type_30 : decode b_Host_type 30 = .ok (.istore 4, 2) := by decide +kernel
theorem d_Host_type_32 : decode b_Host_type 32 = .ok (.iload 4, 2) := by decide +kernel
theorem d_Host_type_34 : decode b_Host_type 34 = .ok (.ifCond .lt 29, 3) := by decide +kernel
theorem d_Host_type_37 : decode b_Host_type 37 = .ok (.aload_n 0, 1) := by decide +kernel
theorem d_Host_type_38 : decode b_Host_type 38 = .ok (.getfield 14, 3) := by decide +kernel
theorem d_Host_type_41 : decode b_Host_type 41 = .ok (.lload_n 1, 1) := by decide +kernel
theorem d_Host_type_42 : decode b_Host_type 42 = .ok (.bipush 8, 2) := by decide +kernel
theorem d_Host_type_44 : decode b_Host_type 44 = .ok (.iload 4, 2) := by decide +kernel
theorem d_Host_type_46 : decode b_Host_type 46 = .ok (.imul, 1) := by decide +kernel
theorem d_Host_type_47 : decode b_Host_type 47 = .ok (.lushr, 1) := by decide +kernel
theorem d_Host_type_48 : decode b_Host_type 48 = .ok (.l2i, 1) := by decide +kernel
theorem d_Host_type_49 : decode b_Host_type 49 = .ok (.sipush 255, 3) := by decide +kernel
theorem d_Host_type_52 : decode b_Host_type 52 = .ok (.iand, 1) := by decide +kernel
theorem d_Host_type_53 : decode b_Host_type 53 = .ok (.invokevirtual 70, 3) := by decide +kernel
theorem d_Host_type_56 : decode b_Host_type 56 = .ok (.pop, 1) := by decide +kernel
theorem d_Host_type_57 : decode b_Host_type 57 = .ok (.iinc 4 ( -1), 3) := by decide +kernel
theorem d_Host_type_60 : decode b_Host_type 60 = .ok (.goto (-28), 3) := by decide +kernel
theorem d_Host_type_63 : decode b_Host_type 63 = .ok (.iconst 1, 1) := by decide +kernel
theorem d_Host_type_64 : decode b_Host_type 64 = .ok (.ireturn, 1) := by decide +kernel
theorem d_Host_clear_0 : decode b_Host_clear 0 = .ok (.aload_n 0, 1) := by decide +kernel
theorem d_Host_clear_1 : decode b_Host_clear 1 = .ok (.getfield 14, 3) := by decide +kernel
theorem d_Host_clear_4 : decode b_Host_clear 4 = .ok (.invokevirtual 74, 3) := by decide +kernel
theorem d_Host_clear_7 : decode b_Host_clear 7 = .ok (.istore_n 1, 1) := by decide +kernel
theorem d_Host_clear_8 : decode b_Host_clear 8 = .ok (.aload_n 0, 1) := by decide +kernel
theorem d_Host_clear_9 : decode b_Host_clear 9 = .ok (.getfield 14, 3) := by decide +kernel
theorem d_Host_clear_12 : decode b_Host_clear 12 = .ok (.invokevirtual 78, 3) := by decide +kernel
theorem d_Host_clear_15 : decode b_Host_clear 15 = .ok (.iload_n 1, 1) := by decide +kernel
theorem d_Host_clear_16 : decode b_Host_clear 16 = .ok (.ireturn, 1) := by decide +kernel
theorem d_Host_process_0 : decode b_Host_process 0 = .ok (.iload_n 1, 1) := by decide +kernel
theorem d_Host_process_1 : decode b_Host_process 1 = .ok (.ifCond .lt 9, 3) := by decide +kernel
theorem d_Host_process_4 : decode b_Host_process 4 = .ok (.iload_n 1, 1) := by decide +kernel
theorem d_Host_process_5 : decode b_Host_process 5 = .ok (.bipush 63, 2) := by decide +kernel
theorem d_Host_process_7 : decode b_Host_process 7 = .ok (.if_icmp .le 5, 3) := by decide +kernel
theorem d_Host_process_10 : decode b_Host_process 10 = .ok (.iconst (-1), 1) := by decide +kernel
theorem d_Host_process_11 : decode b_Host_process 11 = .ok (.ireturn, 1) := by decide +kernel
theorem d_Host_process_12 : decode b_Host_process 12 = .ok (.aload_n 0, 1) := by decide +kernel
theorem d_Host_process_13 : decode b_Host_process 13 = .ok (.iload_n 1, 1) := by decide +kernel
theorem d_Host_process_14 : decode b_Host_process 14 = .ok (.invokevirtual 81, 3) := by decide +kernel
theorem d_Host_process_17 : decode b_Host_process 17 = .ok (.istore_n 3, 1) := by decide +kernel
theorem d_Host_process_18 : decode b_Host_process 18 = .ok (.aload_n 0, 1) := by decide +kernel
theorem d_Host_process_19 : decode b_Host_process 19 = .ok (.getfield 43, 3) := by decide +kernel
theorem d_Host_process_22 : decode b_Host_process 22 = .ok (.aload_n 0, 1) := by decide +kernel
theorem d_Host_process_23 : decode b_Host_process 23 = .ok (.getfield 21, 3) := by decide +kernel
theorem d_Host_process_26 : decode b_Host_process 26 = .ok (.aload_n 0, 1) := by decide +kernel
theorem d_Host_process_27 : decode b_Host_process 27 = .ok (.getfield 24, 3) := by decide +kernel
theorem d_Host_process_30 : decode b_Host_process 30 = .ok (.invokevirtual 85, 3) := by decide +kernel
theorem d_Host_process_33 : decode b_Host_process 33 = .ok (.aload_n 0, 1) := by decide +kernel
theorem d_Host_process_34 : decode b_Host_process 34 = .ok (.invokevirtual 89, 3) := by decide +kernel
theorem d_Host_process_37 : decode b_Host_process 37 = .ok (.aload_n 0, 1) := by decide +kernel
theorem d_Host_process_38 : decode b_Host_process 38 = .ok (.iload_n 1, 1) := by decide +kernel
theorem d_Host_process_39 : decode b_Host_process 39 = .ok (.invokevirtual 92, 3) := by decide +kernel
theorem d_Host_process_42 : decode b_Host_process 42 = .ok (.iload_n 3, 1) := by decide +kernel
theorem d_Host_process_43 : decode b_Host_process 43 = .ok (.aload_n 0, 1) := by decide +kernel
theorem d_Host_process_44 : decode b_Host_process 44 = .ok (.iload_n 2, 1) := by decide +kernel
theorem d_Host_process_45 : decode b_Host_process 45 = .ok (.iload_n 2, 1) := by decide +kernel
theorem d_Host_process_46 : decode b_Host_process 46 = .ok (.ifCond .eq 14, 3) := by decide +kernel
theorem d_Host_process_49 : decode b_Host_process 49 = .ok (.iload_n 1, 1) := by decide +kernel
theorem d_Host_process_50 : decode b_Host_process 50 = .ok (.bipush 32, 2) := by decide +kernel
theorem d_Host_process_52 : decode b_Host_process 52 = .ok (.iand, 1) := by decide +kernel
theorem d_Host_process_53 : decode b_Host_process 53 = .ok (.ifCond .eq 7, 3) := by decide +kernel
theorem d_Host_process_56 : decode b_Host_process 56 = .ok (.iconst 1, 1) := by decide +kernel
theorem d_Host_process_57 : decode b_Host_process 57 = .ok (.goto 4, 3) := by decide +kernel
theorem d_Host_process_60 : decode b_Host_process 60 = .ok (.iconst 0, 1) := by decide +kernel
theorem d_Host_process_61 : decode b_Host_process 61 = .ok (.invokevirtual 95, 3) := by decide +kernel
theorem d_Host_process_64 : decode b_Host_process 64 = .ok (.ior, 1) := by decide +kernel
theorem d_Host_process_65 : decode b_Host_process 65 = .ok (.istore_n 3, 1) := by decide +kernel
theorem d_Host_process_66 : decode b_Host_process 66 = .ok (.iload_n 3, 1) := by decide +kernel
theorem d_Host_process_67 : decode b_Host_process 67 = .ok (.aload_n 0, 1) := by decide +kernel
theorem d_Host_process_68 : decode b_Host_process 68 = .ok (.getfield 36, 3) := by decide +kernel
theorem d_Host_process_71 : decode b_Host_process 71 = .ok (.invokevirtual 99, 3) := by decide +kernel
theorem d_Host_process_74 : decode b_Host_process 74 = .ok (.ior, 1) := by decide +kernel
theorem d_Host_process_75 : decode b_Host_process 75 = .ok (.ireturn, 1) := by decide +kernel
theorem d_Host_length_0 : decode b_Host_length 0 = .ok (.aload_n 0, 1) := by decide +kernel
theorem d_Host_length_1 : decode b_Host_length 1 = .ok (.getfield 18, 3) := by decide +kernel
theorem d_Host_length_4 : decode b_Host_length 4 = .ok (.invokevirtual 74, 3) := by decide +kernel
theorem d_Host_length_7 : decode b_Host_length 7 = .ok (.ireturn, 1) := by decide +kernel
theorem d_Host_at_0 : decode b_Host_at 0 = .ok (.aload_n 0, 1) := by decide +kernel
theorem d_Host_at_1 : decode b_Host_at 1 = .ok (.getfield 18, 3) := by decide +kernel
theorem d_Host_at_4 : decode b_Host_at 4 = .ok (.iload_n 1, 1) := by decide +kernel
theorem d_Host_at_5 : decode b_Host_at 5 = .ok (.invokevirtual 102, 3) := by decide +kernel
theorem d_Host_at_8 : decode b_Host_at 8 = .ok (.ireturn, 1) := by decide +kernel
theorem d_Host_labels_0 : decode b_Host_labels 0 = .ok (.aload_n 0, 1) := by decide +kernel
theorem d_Host_labels_1 : decode b_Host_labels 1 = .ok (.getfield 36, 3) := by decide +kernel
theorem d_Host_labels_4 : decode b_Host_labels 4 = .ok (.invokevirtual 105, 3) := by decide +kernel
theorem d_Host_labels_7 : decode b_Host_labels 7 = .ok (.ireturn, 1) := by decide +kernel
theorem d_Host_broken_0 : decode b_Host_broken 0 = .ok (.aload_n 0, 1) := by decide +kernel
theorem d_Host_broken_1 : decode b_Host_broken 1 = .ok (.getfield 36, 3) := by decide +kernel
theorem d_Host_broken_4 : decode b_Host_broken 4 = .ok (.iload_n 1, 1) := by decide +kernel
theorem d_Host_broken_5 : decode b_Host_broken 5 = .ok (.invokevirtual 108, 3) := by decide +kernel
theorem d_Host_broken_8 : decode b_Host_broken 8 = .ok (.ireturn, 1) := by decide +kernel
theorem d_Host_pack_0 : decode b_Host_pack 0 = .ok (.aload_n 0, 1) := by decide +kernel
theorem d_Host_pack_1 : decode b_Host_pack 1 = .ok (.getfield 18, 3) := by decide +kernel
theorem d_Host_pack_4 : decode b_Host_pack 4 = .ok (.invokevirtual 78, 3) := by decide +kernel
theorem d_Host_pack_7 : decode b_Host_pack 7 = .ok (.aload_n 0, 1) := by decide +kernel
theorem d_Host_pack_8 : decode b_Host_pack 8 = .ok (.getfield 50, 3) := by decide +kernel
theorem d_Host_pack_11 : decode b_Host_pack 11 = .ok (.aload_n 0, 1) := by decide +kernel
theorem d_Host_pack_12 : decode b_Host_pack 12 = .ok (.getfield 14, 3) := by decide +kernel
theorem d_Host_pack_15 : decode b_Host_pack 15 = .ok (.aload_n 0, 1) := by decide +kernel
theorem d_Host_pack_16 : decode b_Host_pack 16 = .ok (.getfield 18, 3) := by decide +kernel
theorem d_Host_pack_19 : decode b_Host_pack 19 = .ok (.invokevirtual 111, 3) := by decide +kernel
theorem d_Host_pack_22 : decode b_Host_pack 22 = .ok (.aload_n 0, 1) := by decide +kernel
theorem d_Host_pack_23 : decode b_Host_pack 23 = .ok (.getfield 18, 3) := by decide +kernel
theorem d_Host_pack_26 : decode b_Host_pack 26 = .ok (.invokevirtual 74, 3) := by decide +kernel
theorem d_Host_pack_29 : decode b_Host_pack 29 = .ok (.ireturn, 1) := by decide +kernel
theorem d_Host_unpack_0 : decode b_Host_unpack 0 = .ok (.aload_n 0, 1) := by decide +kernel
theorem d_Host_unpack_1 : decode b_Host_unpack 1 = .ok (.getfield 50, 3) := by decide +kernel
theorem d_Host_unpack_4 : decode b_Host_unpack 4 = .ok (.aload_n 0, 1) := by decide +kernel
theorem d_Host_unpack_5 : decode b_Host_unpack 5 = .ok (.getfield 14, 3) := by decide +kernel
theorem d_Host_unpack_8 : decode b_Host_unpack 8 = .ok (.iconst 0, 1) := by decide +kernel
theorem d_Host_unpack_9 : decode b_Host_unpack 9 = .ok (.aload_n 0, 1) := by decide +kernel
theorem d_Host_unpack_10 : decode b_Host_unpack 10 = .ok (.getfield 30, 3) := by decide +kernel
theorem d_Host_unpack_13 : decode b_Host_unpack 13 = .ok (.invokevirtual 114, 3) := by decide +kernel
theorem d_Host_unpack_16 : decode b_Host_unpack 16 = .ok (.ifCond .ne 5, 3) := by decide +kernel
theorem d_Host_unpack_19 : decode b_Host_unpack 19 = .ok (.iconst 0, 1) := by decide +kernel
theorem d_Host_unpack_20 : decode b_Host_unpack 20 = .ok (.ireturn, 1) := by decide +kernel
theorem d_Host_unpack_21 : decode b_Host_unpack 21 = .ok (.aload_n 0, 1) := by decide +kernel
theorem d_Host_unpack_22 : decode b_Host_unpack 22 = .ok (.getfield 18, 3) := by decide +kernel
theorem d_Host_unpack_25 : decode b_Host_unpack 25 = .ok (.invokevirtual 78, 3) := by decide +kernel
theorem d_Host_unpack_28 : decode b_Host_unpack 28 = .ok (.aload_n 0, 1) := by decide +kernel
theorem d_Host_unpack_29 : decode b_Host_unpack 29 = .ok (.getfield 18, 3) := by decide +kernel
theorem d_Host_unpack_32 : decode b_Host_unpack 32 = .ok (.aload_n 0, 1) := by decide +kernel
theorem d_Host_unpack_33 : decode b_Host_unpack 33 = .ok (.getfield 30, 3) := by decide +kernel
theorem d_Host_unpack_36 : decode b_Host_unpack 36 = .ok (.iconst 0, 1) := by decide +kernel
theorem d_Host_unpack_37 : decode b_Host_unpack 37 = .ok (.aload_n 0, 1) := by decide +kernel
theorem d_Host_unpack_38 : decode b_Host_unpack 38 = .ok (.getfield 30, 3) := by decide +kernel
theorem d_Host_unpack_41 : decode b_Host_unpack 41 = .ok (.invokevirtual 74, 3) := by decide +kernel
theorem d_Host_unpack_44 : decode b_Host_unpack 44 = .ok (.invokevirtual 118, 3) := by decide +kernel
theorem d_Host_unpack_47 : decode b_Host_unpack 47 = .ok (.iconst 1, 1) := by decide +kernel
theorem d_Host_unpack_48 : decode b_Host_unpack 48 = .ok (.ireturn, 1) := by decide +kernel
theorem d_Host_compose_0 : decode b_Host_compose 0 = .ok (.aload_n 0, 1) := by decide +kernel
theorem d_Host_compose_1 : decode b_Host_compose 1 = .ok (.getfield 43, 3) := by decide +kernel
theorem d_Host_compose_4 : decode b_Host_compose 4 = .ok (.aload_n 0, 1) := by decide +kernel
theorem d_Host_compose_5 : decode b_Host_compose 5 = .ok (.getfield 14, 3) := by decide +kernel
theorem d_Host_compose_8 : decode b_Host_compose 8 = .ok (.aload_n 0, 1) := by decide +kernel
theorem d_Host_compose_9 : decode b_Host_compose 9 = .ok (.getfield 18, 3) := by decide +kernel
theorem d_Host_compose_12 : decode b_Host_compose 12 = .ok (.invokevirtual 85, 3) := by decide +kernel
theorem d_Host_compose_15 : decode b_Host_compose 15 = .ok (.aload_n 0, 1) := by decide +kernel
theorem d_Host_compose_16 : decode b_Host_compose 16 = .ok (.getfield 18, 3) := by decide +kernel
theorem d_Host_compose_19 : decode b_Host_compose 19 = .ok (.invokevirtual 74, 3) := by decide +kernel
theorem d_Host_compose_22 : decode b_Host_compose 22 = .ok (.ireturn, 1) := by decide +kernel
theorem d_Host_bit_0 : decode b_Host_bit 0 = .ok (.iconst 1, 1) := by decide +kernel
theorem d_Host_bit_1 : decode b_Host_bit 1 = .ok (.iload_n 0, 1) := by decide +kernel
theorem d_Host_bit_2 : decode b_Host_bit 2 = .ok (.iconst 1, 1) := by decide +kernel
theorem d_Host_bit_3 : decode b_Host_bit 3 = .ok (.isub, 1) := by decide +kernel
theorem d_Host_bit_4 : decode b_Host_bit 4 = .ok (.ishl, 1) := by decide +kernel
theorem d_Host_bit_5 : decode b_Host_bit 5 = .ok (.ireturn, 1) := by decide +kernel
theorem d_Host_mapText_0 : decode b_Host_mapText 0 = .ok (.iload_n 1, 1) := by decide +kernel
theorem d_Host_mapText_1 : decode b_Host_mapText 1 = .ok (.iconst 1, 1) := by decide +kernel
theorem d_Host_mapText_2 : decode b_Host_mapText 2 = .ok (.iand, 1) := by decide +kernel
theorem d_Host_mapText_3 : decode b_Host_mapText 3 = .ok (.ifCond .eq 7, 3) := by decide +kernel
theorem d_Host_mapText_6 : decode b_Host_mapText 6 = .ok (.iconst 1, 1) := by decide +kernel
theorem d_Host_mapText_7 : decode b_Host_mapText 7 = .ok (.goto 4, 3) := by decide +kernel
theorem d_Host_mapText_10 : decode b_Host_mapText 10 = .ok (.iconst 0, 1) := by decide +kernel
theorem d_Host_mapText_11 : decode b_Host_mapText 11 = .ok (.istore_n 2, 1) := by decide +kernel
theorem d_Host_mapText_12 : decode b_Host_mapText 12 = .ok (.iload_n 1, 1) := by decide +kernel
theorem d_Host_mapText_13 : decode b_Host_mapText 13 = .ok (.iconst 2, 1) := by decide +kernel
theorem d_Host_mapText_14 : decode b_Host_mapText 14 = .ok (.iand, 1) := by decide +kernel
theorem d_Host_mapText_15 : decode b_Host_mapText 15 = .ok (.ifCond .eq 7, 3) := by decide +kernel
theorem d_Host_mapText_18 : decode b_Host_mapText 18 = .ok (.iconst 1, 1) := by decide +kernel
theorem d_Host_mapText_19 : decode b_Host_mapText 19 = .ok (.goto 4, 3) := by decide +kernel
theorem d_Host_mapText_22 : decode b_Host_mapText 22 = .ok (.iconst 0, 1) := by decide +kernel
theorem d_Host_mapText_23 : decode b_Host_mapText 23 = .ok (.istore_n 3, 1) := by decide +kernel
theorem d_Host_mapText_24 : decode b_Host_mapText 24 = .ok (.iconst 0, 1) := by decide +kernel
theorem d_Host_mapText_25 : decode b_Host_mapText 25 = .ok (.istore 4, 2) := by decide +kernel
theorem d_Host_mapText_27 : decode b_Host_mapText 27 = .ok (.aload_n 0, 1) := by decide +kernel
theorem d_Host_mapText_28 : decode b_Host_mapText 28 = .ok (.getfield 21, 3) := by decide +kernel
theorem d_Host_mapText_31 : decode b_Host_mapText 31 = .ok (.invokevirtual 78, 3) := by decide +kernel
theorem d_Host_mapText_34 : decode b_Host_mapText 34 = .ok (.iconst 0, 1) := by decide +kernel
theorem d_Host_mapText_35 : decode b_Host_mapText 35 = .ok (.istore 5, 2) := by decide +kernel
theorem d_Host_mapText_37 : decode b_Host_mapText 37 = .ok (.iload 5, 2) := by decide +kernel
theorem d_Host_mapText_39 : decode b_Host_mapText 39 = .ok (.aload_n 0, 1) := by decide +kernel
theorem d_Host_mapText_40 : decode b_Host_mapText 40 = .ok (.getfield 14, 3) := by decide +kernel
theorem d_Host_mapText_43 : decode b_Host_mapText 43 = .ok (.invokevirtual 74, 3) := by decide +kernel
theorem d_Host_mapText_46 : decode b_Host_mapText 46 = .ok (.if_icmp .ge 33, 3) := by decide +kernel
theorem d_Host_mapText_49 : decode b_Host_mapText 49 = .ok (.aload_n 0, 1) := by decide +kernel
theorem d_Host_mapText_50 : decode b_Host_mapText 50 = .ok (.aload_n 0, 1) := by decide +kernel
theorem d_Host_mapText_51 : decode b_Host_mapText 51 = .ok (.getfield 14, 3) := by decide +kernel
theorem d_Host_mapText_54 : decode b_Host_mapText 54 = .ok (.iload 5, 2) := by decide +kernel
theorem d_Host_mapText_56 : decode b_Host_mapText 56 = .ok (.invokevirtual 102, 3) := by decide +kernel
theorem d_Host_mapText_59 : decode b_Host_mapText 59 = .ok (.iload_n 2, 1) := by decide +kernel
theorem d_Host_mapText_60 : decode b_Host_mapText 60 = .ok (.iload_n 3, 1) := by decide +kernel
theorem d_Host_mapText_61 : decode b_Host_mapText 61 = .ok (.invokevirtual 122, 3) := by decide +kernel
theorem d_Host_mapText_64 : decode b_Host_mapText 64 = .ok (.ifCond .ne 9, 3) := by decide +kernel
theorem d_Host_mapText_67 : decode b_Host_mapText 67 = .ok (.iconst 1, 1) := by decide +kernel
theorem d_Host_mapText_68 : decode b_Host_mapText 68 = .ok (.invokestatic 126, 3) := by decide +kernel
theorem d_Host_mapText_71 : decode b_Host_mapText 71 = .ok (.istore 4, 2) := by decide +kernel
theorem d_Host_mapText_73 : decode b_Host_mapText 73 = .ok (.iinc 5 1, 3) := by decide +kernel
theorem d_Host_mapText_76 : decode b_Host_mapText 76 = .ok (.goto (-39), 3) := by decide +kernel
theorem d_Host_mapText_79 : decode b_Host_mapText 79 = .ok (.iload 4, 2) := by decide +kernel
theorem d_Host_mapText_81 : decode b_Host_mapText 81 = .ok (.ireturn, 1) := by decide +kernel
theorem d_Host_mapCode_0 : decode b_Host_mapCode 0 = .ok (.iload_n 1, 1) := by decide +kernel
theorem d_Host_mapCode_1 : decode b_Host_mapCode 1 = .ok (.sipush 173, 3) := by decide +kernel
theorem d_Host_mapCode_4 : decode b_Host_mapCode 4 = .ok (.if_icmp .ne 5, 3) := by decide +kernel
theorem d_Host_mapCode_7 : decode b_Host_mapCode 7 = .ok (.iconst 1, 1) := by decide +kernel
theorem d_Host_mapCode_8 : decode b_Host_mapCode 8 = .ok (.ireturn, 1) := by decide +kernel
theorem d_Host_mapCode_9 : decode b_Host_mapCode 9 = .ok (.iload_n 3, 1) := by decide +kernel
theorem d_Host_mapCode_10 : decode b_Host_mapCode 10 = .ok (.ifCond .eq 17, 3) := by decide +kernel
theorem d_Host_mapCode_13 : decode b_Host_mapCode 13 = .ok (.iload_n 1, 1) := by decide +kernel
theorem d_Host_mapCode_14 : decode b_Host_mapCode 14 = .ok (.invokestatic 129, 3) := by decide +kernel
theorem d_Host_mapCode_17 : decode b_Host_mapCode 17 = .ok (.ifCond .eq 10, 3) := by decide +kernel
theorem d_Host_mapCode_20 : decode b_Host_mapCode 20 = .ok (.aload_n 0, 1) := by decide +kernel
theorem d_Host_mapCode_21 : decode b_Host_mapCode 21 = .ok (.iload_n 1, 1) := by decide +kernel
theorem d_Host_mapCode_22 : decode b_Host_mapCode 22 = .ok (.invokevirtual 132, 3) := by decide +kernel
theorem d_Host_mapCode_25 : decode b_Host_mapCode 25 = .ok (.iconst 1, 1) := by decide +kernel
theorem d_Host_mapCode_26 : decode b_Host_mapCode 26 = .ok (.ireturn, 1) := by decide +kernel
theorem d_Host_mapCode_27 : decode b_Host_mapCode 27 = .ok (.iload_n 1, 1) := by decide +kernel
theorem d_Host_mapCode_28 : decode b_Host_mapCode 28 = .ok (.invokestatic 135, 3) := by decide +kernel
theorem d_Host_mapCode_31 : decode b_Host_mapCode 31 = .ok (.istore 4, 2) := by decide +kernel
theorem d_Host_mapCode_33 : decode b_Host_mapCode 33 = .ok (.aload_n 0, 1) := by decide +kernel
theorem d_Host_mapCode_34 : decode b_Host_mapCode 34 = .ok (.getfield 21, 3) := by decide +kernel
theorem d_Host_mapCode_37 : decode b_Host_mapCode 37 = .ok (.iload 4, 2) := by decide +kernel
theorem d_Host_mapCode_39 : decode b_Host_mapCode 39 = .ok (.invokevirtual 70, 3) := by decide +kernel
theorem d_Host_mapCode_42 : decode b_Host_mapCode 42 = .ok (.pop, 1) := by decide +kernel
theorem d_Host_mapCode_43 : decode b_Host_mapCode 43 = .ok (.iload 4, 2) := by decide +kernel
theorem d_Host_mapCode_45 : decode b_Host_mapCode 45 = .ok (.iload_n 2, 1) := by decide +kernel
theorem d_Host_mapCode_46 : decode b_Host_mapCode 46 = .ok (.iconst 0, 1) := by decide +kernel
theorem d_Host_mapCode_47 : decode b_Host_mapCode 47 = .ok (.invokestatic 138, 3) := by decide +kernel
theorem d_Host_mapCode_50 : decode b_Host_mapCode 50 = .ok (.ireturn, 1) := by decide +kernel
theorem d_Host_mapOdd_0 : decode b_Host_mapOdd 0 = .ok (.iload_n 1, 1) := by decide +kernel
theorem d_Host_mapOdd_1 : decode b_Host_mapOdd 1 = .ok (.sipush 223, 3) := by decide +kernel
theorem d_Host_mapOdd_4 : decode b_Host_mapOdd 4 = .ok (.if_icmp .ne 26, 3) := by decide +kernel
theorem d_Host_mapOdd_7 : decode b_Host_mapOdd 7 = .ok (.aload_n 0, 1) := by decide +kernel
theorem d_Host_mapOdd_8 : decode b_Host_mapOdd 8 = .ok (.getfield 21, 3) := by decide +kernel
theorem d_Host_mapOdd_11 : decode b_Host_mapOdd 11 = .ok (.bipush 115, 2) := by decide +kernel
theorem d_Host_mapOdd_13 : decode b_Host_mapOdd 13 = .ok (.invokevirtual 70, 3) := by decide +kernel
theorem d_Host_mapOdd_16 : decode b_Host_mapOdd 16 = .ok (.pop, 1) := by decide +kernel
theorem d_Host_mapOdd_17 : decode b_Host_mapOdd 17 = .ok (.aload_n 0, 1) := by decide +kernel
theorem d_Host_mapOdd_18 : decode b_Host_mapOdd 18 = .ok (.getfield 21, 3) := by decide +kernel
theorem d_Host_mapOdd_21 : decode b_Host_mapOdd 21 = .ok (.bipush 115, 2) := by decide +kernel
theorem d_Host_mapOdd_23 : decode b_Host_mapOdd 23 = .ok (.invokevirtual 70, 3) := by decide +kernel
theorem d_Host_mapOdd_26 : decode b_Host_mapOdd 26 = .ok (.pop, 1) := by decide +kernel
theorem d_Host_mapOdd_27 : decode b_Host_mapOdd 27 = .ok (.goto 21, 3) := by decide +kernel
theorem d_Host_mapOdd_30 : decode b_Host_mapOdd 30 = .ok (.iload_n 1, 1) := by decide +kernel
theorem d_Host_mapOdd_31 : decode b_Host_mapOdd 31 = .ok (.sipush 962, 3) := by decide +kernel
theorem d_Host_mapOdd_34 : decode b_Host_mapOdd 34 = .ok (.if_icmp .ne 14, 3) := by decide +kernel
theorem d_Host_mapOdd_37 : decode b_Host_mapOdd 37 = .ok (.aload_n 0, 1) := by decide +kernel
theorem d_Host_mapOdd_38 : decode b_Host_mapOdd 38 = .ok (.getfield 21, 3) := by decide +kernel
theorem d_Host_mapOdd_41 : decode b_Host_mapOdd 41 = .ok (.sipush 963, 3) := by decide +kernel
theorem d_Host_mapOdd_44 : decode b_Host_mapOdd 44 = .ok (.invokevirtual 70, 3) := by decide +kernel
theorem d_Host_mapOdd_47 : decode b_Host_mapOdd 47 = .ok (.pop, 1) := by decide +kernel
theorem d_Host_mapOdd_48 : decode b_Host_mapOdd 48 = .ok (.return_, 1) := by decide +kernel
theorem d_Host_cutIntoLabels_0 : decode b_Host_cutIntoLabels 0 = .ok (.aload_n 0, 1) := by decide +kernel
theorem d_Host_cutIntoLabels_1 : decode b_Host_cutIntoLabels 1 = .ok (.getfield 36, 3) := by decide +kernel
theorem d_Host_cutIntoLabels_4 : decode b_Host_cutIntoLabels 4 = .ok (.invokevirtual 141, 3) := by decide +kernel
theorem d_Host_cutIntoLabels_7 : decode b_Host_cutIntoLabels 7 = .ok (.iconst 0, 1) := by decide +kernel
theorem d_Host_cutIntoLabels_8 : decode b_Host_cutIntoLabels 8 = .ok (.istore_n 1, 1) := by decide +kernel
theorem d_Host_cutIntoLabels_9 : decode b_Host_cutIntoLabels 9 = .ok (.iconst 0, 1) := by decide +kernel
theorem d_Host_cutIntoLabels_10 : decode b_Host_cutIntoLabels 10 = .ok (.istore_n 2, 1) := by decide +kernel
theorem d_Host_cutIntoLabels_11 : decode b_Host_cutIntoLabels 11 = .ok (.iload_n 2, 1) := by decide +kernel
theorem d_Host_cutIntoLabels_12 : decode b_Host_cutIntoLabels 12 = .ok (.aload_n 0, 1) := by decide +kernel
theorem d_Host_cutIntoLabels_13 : decode b_Host_cutIntoLabels 13 = .ok (.getfield 24, 3) := by decide +kernel
theorem d_Host_cutIntoLabels_16 : decode b_Host_cutIntoLabels 16 = .ok (.invokevirtual 74, 3) := by decide +kernel
theorem d_Host_cutIntoLabels_19 : decode b_Host_cutIntoLabels 19 = .ok (.if_icmp .gt 61, 3) := by decide +kernel
theorem d_Host_cutIntoLabels_22 : decode b_Host_cutIntoLabels 22 = .ok (.iload_n 2, 1) := by decide +kernel
theorem d_Host_cutIntoLabels_23 : decode b_Host_cutIntoLabels 23 = .ok (.aload_n 0, 1) := by decide +kernel
theorem d_Host_cutIntoLabels_24 : decode b_Host_cutIntoLabels 24 = .ok (.getfield 24, 3) := by decide +kernel
theorem d_Host_cutIntoLabels_27 : decode b_Host_cutIntoLabels 27 = .ok (.invokevirtual 74, 3) := by decide +kernel
theorem d_Host_cutIntoLabels_30 : decode b_Host_cutIntoLabels 30 = .ok (.if_icmp .eq 16, 3) := by decide +kernel
theorem d_Host_cutIntoLabels_33 : decode b_Host_cutIntoLabels 33 = .ok (.aload_n 0, 1) := by decide +kernel
theorem d_Host_cutIntoLabels_34 : decode b_Host_cutIntoLabels 34 = .ok (.getfield 24, 3) := by decide +kernel
theorem d_Host_cutIntoLabels_37 : decode b_Host_cutIntoLabels 37 = .ok (.iload_n 2, 1) := by decide +kernel
theorem d_Host_cutIntoLabels_38 : decode b_Host_cutIntoLabels 38 = .ok (.invokevirtual 102, 3) := by decide +kernel
theorem d_Host_cutIntoLabels_41 : decode b_Host_cutIntoLabels 41 = .ok (.bipush 46, 2) := by decide +kernel
theorem d_Host_cutIntoLabels_43 : decode b_Host_cutIntoLabels 43 = .ok (.if_icmp .ne 31, 3) := by decide +kernel
theorem d_Host_cutIntoLabels_46 : decode b_Host_cutIntoLabels 46 = .ok (.aload_n 0, 1) := by decide +kernel
theorem d_Host_cutIntoLabels_47 : decode b_Host_cutIntoLabels 47 = .ok (.getfield 27, 3) := by decide +kernel
theorem d_Host_cutIntoLabels_50 : decode b_Host_cutIntoLabels 50 = .ok (.invokevirtual 78, 3) := by decide +kernel
theorem d_Host_cutIntoLabels_53 : decode b_Host_cutIntoLabels 53 = .ok (.aload_n 0, 1) := by decide +kernel
theorem d_Host_cutIntoLabels_54 : decode b_Host_cutIntoLabels 54 = .ok (.getfield 27, 3) := by decide +kernel
theorem d_Host_cutIntoLabels_57 : decode b_Host_cutIntoLabels 57 = .ok (.aload_n 0, 1) := by decide +kernel
theorem d_Host_cutIntoLabels_58 : decode b_Host_cutIntoLabels 58 = .ok (.getfield 24, 3) := by decide +kernel
theorem d_Host_cutIntoLabels_61 : decode b_Host_cutIntoLabels 61 = .ok (.iload_n 1, 1) := by decide +kernel
theorem d_Host_cutIntoLabels_62 : decode b_Host_cutIntoLabels 62 = .ok (.iload_n 2, 1) := by decide +kernel
theorem d_Host_cutIntoLabels_63 : decode b_Host_cutIntoLabels 63 = .ok (.invokevirtual 118, 3) := by decide +kernel
theorem d_Host_cutIntoLabels_66 : decode b_Host_cutIntoLabels 66 = .ok (.aload_n 0, 1) := by decide +kernel
theorem d_Host_cutIntoLabels_67 : decode b_Host_cutIntoLabels 67 = .ok (.invokevirtual 142, 3) := by decide +kernel
theorem d_Host_cutIntoLabels_70 : decode b_Host_cutIntoLabels 70 = .ok (.iload_n 2, 1) := by decide +kernel
theorem d_Host_cutIntoLabels_71 : decode b_Host_cutIntoLabels 71 = .ok (.iconst 1, 1) := by decide +kernel
theorem d_Host_cutIntoLabels_72 : decode b_Host_cutIntoLabels 72 = .ok (.iadd, 1) := by decide +kernel
theorem d_Host_cutIntoLabels_73 : decode b_Host_cutIntoLabels 73 = .ok (.istore_n 1, 1) := by decide +kernel
theorem d_Host_cutIntoLabels_74 : decode b_Host_cutIntoLabels 74 = .ok (.iinc 2 1, 3) := by decide +kernel
theorem d_Host_cutIntoLabels_77 : decode b_Host_cutIntoLabels 77 = .ok (.goto (-66), 3) := by decide +kernel
theorem d_Host_cutIntoLabels_80 : decode b_Host_cutIntoLabels 80 = .ok (.return_, 1) := by decide +kernel
theorem d_Host_keepLabel_0 : decode b_Host_keepLabel 0 = .ok (.aload_n 0, 1) := by decide +kernel
theorem d_Host_keepLabel_1 : decode b_Host_keepLabel 1 = .ok (.getfield 27, 3) := by decide +kernel
theorem d_Host_keepLabel_4 : decode b_Host_keepLabel 4 = .ok (.invokestatic 145, 3) := by decide +kernel
theorem d_Host_keepLabel_7 : decode b_Host_keepLabel 7 = .ok (.istore_n 1, 1) := by decide +kernel
theorem d_Host_keepLabel_8 : decode b_Host_keepLabel 8 = .ok (.iload_n 1, 1) := by decide +kernel
theorem d_Host_keepLabel_9 : decode b_Host_keepLabel 9 = .ok (.ifCond .ne 19, 3) := by decide +kernel
theorem d_Host_keepLabel_12 : decode b_Host_keepLabel 12 = .ok (.aload_n 0, 1) := by decide +kernel
theorem d_Host_keepLabel_13 : decode b_Host_keepLabel 13 = .ok (.getfield 36, 3) := by decide +kernel
theorem d_Host_keepLabel_16 : decode b_Host_keepLabel 16 = .ok (.aload_n 0, 1) := by decide +kernel
theorem d_Host_keepLabel_17 : decode b_Host_keepLabel 17 = .ok (.getfield 27, 3) := by decide +kernel
theorem d_Host_keepLabel_20 : decode b_Host_keepLabel 20 = .ok (.iconst 0, 1) := by decide +kernel
theorem d_Host_keepLabel_21 : decode b_Host_keepLabel 21 = .ok (.iconst 0, 1) := by decide +kernel
theorem d_Host_keepLabel_22 : decode b_Host_keepLabel 22 = .ok (.invokevirtual 149, 3) := by decide +kernel
theorem d_Host_keepLabel_25 : decode b_Host_keepLabel 25 = .ok (.goto 66, 3) := by decide +kernel
theorem d_Host_keepLabel_28 : decode b_Host_keepLabel 28 = .ok (.aload_n 0, 1) := by decide +kernel
theorem d_Host_keepLabel_29 : decode b_Host_keepLabel 29 = .ok (.getfield 50, 3) := by decide +kernel
theorem d_Host_keepLabel_32 : decode b_Host_keepLabel 32 = .ok (.aload_n 0, 1) := by decide +kernel
theorem d_Host_keepLabel_33 : decode b_Host_keepLabel 33 = .ok (.getfield 27, 3) := by decide +kernel
theorem d_Host_keepLabel_36 : decode b_Host_keepLabel 36 = .ok (.iconst 4, 1) := by decide +kernel
theorem d_Host_keepLabel_37 : decode b_Host_keepLabel 37 = .ok (.aload_n 0, 1) := by decide +kernel
theorem d_Host_keepLabel_38 : decode b_Host_keepLabel 38 = .ok (.getfield 30, 3) := by decide +kernel
theorem d_Host_keepLabel_41 : decode b_Host_keepLabel 41 = .ok (.invokevirtual 114, 3) := by decide +kernel
theorem d_Host_keepLabel_44 : decode b_Host_keepLabel 44 = .ok (.ifCond .eq 31, 3) := by decide +kernel
theorem d_Host_keepLabel_47 : decode b_Host_keepLabel 47 = .ok (.aload_n 0, 1) := by decide +kernel
theorem d_Host_keepLabel_48 : decode b_Host_keepLabel 48 = .ok (.getfield 30, 3) := by decide +kernel
theorem d_Host_keepLabel_51 : decode b_Host_keepLabel 51 = .ok (.bipush 127, 2) := by decide +kernel
theorem d_Host_keepLabel_53 : decode b_Host_keepLabel 53 = .ok (.invokevirtual 152, 3) := by decide +kernel
theorem d_Host_keepLabel_56 : decode b_Host_keepLabel 56 = .ok (.ifCond .eq 19, 3) := by decide +kernel
theorem d_Host_keepLabel_59 : decode b_Host_keepLabel 59 = .ok (.aload_n 0, 1) := by decide +kernel
theorem d_Host_keepLabel_60 : decode b_Host_keepLabel 60 = .ok (.getfield 36, 3) := by decide +kernel
theorem d_Host_keepLabel_63 : decode b_Host_keepLabel 63 = .ok (.aload_n 0, 1) := by decide +kernel
theorem d_Host_keepLabel_64 : decode b_Host_keepLabel 64 = .ok (.getfield 30, 3) := by decide +kernel
theorem d_Host_keepLabel_67 : decode b_Host_keepLabel 67 = .ok (.iconst 1, 1) := by decide +kernel
theorem d_Host_keepLabel_68 : decode b_Host_keepLabel 68 = .ok (.iconst 0, 1) := by decide +kernel
theorem d_Host_keepLabel_69 : decode b_Host_keepLabel 69 = .ok (.invokevirtual 149, 3) := by decide +kernel
theorem d_Host_keepLabel_72 : decode b_Host_keepLabel 72 = .ok (.goto 19, 3) := by decide +kernel
theorem d_Host_keepLabel_75 : decode b_Host_keepLabel 75 = .ok (.aload_n 0, 1) := by decide +kernel
theorem d_Host_keepLabel_76 : decode b_Host_keepLabel 76 = .ok (.getfield 36, 3) := by decide +kernel
theorem d_Host_keepLabel_79 : decode b_Host_keepLabel 79 = .ok (.aload_n 0, 1) := by decide +kernel
theorem d_Host_keepLabel_80 : decode b_Host_keepLabel 80 = .ok (.getfield 27, 3) := by decide +kernel
theorem d_Host_keepLabel_83 : decode b_Host_keepLabel 83 = .ok (.iconst 1, 1) := by decide +kernel
theorem d_Host_keepLabel_84 : decode b_Host_keepLabel 84 = .ok (.iconst 2, 1) := by decide +kernel
theorem d_Host_keepLabel_85 : decode b_Host_keepLabel 85 = .ok (.invokestatic 126, 3) := by decide +kernel
theorem d_Host_keepLabel_88 : decode b_Host_keepLabel 88 = .ok (.invokevirtual 149, 3) := by decide +kernel
theorem d_Host_keepLabel_91 : decode b_Host_keepLabel 91 = .ok (.return_, 1) := by decide +kernel
theorem d_Host_checkLabels_0 : decode b_Host_checkLabels 0 = .ok (.iload_n 1, 1) := by decide +kernel
theorem d_Host_checkLabels_1 : decode b_Host_checkLabels 1 = .ok (.bipush 16, 2) := by decide +kernel
theorem d_Host_checkLabels_3 : decode b_Host_checkLabels 3 = .ok (.iand, 1) := by decide +kernel
theorem d_Host_checkLabels_4 : decode b_Host_checkLabels 4 = .ok (.ifCond .eq 20, 3) := by decide +kernel
theorem d_Host_checkLabels_7 : decode b_Host_checkLabels 7 = .ok (.aload_n 0, 1) := by decide +kernel
theorem d_Host_checkLabels_8 : decode b_Host_checkLabels 8 = .ok (.getfield 36, 3) := by decide +kernel
theorem d_Host_checkLabels_11 : decode b_Host_checkLabels 11 = .ok (.invokevirtual 155, 3) := by decide +kernel
theorem d_Host_checkLabels_14 : decode b_Host_checkLabels 14 = .ok (.invokestatic 159, 3) := by decide +kernel
theorem d_Host_checkLabels_17 : decode b_Host_checkLabels 17 = .ok (.ifCond .eq 7, 3) := by decide +kernel
theorem d_Host_checkLabels_20 : decode b_Host_checkLabels 20 = .ok (.iconst 1, 1) := by decide +kernel
theorem d_Host_checkLabels_21 : decode b_Host_checkLabels 21 = .ok (.goto 4, 3) := by decide +kernel
theorem d_Host_checkLabels_24 : decode b_Host_checkLabels 24 = .ok (.iconst 0, 1) := by decide +kernel
theorem d_Host_checkLabels_25 : decode b_Host_checkLabels 25 = .ok (.istore_n 2, 1) := by decide +kernel
theorem d_Host_checkLabels_26 : decode b_Host_checkLabels 26 = .ok (.iconst 0, 1) := by decide +kernel
theorem d_Host_checkLabels_27 : decode b_Host_checkLabels 27 = .ok (.istore_n 3, 1) := by decide +kernel
theorem d_Host_checkLabels_28 : decode b_Host_checkLabels 28 = .ok (.iload_n 3, 1) := by decide +kernel
theorem d_Host_checkLabels_29 : decode b_Host_checkLabels 29 = .ok (.aload_n 0, 1) := by decide +kernel
theorem d_Host_checkLabels_30 : decode b_Host_checkLabels 30 = .ok (.getfield 36, 3) := by decide +kernel
theorem d_Host_checkLabels_33 : decode b_Host_checkLabels 33 = .ok (.invokevirtual 105, 3) := by decide +kernel
theorem d_Host_checkLabels_36 : decode b_Host_checkLabels 36 = .ok (.if_icmp .ge 85, 3) := by decide +kernel
theorem d_Host_checkLabels_39 : decode b_Host_checkLabels 39 = .ok (.aload_n 0, 1) := by decide +kernel
theorem d_Host_checkLabels_40 : decode b_Host_checkLabels 40 = .ok (.getfield 36, 3) := by decide +kernel
theorem d_Host_checkLabels_43 : decode b_Host_checkLabels 43 = .ok (.iload_n 3, 1) := by decide +kernel
theorem d_Host_checkLabels_44 : decode b_Host_checkLabels 44 = .ok (.aload_n 0, 1) := by decide +kernel
theorem d_Host_checkLabels_45 : decode b_Host_checkLabels 45 = .ok (.getfield 27, 3) := by decide +kernel
theorem d_Host_checkLabels_48 : decode b_Host_checkLabels 48 = .ok (.invokevirtual 162, 3) := by decide +kernel
theorem d_Host_checkLabels_51 : decode b_Host_checkLabels 51 = .ok (.aload_n 0, 1) := by decide +kernel
theorem d_Host_checkLabels_52 : decode b_Host_checkLabels 52 = .ok (.getfield 27, 3) := by decide +kernel
theorem d_Host_checkLabels_55 : decode b_Host_checkLabels 55 = .ok (.invokevirtual 74, 3) := by decide +kernel
theorem d_Host_checkLabels_58 : decode b_Host_checkLabels 58 = .ok (.ifCond .le 57, 3) := by decide +kernel
theorem d_Host_checkLabels_61 : decode b_Host_checkLabels 61 = .ok (.aload_n 0, 1) := by decide +kernel
theorem d_Host_checkLabels_62 : decode b_Host_checkLabels 62 = .ok (.getfield 36, 3) := by decide +kernel
theorem d_Host_checkLabels_65 : decode b_Host_checkLabels 65 = .ok (.iload_n 3, 1) := by decide +kernel
theorem d_Host_checkLabels_66 : decode b_Host_checkLabels 66 = .ok (.invokevirtual 108, 3) := by decide +kernel
theorem d_Host_checkLabels_69 : decode b_Host_checkLabels 69 = .ok (.ifCond .ne 46, 3) := by decide +kernel
theorem d_Host_checkLabels_72 : decode b_Host_checkLabels 72 = .ok (.aload_n 0, 1) := by decide +kernel
theorem d_Host_checkLabels_73 : decode b_Host_checkLabels 73 = .ok (.getfield 36, 3) := by decide +kernel
theorem d_Host_checkLabels_76 : decode b_Host_checkLabels 76 = .ok (.iload_n 3, 1) := by decide +kernel
theorem d_Host_checkLabels_77 : decode b_Host_checkLabels 77 = .ok (.invokevirtual 166, 3) := by decide +kernel
theorem d_Host_checkLabels_80 : decode b_Host_checkLabels 80 = .ok (.ifCond .eq 10, 3) := by decide +kernel
theorem d_Host_checkLabels_83 : decode b_Host_checkLabels 83 = .ok (.iload_n 1, 1) := by decide +kernel
theorem d_Host_checkLabels_84 : decode b_Host_checkLabels 84 = .ok (.bipush (-3), 2) := by decide +kernel
theorem d_Host_checkLabels_86 : decode b_Host_checkLabels 86 = .ok (.iand, 1) := by decide +kernel
theorem d_Host_checkLabels_87 : decode b_Host_checkLabels 87 = .ok (.goto 4, 3) := by decide +kernel
theorem d_Host_checkLabels_90 : decode b_Host_checkLabels 90 = .ok (.iload_n 1, 1) := by decide +kernel
theorem d_Host_checkLabels_91 : decode b_Host_checkLabels 91 = .ok (.istore 4, 2) := by decide +kernel
theorem d_Host_checkLabels_93 : decode b_Host_checkLabels 93 = .ok (.aload_n 0, 1) := by decide +kernel
theorem d_Host_checkLabels_94 : decode b_Host_checkLabels 94 = .ok (.getfield 36, 3) := by decide +kernel
theorem d_Host_checkLabels_97 : decode b_Host_checkLabels 97 = .ok (.iload_n 3, 1) := by decide +kernel
theorem d_Host_checkLabels_98 : decode b_Host_checkLabels 98 = .ok (.aload_n 0, 1) := by decide +kernel
theorem d_Host_checkLabels_99 : decode b_Host_checkLabels 99 = .ok (.getfield 57, 3) := by decide +kernel
theorem d_Host_checkLabels_102 : decode b_Host_checkLabels 102 = .ok (.aload_n 0, 1) := by decide +kernel
theorem d_Host_checkLabels_103 : decode b_Host_checkLabels 103 = .ok (.getfield 27, 3) := by decide +kernel
theorem d_Host_checkLabels_106 : decode b_Host_checkLabels 106 = .ok (.iload 4, 2) := by decide +kernel
theorem d_Host_checkLabels_108 : decode b_Host_checkLabels 108 = .ok (.iload_n 2, 1) := by decide +kernel
theorem d_Host_checkLabels_109 : decode b_Host_checkLabels 109 = .ok (.invokevirtual 169, 3) := by decide +kernel
theorem d_Host_checkLabels_112 : decode b_Host_checkLabels 112 = .ok (.invokevirtual 173, 3) := by decide +kernel
theorem d_Host_checkLabels_115 : decode b_Host_checkLabels 115 = .ok (.iinc 3 1, 3) := by decide +kernel
theorem d_Host_checkLabels_118 : decode b_Host_checkLabels 118 = .ok (.goto (-90), 3) := by decide +kernel
theorem d_Host_checkLabels_121 : decode b_Host_checkLabels 121 = .ok (.return_, 1) := by decide +kernel
theorem d_Host_writeResult_0 : decode b_Host_writeResult 0 = .ok (.aload_n 0, 1) := by decide +kernel
theorem d_Host_writeResult_1 : decode b_Host_writeResult 1 = .ok (.getfield 18, 3) := by decide +kernel
theorem d_Host_writeResult_4 : decode b_Host_writeResult 4 = .ok (.invokevirtual 78, 3) := by decide +kernel
theorem d_Host_writeResult_7 : decode b_Host_writeResult 7 = .ok (.iconst 0, 1) := by decide +kernel
theorem d_Host_writeResult_8 : decode b_Host_writeResult 8 = .ok (.istore_n 3, 1) := by decide +kernel
theorem d_Host_writeResult_9 : decode b_Host_writeResult 9 = .ok (.iload_n 3, 1) := by decide +kernel
theorem d_Host_writeResult_10 : decode b_Host_writeResult 10 = .ok (.aload_n 0, 1) := by decide +kernel
theorem d_Host_writeResult_11 : decode b_Host_writeResult 11 = .ok (.getfield 36, 3) := by decide +kernel
theorem d_Host_writeResult_14 : decode b_Host_writeResult 14 = .ok (.invokevirtual 105, 3) := by decide +kernel
theorem d_Host_writeResult_17 : decode b_Host_writeResult 17 = .ok (.if_icmp .ge 84, 3) := by decide +kernel
theorem d_Host_writeResult_20 : decode b_Host_writeResult 20 = .ok (.iload_n 3, 1) := by decide +kernel
theorem d_Host_writeResult_21 : decode b_Host_writeResult 21 = .ok (.ifCond .le 13, 3) := by decide +kernel
theorem d_Host_writeResult_24 : decode b_Host_writeResult 24 = .ok (.aload_n 0, 1) := by decide +kernel
theorem d_Host_writeResult_25 : decode b_Host_writeResult 25 = .ok (.getfield 18, 3) := by decide +kernel
theorem d_Host_writeResult_28 : decode b_Host_writeResult 28 = .ok (.bipush 46, 2) := by decide +kernel
theorem d_Host_writeResult_30 : decode b_Host_writeResult 30 = .ok (.invokevirtual 70, 3) := by decide +kernel
theorem d_Host_writeResult_33 : decode b_Host_writeResult 33 = .ok (.pop, 1) := by decide +kernel
theorem d_Host_writeResult_34 : decode b_Host_writeResult 34 = .ok (.aload_n 0, 1) := by decide +kernel
theorem d_Host_writeResult_35 : decode b_Host_writeResult 35 = .ok (.getfield 18, 3) := by decide +kernel
theorem d_Host_writeResult_38 : decode b_Host_writeResult 38 = .ok (.invokevirtual 74, 3) := by decide +kernel
theorem d_Host_writeResult_41 : decode b_Host_writeResult 41 = .ok (.istore 4, 2) := by decide +kernel
theorem d_Host_writeResult_43 : decode b_Host_writeResult 43 = .ok (.aload_n 0, 1) := by decide +kernel
theorem d_Host_writeResult_44 : decode b_Host_writeResult 44 = .ok (.getfield 36, 3) := by decide +kernel
theorem d_Host_writeResult_47 : decode b_Host_writeResult 47 = .ok (.iload_n 3, 1) := by decide +kernel
theorem d_Host_writeResult_48 : decode b_Host_writeResult 48 = .ok (.aload_n 0, 1) := by decide +kernel
theorem d_Host_writeResult_49 : decode b_Host_writeResult 49 = .ok (.getfield 27, 3) := by decide +kernel
theorem d_Host_writeResult_52 : decode b_Host_writeResult 52 = .ok (.invokevirtual 162, 3) := by decide +kernel
theorem d_Host_writeResult_55 : decode b_Host_writeResult 55 = .ok (.aload_n 0, 1) := by decide +kernel
theorem d_Host_writeResult_56 : decode b_Host_writeResult 56 = .ok (.iload_n 1, 1) := by decide +kernel
theorem d_Host_writeResult_57 : decode b_Host_writeResult 57 = .ok (.invokevirtual 177, 3) := by decide +kernel
theorem d_Host_writeResult_60 : decode b_Host_writeResult 60 = .ok (.iload_n 2, 1) := by decide +kernel
theorem d_Host_writeResult_61 : decode b_Host_writeResult 61 = .ok (.ifCond .eq 34, 3) := by decide +kernel
theorem d_Host_writeResult_64 : decode b_Host_writeResult 64 = .ok (.aload_n 0, 1) := by decide +kernel
theorem d_Host_writeResult_65 : decode b_Host_writeResult 65 = .ok (.aload_n 0, 1) := by decide +kernel
theorem d_Host_writeResult_66 : decode b_Host_writeResult 66 = .ok (.getfield 18, 3) := by decide +kernel
theorem d_Host_writeResult_69 : decode b_Host_writeResult 69 = .ok (.invokevirtual 74, 3) := by decide +kernel
theorem d_Host_writeResult_72 : decode b_Host_writeResult 72 = .ok (.iload 4, 2) := by decide +kernel
theorem d_Host_writeResult_74 : decode b_Host_writeResult 74 = .ok (.isub, 1) := by decide +kernel
theorem d_Host_writeResult_75 : decode b_Host_writeResult 75 = .ok (.iload_n 3, 1) := by decide +kernel
theorem d_Host_writeResult_76 : decode b_Host_writeResult 76 = .ok (.invokevirtual 181, 3) := by decide +kernel
theorem d_Host_writeResult_79 : decode b_Host_writeResult 79 = .ok (.ifCond .eq 16, 3) := by decide +kernel
theorem d_Host_writeResult_82 : decode b_Host_writeResult 82 = .ok (.aload_n 0, 1) := by decide +kernel
theorem d_Host_writeResult_83 : decode b_Host_writeResult 83 = .ok (.getfield 36, 3) := by decide +kernel
theorem d_Host_writeResult_86 : decode b_Host_writeResult 86 = .ok (.iload_n 3, 1) := by decide +kernel
theorem d_Host_writeResult_87 : decode b_Host_writeResult 87 = .ok (.bipush 11, 2) := by decide +kernel
theorem d_Host_writeResult_89 : decode b_Host_writeResult 89 = .ok (.invokestatic 126, 3) := by decide +kernel
theorem d_Host_writeResult_92 : decode b_Host_writeResult 92 = .ok (.invokevirtual 173, 3) := by decide +kernel
theorem d_Host_writeResult_95 : decode b_Host_writeResult 95 = .ok (.iinc 3 1, 3) := by decide +kernel
theorem d_Host_writeResult_98 : decode b_Host_writeResult 98 = .ok (.goto (-89), 3) := by decide +kernel
theorem d_Host_writeResult_101 : decode b_Host_writeResult 101 = .ok (.iload_n 2, 1) := by decide +kernel
theorem d_Host_writeResult_102 : decode b_Host_writeResult 102 = .ok (.ifCond .eq 18, 3) := by decide +kernel
theorem d_Host_writeResult_105 : decode b_Host_writeResult 105 = .ok (.aload_n 0, 1) := by decide +kernel
theorem d_Host_writeResult_106 : decode b_Host_writeResult 106 = .ok (.invokevirtual 185, 3) := by decide +kernel
theorem d_Host_writeResult_109 : decode b_Host_writeResult 109 = .ok (.ifCond .eq 11, 3) := by decide +kernel
theorem d_Host_writeResult_112 : decode b_Host_writeResult 112 = .ok (.bipush 11, 2) := by decide +kernel
theorem d_Host_writeResult_114 : decode b_Host_writeResult 114 = .ok (.invokestatic 126, 3) := by decide +kernel
theorem d_Host_writeResult_117 : decode b_Host_writeResult 117 = .ok (.goto 4, 3) := by decide +kernel
theorem d_Host_writeResult_120 : decode b_Host_writeResult 120 = .ok (.iconst 0, 1) := by decide +kernel
theorem d_Host_writeResult_121 : decode b_Host_writeResult 121 = .ok (.ireturn, 1) := by decide +kernel
theorem d_Host_writeLabel_0 : decode b_Host_writeLabel 0 = .ok (.iload_n 1, 1) := by decide +kernel
theorem d_Host_writeLabel_1 : decode b_Host_writeLabel 1 = .ok (.ifCond .eq 40, 3) := by decide +kernel
theorem d_Host_writeLabel_4 : decode b_Host_writeLabel 4 = .ok (.aload_n 0, 1) := by decide +kernel
theorem d_Host_writeLabel_5 : decode b_Host_writeLabel 5 = .ok (.getfield 27, 3) := by decide +kernel
theorem d_Host_writeLabel_8 : decode b_Host_writeLabel 8 = .ok (.bipush 127, 2) := by decide +kernel
theorem d_Host_writeLabel_10 : decode b_Host_writeLabel 10 = .ok (.invokevirtual 152, 3) := by decide +kernel
theorem d_Host_writeLabel_13 : decode b_Host_writeLabel 13 = .ok (.ifCond .eq 28, 3) := by decide +kernel
theorem d_Host_writeLabel_16 : decode b_Host_writeLabel 16 = .ok (.aload_n 0, 1) := by decide +kernel
theorem d_Host_writeLabel_17 : decode b_Host_writeLabel 17 = .ok (.getfield 18, 3) := by decide +kernel
theorem d_Host_writeLabel_20 : decode b_Host_writeLabel 20 = .ok (.invokestatic 189, 3) := by decide +kernel
theorem d_Host_writeLabel_23 : decode b_Host_writeLabel 23 = .ok (.aload_n 0, 1) := by decide +kernel
theorem d_Host_writeLabel_24 : decode b_Host_writeLabel 24 = .ok (.getfield 50, 3) := by decide +kernel
theorem d_Host_writeLabel_27 : decode b_Host_writeLabel 27 = .ok (.aload_n 0, 1) := by decide +kernel
theorem d_Host_writeLabel_28 : decode b_Host_writeLabel 28 = .ok (.getfield 27, 3) := by decide +kernel
theorem d_Host_writeLabel_31 : decode b_Host_writeLabel 31 = .ok (.aload_n 0, 1) := by decide +kernel
theorem d_Host_writeLabel_32 : decode b_Host_writeLabel 32 = .ok (.getfield 18, 3) := by decide +kernel
theorem d_Host_writeLabel_35 : decode b_Host_writeLabel 35 = .ok (.invokevirtual 111, 3) := by decide +kernel
theorem d_Host_writeLabel_38 : decode b_Host_writeLabel 38 = .ok (.goto 22, 3) := by decide +kernel
theorem d_Host_writeLabel_41 : decode b_Host_writeLabel 41 = .ok (.aload_n 0, 1) := by decide +kernel
theorem d_Host_writeLabel_42 : decode b_Host_writeLabel 42 = .ok (.getfield 18, 3) := by decide +kernel
theorem d_Host_writeLabel_45 : decode b_Host_writeLabel 45 = .ok (.aload_n 0, 1) := by decide +kernel
theorem d_Host_writeLabel_46 : decode b_Host_writeLabel 46 = .ok (.getfield 27, 3) := by decide +kernel
theorem d_Host_writeLabel_49 : decode b_Host_writeLabel 49 = .ok (.iconst 0, 1) := by decide +kernel
theorem d_Host_writeLabel_50 : decode b_Host_writeLabel 50 = .ok (.aload_n 0, 1) := by decide +kernel
theorem d_Host_writeLabel_51 : decode b_Host_writeLabel 51 = .ok (.getfield 27, 3) := by decide +kernel
theorem d_Host_writeLabel_54 : decode b_Host_writeLabel 54 = .ok (.invokevirtual 74, 3) := by decide +kernel
theorem d_Host_writeLabel_57 : decode b_Host_writeLabel 57 = .ok (.invokevirtual 118, 3) := by decide +kernel
theorem d_Host_writeLabel_60 : decode b_Host_writeLabel 60 = .ok (.return_, 1) := by decide +kernel
theorem d_Host_isWrongLength_0 : decode b_Host_isWrongLength 0 = .ok (.iload_n 2, 1) := by decide +kernel
theorem d_Host_isWrongLength_1 : decode b_Host_isWrongLength 1 = .ok (.ifCond .le 20, 3) := by decide +kernel
theorem d_Host_isWrongLength_4 : decode b_Host_isWrongLength 4 = .ok (.iload_n 2, 1) := by decide +kernel
theorem d_Host_isWrongLength_5 : decode b_Host_isWrongLength 5 = .ok (.aload_n 0, 1) := by decide +kernel
theorem d_Host_isWrongLength_6 : decode b_Host_isWrongLength 6 = .ok (.getfield 36, 3) := by decide +kernel
theorem d_Host_isWrongLength_9 : decode b_Host_isWrongLength 9 = .ok (.invokevirtual 105, 3) := by decide +kernel
theorem d_Host_isWrongLength_12 : decode b_Host_isWrongLength 12 = .ok (.iconst 1, 1) := by decide +kernel
theorem d_Host_isWrongLength_13 : decode b_Host_isWrongLength 13 = .ok (.isub, 1) := by decide +kernel
theorem d_Host_isWrongLength_14 : decode b_Host_isWrongLength 14 = .ok (.if_icmp .ne 7, 3) := by decide +kernel
theorem d_Host_isWrongLength_17 : decode b_Host_isWrongLength 17 = .ok (.iconst 1, 1) := by decide +kernel
theorem d_Host_isWrongLength_18 : decode b_Host_isWrongLength 18 = .ok (.goto 4, 3) := by decide +kernel
theorem d_Host_isWrongLength_21 : decode b_Host_isWrongLength 21 = .ok (.iconst 0, 1) := by decide +kernel
theorem d_Host_isWrongLength_22 : decode b_Host_isWrongLength 22 = .ok (.istore_n 3, 1) := by decide +kernel
theorem d_Host_isWrongLength_23 : decode b_Host_isWrongLength 23 = .ok (.iload_n 1, 1) := by decide +kernel
theorem d_Host_isWrongLength_24 : decode b_Host_isWrongLength 24 = .ok (.bipush 20, 2) := by decide +kernel
theorem d_Host_isWrongLength_26 : decode b_Host_isWrongLength 26 = .ok (.if_icmp .gt 11, 3) := by decide +kernel
theorem d_Host_isWrongLength_29 : decode b_Host_isWrongLength 29 = .ok (.iload_n 1, 1) := by decide +kernel
theorem d_Host_isWrongLength_30 : decode b_Host_isWrongLength 30 = .ok (.ifCond .ne 11, 3) := by decide +kernel
theorem d_Host_isWrongLength_33 : decode b_Host_isWrongLength 33 = .ok (.iload_n 3, 1) := by decide +kernel
theorem d_Host_isWrongLength_34 : decode b_Host_isWrongLength 34 = .ok (.ifCond .ne 7, 3) := by decide +kernel
theorem d_Host_isWrongLength_37 : decode b_Host_isWrongLength 37 = .ok (.iconst 1, 1) := by decide +kernel
theorem d_Host_isWrongLength_38 : decode b_Host_isWrongLength 38 = .ok (.goto 4, 3) := by decide +kernel
theorem d_Host_isWrongLength_41 : decode b_Host_isWrongLength 41 = .ok (.iconst 0, 1) := by decide +kernel
theorem d_Host_isWrongLength_42 : decode b_Host_isWrongLength 42 = .ok (.ireturn, 1) := by decide +kernel
theorem d_Host_isWholeWrongLength_0 : decode b_Host_isWholeWrongLength 0 = .ok (.aload_n 0, 1) := by decide +kernel
theorem d_Host_isWholeWrongLength_1 : decode b_Host_isWholeWrongLength 1 = .ok (.getfield 18, 3) := by decide +kernel
theorem d_Host_isWholeWrongLength_4 : decode b_Host_isWholeWrongLength 4 = .ok (.invokevirtual 74, 3) := by decide +kernel
theorem d_Host_isWholeWrongLength_7 : decode b_Host_isWholeWrongLength 7 = .ok (.istore_n 1, 1) := by decide +kernel
theorem d_Host_isWholeWrongLength_8 : decode b_Host_isWholeWrongLength 8 = .ok (.iload_n 1, 1) := by decide +kernel
theorem d_Host_isWholeWrongLength_9 : decode b_Host_isWholeWrongLength 9 = .ok (.ifCond .le 21, 3) := by decide +kernel
theorem d_Host_isWholeWrongLength_12 : decode b_Host_isWholeWrongLength 12 = .ok (.aload_n 0, 1) := by decide +kernel
theorem d_Host_isWholeWrongLength_13 : decode b_Host_isWholeWrongLength 13 = .ok (.getfield 18, 3) := by decide +kernel
theorem d_Host_isWholeWrongLength_16 : decode b_Host_isWholeWrongLength 16 = .ok (.iload_n 1, 1) := by decide +kernel
theorem d_Host_isWholeWrongLength_17 : decode b_Host_isWholeWrongLength 17 = .ok (.iconst 1, 1) := by decide +kernel
theorem d_Host_isWholeWrongLength_18 : decode b_Host_isWholeWrongLength 18 = .ok (.isub, 1) := by decide +kernel
theorem d_Host_isWholeWrongLength_19 : decode b_Host_isWholeWrongLength 19 = .ok (.invokevirtual 102, 3) := by decide +kernel
theorem d_Host_isWholeWrongLength_22 : decode b_Host_isWholeWrongLength 22 = .ok (.bipush 46, 2) := by decide +kernel
theorem d_Host_isWholeWrongLength_24 : decode b_Host_isWholeWrongLength 24 = .ok (.if_icmp .ne 6, 3) := by decide +kernel
theorem d_Host_isWholeWrongLength_27 : decode b_Host_isWholeWrongLength 27 = .ok (.iinc 1 ( -1), 3) := by decide +kernel
theorem d_Host_isWholeWrongLength_30 : decode b_Host_isWholeWrongLength 30 = .ok (.iload_n 1, 1) := by decide +kernel
theorem d_Host_isWholeWrongLength_31 : decode b_Host_isWholeWrongLength 31 = .ok (.ifCond .eq 9, 3) := by decide +kernel
theorem d_Host_isWholeWrongLength_34 : decode b_Host_isWholeWrongLength 34 = .ok (.iload_n 1, 1) := by decide +kernel
theorem d_Host_isWholeWrongLength_35 : decode b_Host_isWholeWrongLength 35 = .ok (.bipush 60, 2) := by decide +kernel
theorem d_Host_isWholeWrongLength_37 : decode b_Host_isWholeWrongLength 37 = .ok (.if_icmp .le 7, 3) := by decide +kernel
theorem d_Host_isWholeWrongLength_40 : decode b_Host_isWholeWrongLength 40 = .ok (.iconst 1, 1) := by decide +kernel
theorem d_Host_isWholeWrongLength_41 : decode b_Host_isWholeWrongLength 41 = .ok (.goto 4, 3) := by decide +kernel
theorem d_Host_isWholeWrongLength_44 : decode b_Host_isWholeWrongLength 44 = .ok (.iconst 0, 1) := by decide +kernel
theorem d_Host_isWholeWrongLength_45 : decode b_Host_isWholeWrongLength 45 = .ok (.ireturn, 1) := by decide +kernel
