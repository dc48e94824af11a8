theorem dX12_gives_98 : decode cX12_gives 98 = .ok (.iaload, 1) := by decide +kernel
theorem dX12_gives_99 : decode cX12_gives 99 = .ok (.invokevirtual 257, 3) := by decide +kernel
theorem dX12_gives_102 : decode cX12_gives 102 = .ok (.ireturn, 1) := by decide +kernel
theorem dX12_gives_103 : decode cX12_gives 103 = .ok (.aload_n 0, 1) := by decide +kernel
theorem dX12_gives_104 : decode cX12_gives 104 = .ok (.getfield 19, 3) := by decide +kernel
theorem dX12_gives_107 : decode cX12_gives 107 = .ok (.iconst 2, 1) := by decide +kernel
theorem dX12_gives_108 : decode cX12_gives 108 = .ok (.iaload, 1) := by decide +kernel
theorem dX12_gives_109 : decode cX12_gives 109 = .ok (.ireturn, 1) := by decide +kernel
theorem dX12_gives_110 : decode cX12_gives 110 = .ok (.aload_n 0, 1) := by decide +kernel
theorem dX12_gives_111 : decode cX12_gives 111 = .ok (.iload_n 1, 1) := by decide +kernel
theorem dX12_gives_112 : decode cX12_gives 112 = .ok (.aload_n 0, 1) := by decide +kernel
theorem dX12_gives_113 : decode cX12_gives 113 = .ok (.getfield 19, 3) := by decide +kernel
theorem dX12_gives_116 : decode cX12_gives 116 = .ok (.iconst 5, 1) := by decide +kernel
theorem dX12_gives_117 : decode cX12_gives 117 = .ok (.iaload, 1) := by decide +kernel
theorem dX12_gives_118 : decode cX12_gives 118 = .ok (.invokevirtual 260, 3) := by decide +kernel
theorem dX12_gives_121 : decode cX12_gives 121 = .ok (.ireturn, 1) := by decide +kernel
theorem dX12_gives_122 : decode cX12_gives 122 = .ok (.aload_n 0, 1) := by decide +kernel
theorem dX12_gives_123 : decode cX12_gives 123 = .ok (.getfield 19, 3) := by decide +kernel
theorem dX12_gives_126 : decode cX12_gives 126 = .ok (.bipush 6, 2) := by decide +kernel
theorem dX12_gives_128 : decode cX12_gives 128 = .ok (.iaload, 1) := by decide +kernel
theorem dX12_gives_129 : decode cX12_gives 129 = .ok (.ireturn, 1) := by decide +kernel
theorem dX12_bits_0 : decode cX12_bits 0 = .ok (.iconst 0, 1) := by decide +kernel
theorem dX12_bits_1 : decode cX12_bits 1 = .ok (.istore_n 1, 1) := by decide +kernel
theorem dX12_bits_2 : decode cX12_bits 2 = .ok (.iload_n 0, 1) := by decide +kernel
theorem dX12_bits_3 : decode cX12_bits 3 = .ok (.istore_n 2, 1) := by decide +kernel
theorem dX12_bits_4 : decode cX12_bits 4 = .ok (.iload_n 2, 1) := by decide +kernel
theorem dX12_bits_5 : decode cX12_bits 5 = .ok (.ifCond .eq 15, 3) := by decide +kernel
theorem dX12_bits_8 : decode cX12_bits 8 = .ok (.iinc 1 1, 3) := by decide +kernel
theorem dX12_bits_11 : decode cX12_bits 11 = .ok (.iload_n 2, 1) := by decide +kernel
theorem dX12_bits_12 : decode cX12_bits 12 = .ok (.iload_n 2, 1) := by decide +kernel
theorem dX12_bits_13 : decode cX12_bits 13 = .ok (.iconst 1, 1) := by decide +kernel
theorem dX12_bits_14 : decode cX12_bits 14 = .ok (.isub, 1) := by decide +kernel
theorem dX12_bits_15 : decode cX12_bits 15 = .ok (.iand, 1) := by decide +kernel
theorem dX12_bits_16 : decode cX12_bits 16 = .ok (.istore_n 2, 1) := by decide +kernel
theorem dX12_bits_17 : decode cX12_bits 17 = .ok (.goto (-13), 3) := by decide +kernel
theorem dX12_bits_20 : decode cX12_bits 20 = .ok (.iload_n 1, 1) := by decide +kernel
theorem dX12_bits_21 : decode cX12_bits 21 = .ok (.ireturn, 1) := by decide +kernel
theorem dX12_dinner_0 : decode cX12_dinner 0 = .ok (.aload_n 0, 1) := by decide +kernel
theorem dX12_dinner_1 : decode cX12_dinner 1 = .ok (.iconst 0, 1) := by decide +kernel
theorem dX12_dinner_2 : decode cX12_dinner 2 = .ok (.putfield 101, 3) := by decide +kernel
theorem dX12_dinner_5 : decode cX12_dinner 5 = .ok (.iload_n 1, 1) := by decide +kernel
theorem dX12_dinner_6 : decode cX12_dinner 6 = .ok (.i2l, 1) := by decide +kernel
theorem dX12_dinner_7 : decode cX12_dinner 7 = .ok (.lconst 1, 1) := by decide +kernel
theorem dX12_dinner_8 : decode cX12_dinner 8 = .ok (.iconst 1, 1) := by decide +kernel
theorem dX12_dinner_9 : decode cX12_dinner 9 = .ok (.aload_n 0, 1) := by decide +kernel
theorem dX12_dinner_10 : decode cX12_dinner 10 = .ok (.getfield 19, 3) := by decide +kernel
theorem dX12_dinner_13 : decode cX12_dinner 13 = .ok (.bipush 16, 2) := by decide +kernel
theorem dX12_dinner_15 : decode cX12_dinner 15 = .ok (.iaload, 1) := by decide +kernel
theorem dX12_dinner_16 : decode cX12_dinner 16 = .ok (.ishl, 1) := by decide +kernel
theorem dX12_dinner_17 : decode cX12_dinner 17 = .ok (.iconst 1, 1) := by decide +kernel
theorem dX12_dinner_18 : decode cX12_dinner 18 = .ok (.isub, 1) := by decide +kernel
theorem dX12_dinner_19 : decode cX12_dinner 19 = .ok (.i2l, 1) := by decide +kernel
theorem dX12_dinner_20 : decode cX12_dinner 20 = .ok (.invokestatic 111, 3) := by decide +kernel
theorem dX12_dinner_23 : decode cX12_dinner 23 = .ok (.ifCond .eq 11, 3) := by decide +kernel
theorem dX12_dinner_26 : decode cX12_dinner 26 = .ok (.iload_n 1, 1) := by decide +kernel
theorem dX12_dinner_27 : decode cX12_dinner 27 = .ok (.invokestatic 263, 3) := by decide +kernel
theorem dX12_dinner_30 : decode cX12_dinner 30 = .ok (.iconst 4, 1) := by decide +kernel
theorem dX12_dinner_31 : decode cX12_dinner 31 = .ok (.if_icmp .le 6, 3) := by decide +kernel
theorem dX12_dinner_34 : decode cX12_dinner 34 = .ok (.ldc 121, 2) := by decide +kernel
theorem dX12_dinner_36 : decode cX12_dinner 36 = .ok (.ireturn, 1) := by decide +kernel
theorem dX12_dinner_37 : decode cX12_dinner 37 = .ok (.aload_n 0, 1) := by decide +kernel
theorem dX12_dinner_38 : decode cX12_dinner 38 = .ok (.getfield 19, 3) := by decide +kernel
theorem dX12_dinner_41 : decode cX12_dinner 41 = .ok (.sipush 202, 3) := by decide +kernel
theorem dX12_dinner_44 : decode cX12_dinner 44 = .ok (.iload_n 1, 1) := by decide +kernel
theorem dX12_dinner_45 : decode cX12_dinner 45 = .ok (.iastore, 1) := by decide +kernel
theorem dX12_dinner_46 : decode cX12_dinner 46 = .ok (.aload_n 0, 1) := by decide +kernel
theorem dX12_dinner_47 : decode cX12_dinner 47 = .ok (.invokevirtual 225, 3) := by decide +kernel
theorem dX12_dinner_50 : decode cX12_dinner 50 = .ok (.iload_n 1, 1) := by decide +kernel
theorem dX12_dinner_51 : decode cX12_dinner 51 = .ok (.invokestatic 263, 3) := by decide +kernel
theorem dX12_dinner_54 : decode cX12_dinner 54 = .ok (.ireturn, 1) := by decide +kernel
theorem dX12_out_0 : decode cX12_out 0 = .ok (.aload_n 0, 1) := by decide +kernel
theorem dX12_out_1 : decode cX12_out 1 = .ok (.iconst 0, 1) := by decide +kernel
theorem dX12_out_2 : decode cX12_out 2 = .ok (.putfield 101, 3) := by decide +kernel
theorem dX12_out_5 : decode cX12_out 5 = .ok (.iload_n 1, 1) := by decide +kernel
theorem dX12_out_6 : decode cX12_out 6 = .ok (.i2l, 1) := by decide +kernel
theorem dX12_out_7 : decode cX12_out 7 = .ok (.lconst 0, 1) := by decide +kernel
theorem dX12_out_8 : decode cX12_out 8 = .ok (.ldc2_w 266, 3) := by decide +kernel
theorem dX12_out_11 : decode cX12_out 11 = .ok (.invokestatic 111, 3) := by decide +kernel
theorem dX12_out_14 : decode cX12_out 14 = .ok (.ifCond .ne 6, 3) := by decide +kernel
theorem dX12_out_17 : decode cX12_out 17 = .ok (.ldc 121, 2) := by decide +kernel
theorem dX12_out_19 : decode cX12_out 19 = .ok (.ireturn, 1) := by decide +kernel
theorem dX12_out_20 : decode cX12_out 20 = .ok (.aload_n 0, 1) := by decide +kernel
theorem dX12_out_21 : decode cX12_out 21 = .ok (.getfield 221, 3) := by decide +kernel
theorem dX12_out_24 : decode cX12_out 24 = .ok (.ifCond .eq 12, 3) := by decide +kernel
theorem dX12_out_27 : decode cX12_out 27 = .ok (.aload_n 0, 1) := by decide +kernel
theorem dX12_out_28 : decode cX12_out 28 = .ok (.getfield 19, 3) := by decide +kernel
theorem dX12_out_31 : decode cX12_out 31 = .ok (.iconst 1, 1) := by decide +kernel
theorem dX12_out_32 : decode cX12_out 32 = .ok (.iaload, 1) := by decide +kernel
theorem dX12_out_33 : decode cX12_out 33 = .ok (.ifCond .ne 6, 3) := by decide +kernel
theorem dX12_out_36 : decode cX12_out 36 = .ok (.ldc 253, 2) := by decide +kernel
theorem dX12_out_38 : decode cX12_out 38 = .ok (.ireturn, 1) := by decide +kernel
theorem dX12_out_39 : decode cX12_out 39 = .ok (.aload_n 0, 1) := by decide +kernel
theorem dX12_out_40 : decode cX12_out 40 = .ok (.getfield 19, 3) := by decide +kernel
theorem dX12_out_43 : decode cX12_out 43 = .ok (.sipush 203, 3) := by decide +kernel
theorem dX12_out_46 : decode cX12_out 46 = .ok (.iload_n 1, 1) := by decide +kernel
theorem dX12_out_47 : decode cX12_out 47 = .ok (.iastore, 1) := by decide +kernel
theorem dX12_out_48 : decode cX12_out 48 = .ok (.aload_n 0, 1) := by decide +kernel
theorem dX12_out_49 : decode cX12_out 49 = .ok (.invokevirtual 225, 3) := by decide +kernel
theorem dX12_out_52 : decode cX12_out 52 = .ok (.iconst 1, 1) := by decide +kernel
theorem dX12_out_53 : decode cX12_out 53 = .ok (.ireturn, 1) := by decide +kernel
theorem dX12_clearLevel_0 : decode cX12_clearLevel 0 = .ok (.iconst 0, 1) := by decide +kernel
theorem dX12_clearLevel_1 : decode cX12_clearLevel 1 = .ok (.istore_n 1, 1) := by decide +kernel
theorem dX12_clearLevel_2 : decode cX12_clearLevel 2 = .ok (.iload_n 1, 1) := by decide +kernel
theorem dX12_clearLevel_3 : decode cX12_clearLevel 3 = .ok (.bipush 60, 2) := by decide +kernel
theorem dX12_clearLevel_5 : decode cX12_clearLevel 5 = .ok (.if_icmp .ge 59, 3) := by decide +kernel
theorem dX12_clearLevel_8 : decode cX12_clearLevel 8 = .ok (.aload_n 0, 1) := by decide +kernel
theorem dX12_clearLevel_9 : decode cX12_clearLevel 9 = .ok (.getfield 28, 3) := by decide +kernel
theorem dX12_clearLevel_12 : decode cX12_clearLevel 12 = .ok (.iload_n 1, 1) := by decide +kernel
theorem dX12_clearLevel_13 : decode cX12_clearLevel 13 = .ok (.iconst 0, 1) := by decide +kernel
theorem dX12_clearLevel_14 : decode cX12_clearLevel 14 = .ok (.iastore, 1) := by decide +kernel
theorem dX12_clearLevel_15 : decode cX12_clearLevel 15 = .ok (.aload_n 0, 1) := by decide +kernel
theorem dX12_clearLevel_16 : decode cX12_clearLevel 16 = .ok (.getfield 31, 3) := by decide +kernel
theorem dX12_clearLevel_19 : decode cX12_clearLevel 19 = .ok (.iload_n 1, 1) := by decide +kernel
theorem dX12_clearLevel_20 : decode cX12_clearLevel 20 = .ok (.iconst 0, 1) := by decide +kernel
theorem dX12_clearLevel_21 : decode cX12_clearLevel 21 = .ok (.iastore, 1) := by decide +kernel
theorem dX12_clearLevel_22 : decode cX12_clearLevel 22 = .ok (.aload_n 0, 1) := by decide +kernel
theorem dX12_clearLevel_23 : decode cX12_clearLevel 23 = .ok (.getfield 34, 3) := by decide +kernel
theorem dX12_clearLevel_26 : decode cX12_clearLevel 26 = .ok (.iload_n 1, 1) := by decide +kernel
theorem dX12_clearLevel_27 : decode cX12_clearLevel 27 = .ok (.iconst 0, 1) := by decide +kernel
theorem dX12_clearLevel_28 : decode cX12_clearLevel 28 = .ok (.iastore, 1) := by decide +kernel
theorem dX12_clearLevel_29 : decode cX12_clearLevel 29 = .ok (.aload_n 0, 1) := by decide +kernel
theorem dX12_clearLevel_30 : decode cX12_clearLevel 30 = .ok (.getfield 37, 3) := by decide +kernel
theorem dX12_clearLevel_33 : decode cX12_clearLevel 33 = .ok (.iload_n 1, 1) := by decide +kernel
theorem dX12_clearLevel_34 : decode cX12_clearLevel 34 = .ok (.iconst 0, 1) := by decide +kernel
theorem dX12_clearLevel_35 : decode cX12_clearLevel 35 = .ok (.iastore, 1) := by decide +kernel
theorem dX12_clearLevel_36 : decode cX12_clearLevel 36 = .ok (.aload_n 0, 1) := by decide +kernel
theorem dX12_clearLevel_37 : decode cX12_clearLevel 37 = .ok (.getfield 40, 3) := by decide +kernel
theorem dX12_clearLevel_40 : decode cX12_clearLevel 40 = .ok (.iload_n 1, 1) := by decide +kernel
theorem dX12_clearLevel_41 : decode cX12_clearLevel 41 = .ok (.iconst 0, 1) := by decide +kernel
theorem dX12_clearLevel_42 : decode cX12_clearLevel 42 = .ok (.iastore, 1) := by decide +kernel
theorem dX12_clearLevel_43 : decode cX12_clearLevel 43 = .ok (.aload_n 0, 1) := by decide +kernel
theorem dX12_clearLevel_44 : decode cX12_clearLevel 44 = .ok (.getfield 43, 3) := by decide +kernel
theorem dX12_clearLevel_47 : decode cX12_clearLevel 47 = .ok (.iload_n 1, 1) := by decide +kernel
theorem dX12_clearLevel_48 : decode cX12_clearLevel 48 = .ok (.iconst 0, 1) := by decide +kernel
theorem dX12_clearLevel_49 : decode cX12_clearLevel 49 = .ok (.iastore, 1) := by decide +kernel
theorem dX12_clearLevel_50 : decode cX12_clearLevel 50 = .ok (.aload_n 0, 1) := by decide +kernel
theorem dX12_clearLevel_51 : decode cX12_clearLevel 51 = .ok (.getfield 46, 3) := by decide +kernel
theorem dX12_clearLevel_54 : decode cX12_clearLevel 54 = .ok (.iload_n 1, 1) := by decide +kernel
theorem dX12_clearLevel_55 : decode cX12_clearLevel 55 = .ok (.bipush 9, 2) := by decide +kernel
theorem dX12_clearLevel_57 : decode cX12_clearLevel 57 = .ok (.iastore, 1) := by decide +kernel
theorem dX12_clearLevel_58 : decode cX12_clearLevel 58 = .ok (.iinc 1 1, 3) := by decide +kernel
theorem dX12_clearLevel_61 : decode cX12_clearLevel 61 = .ok (.goto (-59), 3) := by decide +kernel
theorem dX12_clearLevel_64 : decode cX12_clearLevel 64 = .ok (.return_, 1) := by decide +kernel
theorem dX12_copyLevel_0 : decode cX12_copyLevel 0 = .ok (.bipush 60, 2) := by decide +kernel
theorem dX12_copyLevel_2 : decode cX12_copyLevel 2 = .ok (.iload_n 1, 1) := by decide +kernel
theorem dX12_copyLevel_3 : decode cX12_copyLevel 3 = .ok (.imul, 1) := by decide +kernel
theorem dX12_copyLevel_4 : decode cX12_copyLevel 4 = .ok (.istore_n 2, 1) := by decide +kernel
theorem dX12_copyLevel_5 : decode cX12_copyLevel 5 = .ok (.iload_n 2, 1) := by decide +kernel
theorem dX12_copyLevel_6 : decode cX12_copyLevel 6 = .ok (.bipush 60, 2) := by decide +kernel
theorem dX12_copyLevel_8 : decode cX12_copyLevel 8 = .ok (.iload_n 1, 1) := by decide +kernel
theorem dX12_copyLevel_9 : decode cX12_copyLevel 9 = .ok (.imul, 1) := by decide +kernel
theorem dX12_copyLevel_10 : decode cX12_copyLevel 10 = .ok (.bipush 60, 2) := by decide +kernel
theorem dX12_copyLevel_12 : decode cX12_copyLevel 12 = .ok (.iadd, 1) := by decide +kernel
theorem dX12_copyLevel_13 : decode cX12_copyLevel 13 = .ok (.if_icmp .ge 114, 3) := by decide +kernel
theorem dX12_copyLevel_16 : decode cX12_copyLevel 16 = .ok (.aload_n 0, 1) := by decide +kernel
theorem dX12_copyLevel_17 : decode cX12_copyLevel 17 = .ok (.getfield 28, 3) := by decide +kernel
theorem dX12_copyLevel_20 : decode cX12_copyLevel 20 = .ok (.iload_n 2, 1) := by decide +kernel
theorem dX12_copyLevel_21 : decode cX12_copyLevel 21 = .ok (.aload_n 0, 1) := by decide +kernel
theorem dX12_copyLevel_22 : decode cX12_copyLevel 22 = .ok (.getfield 28, 3) := by decide +kernel
theorem dX12_copyLevel_25 : decode cX12_copyLevel 25 = .ok (.iload_n 2, 1) := by decide +kernel
theorem dX12_copyLevel_26 : decode cX12_copyLevel 26 = .ok (.bipush 60, 2) := by decide +kernel
theorem dX12_copyLevel_28 : decode cX12_copyLevel 28 = .ok (.isub, 1) := by decide +kernel
theorem dX12_copyLevel_29 : decode cX12_copyLevel 29 = .ok (.iaload, 1) := by decide +kernel
theorem dX12_copyLevel_30 : decode cX12_copyLevel 30 = .ok (.iastore, 1) := by decide +kernel
theorem dX12_copyLevel_31 : decode cX12_copyLevel 31 = .ok (.aload_n 0, 1) := by decide +kernel
theorem dX12_copyLevel_32 : decode cX12_copyLevel 32 = .ok (.getfield 31, 3) := by decide +kernel
theorem dX12_copyLevel_35 : decode cX12_copyLevel 35 = .ok (.iload_n 2, 1) := by decide +kernel
theorem dX12_copyLevel_36 : decode cX12_copyLevel 36 = .ok (.aload_n 0, 1) := by decide +kernel
theorem dX12_copyLevel_37 : decode cX12_copyLevel 37 = .ok (.getfield 31, 3) := by decide +kernel
theorem dX12_copyLevel_40 : decode cX12_copyLevel 40 = .ok (.iload_n 2, 1) := by decide +kernel
theorem dX12_copyLevel_41 : decode cX12_copyLevel 41 = .ok (.bipush 60, 2) := by decide +kernel
theorem dX12_copyLevel_43 : decode cX12_copyLevel 43 = .ok (.isub, 1) := by decide +kernel
theorem dX12_copyLevel_44 : decode cX12_copyLevel 44 = .ok (.iaload, 1) := by decide +kernel
theorem dX12_copyLevel_45 : decode cX12_copyLevel 45 = .ok (.iastore, 1) := by decide +kernel
theorem dX12_copyLevel_46 : decode cX12_copyLevel 46 = .ok (.aload_n 0, 1) := by decide +kernel
theorem dX12_copyLevel_47 : decode cX12_copyLevel 47 = .ok (.getfield 34, 3) := by decide +kernel
theorem dX12_copyLevel_50 : decode cX12_copyLevel 50 = .ok (.iload_n 2, 1) := by decide +kernel
theorem dX12_copyLevel_51 : decode cX12_copyLevel 51 = .ok (.aload_n 0, 1) := by decide +kernel
theorem dX12_copyLevel_52 : decode cX12_copyLevel 52 = .ok (.getfield 34, 3) := by decide +kernel
theorem dX12_copyLevel_55 : decode cX12_copyLevel 55 = .ok (.iload_n 2, 1) := by decide +kernel
theorem dX12_copyLevel_56 : decode cX12_copyLevel 56 = .ok (.bipush 60, 2) := by decide +kernel
theorem dX12_copyLevel_58 : decode cX12_copyLevel 58 = .ok (.isub, 1) := by decide +kernel
theorem dX12_copyLevel_59 : decode cX12_copyLevel 59 = .ok (.iaload, 1) := by decide +kernel
theorem dX12_copyLevel_60 : decode cX12_copyLevel 60 = .ok (.iastore, 1) := by decide +kernel
theorem dX12_copyLevel_61 : decode cX12_copyLevel 61 = .ok (.aload_n 0, 1) := by decide +kernel
theorem dX12_copyLevel_62 : decode cX12_copyLevel 62 = .ok (.getfield 37, 3) := by decide +kernel
theorem dX12_copyLevel_65 : decode cX12_copyLevel 65 = .ok (.iload_n 2, 1) := by decide +kernel
theorem dX12_copyLevel_66 : decode cX12_copyLevel 66 = .ok (.aload_n 0, 1) := by decide +kernel
theorem dX12_copyLevel_67 : decode cX12_copyLevel 67 = .ok (.getfield 37, 3) := by decide +kernel
theorem dX12_copyLevel_70 : decode cX12_copyLevel 70 = .ok (.iload_n 2, 1) := by decide +kernel
theorem dX12_copyLevel_71 : decode cX12_copyLevel 71 = .ok (.bipush 60, 2) := by decide +kernel
theorem dX12_copyLevel_73 : decode cX12_copyLevel 73 = .ok (.isub, 1) := by decide +kernel
theorem dX12_copyLevel_74 : decode cX12_copyLevel 74 = .ok (.iaload, 1) := by decide +kernel
theorem dX12_copyLevel_75 : decode cX12_copyLevel 75 = .ok (.iastore, 1) := by decide +kernel
theorem dX12_copyLevel_76 : decode cX12_copyLevel 76 = .ok (.aload_n 0, 1) := by decide +kernel
theorem dX12_copyLevel_77 : decode cX12_copyLevel 77 = .ok (.getfield 40, 3) := by decide +kernel
theorem dX12_copyLevel_80 : decode cX12_copyLevel 80 = .ok (.iload_n 2, 1) := by decide +kernel
theorem dX12_copyLevel_81 : decode cX12_copyLevel 81 = .ok (.aload_n 0, 1) := by decide +kernel
theorem dX12_copyLevel_82 : decode cX12_copyLevel 82 = .ok (.getfield 40, 3) := by decide +kernel
theorem dX12_copyLevel_85 : decode cX12_copyLevel 85 = .ok (.iload_n 2, 1) := by decide +kernel
theorem dX12_copyLevel_86 : decode cX12_copyLevel 86 = .ok (.bipush 60, 2) := by decide +kernel
theorem dX12_copyLevel_88 : decode cX12_copyLevel 88 = .ok (.isub, 1) := by decide +kernel
theorem dX12_copyLevel_89 : decode cX12_copyLevel 89 = .ok (.iaload, 1) := by decide +kernel
theorem dX12_copyLevel_90 : decode cX12_copyLevel 90 = .ok (.iastore, 1) := by decide +kernel
theorem dX12_copyLevel_91 : decode cX12_copyLevel 91 = .ok (.aload_n 0, 1) := by decide +kernel
theorem dX12_copyLevel_92 : decode cX12_copyLevel 92 = .ok (.getfield 43, 3) := by decide +kernel
theorem dX12_copyLevel_95 : decode cX12_copyLevel 95 = .ok (.iload_n 2, 1) := by decide +kernel
theorem dX12_copyLevel_96 : decode cX12_copyLevel 96 = .ok (.aload_n 0, 1) := by decide +kernel
theorem dX12_copyLevel_97 : decode cX12_copyLevel 97 = .ok (.getfield 43, 3) := by decide +kernel
theorem dX12_copyLevel_100 : decode cX12_copyLevel 100 = .ok (.iload_n 2, 1) := by decide +kernel
theorem dX12_copyLevel_101 : decode cX12_copyLevel 101 = .ok (.bipush 60, 2) := by decide +kernel
theorem dX12_copyLevel_103 : decode cX12_copyLevel 103 = .ok (.isub, 1) := by decide +kernel
theorem dX12_copyLevel_104 : decode cX12_copyLevel 104 = .ok (.iaload, 1) := by decide +kernel
theorem dX12_copyLevel_105 : decode cX12_copyLevel 105 = .ok (.iastore, 1) := by decide +kernel
theorem dX12_copyLevel_106 : decode cX12_copyLevel 106 = .ok (.aload_n 0, 1) := by decide +kernel
theorem dX12_copyLevel_107 : decode cX12_copyLevel 107 = .ok (.getfield 46, 3) := by decide +kernel
theorem dX12_copyLevel_110 : decode cX12_copyLevel 110 = .ok (.iload_n 2, 1) := by decide +kernel
theorem dX12_copyLevel_111 : decode cX12_copyLevel 111 = .ok (.aload_n 0, 1) := by decide +kernel
theorem dX12_copyLevel_112 : decode cX12_copyLevel 112 = .ok (.getfield 46, 3) := by decide +kernel
theorem dX12_copyLevel_115 : decode cX12_copyLevel 115 = .ok (.iload_n 2, 1) := by decide +kernel
theorem dX12_copyLevel_116 : decode cX12_copyLevel 116 = .ok (.bipush 60, 2) := by decide +kernel
theorem dX12_copyLevel_118 : decode cX12_copyLevel 118 = .ok (.isub, 1) := by decide +kernel
theorem dX12_copyLevel_119 : decode cX12_copyLevel 119 = .ok (.iaload, 1) := by decide +kernel
theorem dX12_copyLevel_120 : decode cX12_copyLevel 120 = .ok (.iastore, 1) := by decide +kernel
theorem dX12_copyLevel_121 : decode cX12_copyLevel 121 = .ok (.iinc 2 1, 3) := by decide +kernel
theorem dX12_copyLevel_124 : decode cX12_copyLevel 124 = .ok (.goto (-119), 3) := by decide +kernel
theorem dX12_copyLevel_127 : decode cX12_copyLevel 127 = .ok (.return_, 1) := by decide +kernel
theorem dX12_addStep_0 : decode cX12_addStep 0 = .ok (.aload_n 0, 1) := by decide +kernel
theorem dX12_addStep_1 : decode cX12_addStep 1 = .ok (.iload_n 2, 1) := by decide +kernel
theorem dX12_addStep_2 : decode cX12_addStep 2 = .ok (.iconst 0, 1) := by decide +kernel
theorem dX12_addStep_3 : decode cX12_addStep 3 = .ok (.invokevirtual 232, 3) := by decide +kernel
theorem dX12_addStep_6 : decode cX12_addStep 6 = .ok (.istore 5, 2) := by decide +kernel
theorem dX12_addStep_8 : decode cX12_addStep 8 = .ok (.iconst 0, 1) := by decide +kernel
theorem dX12_addStep_9 : decode cX12_addStep 9 = .ok (.istore 6, 2) := by decide +kernel
theorem dX12_addStep_11 : decode cX12_addStep 11 = .ok (.iload 6, 2) := by decide +kernel
theorem dX12_addStep_13 : decode cX12_addStep 13 = .ok (.iload 4, 2) := by decide +kernel
theorem dX12_addStep_15 : decode cX12_addStep 15 = .ok (.if_icmp .ge 207, 3) := by decide +kernel
theorem dX12_addStep_18 : decode cX12_addStep 18 = .ok (.bipush 60, 2) := by decide +kernel
theorem dX12_addStep_20 : decode cX12_addStep 20 = .ok (.iload_n 1, 1) := by decide +kernel
theorem dX12_addStep_21 : decode cX12_addStep 21 = .ok (.imul, 1) := by decide +kernel
theorem dX12_addStep_22 : decode cX12_addStep 22 = .ok (.iload_n 3, 1) := by decide +kernel
theorem dX12_addStep_23 : decode cX12_addStep 23 = .ok (.iadd, 1) := by decide +kernel
theorem dX12_addStep_24 : decode cX12_addStep 24 = .ok (.iload 6, 2) := by decide +kernel
theorem dX12_addStep_26 : decode cX12_addStep 26 = .ok (.iadd, 1) := by decide +kernel
theorem dX12_addStep_27 : decode cX12_addStep 27 = .ok (.istore 7, 2) := by decide +kernel
theorem dX12_addStep_29 : decode cX12_addStep 29 = .ok (.aload_n 0, 1) := by decide +kernel
theorem dX12_addStep_30 : decode cX12_addStep 30 = .ok (.getfield 31, 3) := by decide +kernel
theorem dX12_addStep_33 : decode cX12_addStep 33 = .ok (.iload 7, 2) := by decide +kernel
theorem dX12_addStep_35 : decode cX12_addStep 35 = .ok (.dup2, 1) := by decide +kernel
theorem dX12_addStep_36 : decode cX12_addStep 36 = .ok (.iaload, 1) := by decide +kernel
theorem dX12_addStep_37 : decode cX12_addStep 37 = .ok (.iload 5, 2) := by decide +kernel
theorem dX12_addStep_39 : decode cX12_addStep 39 = .ok (.iconst 1, 1) := by decide +kernel
theorem dX12_addStep_40 : decode cX12_addStep 40 = .ok (.if_icmp .ne 7, 3) := by decide +kernel
theorem dX12_addStep_43 : decode cX12_addStep 43 = .ok (.iconst 1, 1) := by decide +kernel
theorem dX12_addStep_44 : decode cX12_addStep 44 = .ok (.goto 4, 3) := by decide +kernel
theorem dX12_addStep_47 : decode cX12_addStep 47 = .ok (.iconst 0, 1) := by decide +kernel
theorem dX12_addStep_48 : decode cX12_addStep 48 = .ok (.iadd, 1) := by decide +kernel
theorem dX12_addStep_49 : decode cX12_addStep 49 = .ok (.iastore, 1) := by decide +kernel
theorem dX12_addStep_50 : decode cX12_addStep 50 = .ok (.aload_n 0, 1) := by decide +kernel
theorem dX12_addStep_51 : decode cX12_addStep 51 = .ok (.getfield 28, 3) := by decide +kernel
theorem dX12_addStep_54 : decode cX12_addStep 54 = .ok (.iload 7, 2) := by decide +kernel
theorem dX12_addStep_56 : decode cX12_addStep 56 = .ok (.dup2, 1) := by decide +kernel
theorem dX12_addStep_57 : decode cX12_addStep 57 = .ok (.iaload, 1) := by decide +kernel
theorem dX12_addStep_58 : decode cX12_addStep 58 = .ok (.iload 5, 2) := by decide +kernel
theorem dX12_addStep_60 : decode cX12_addStep 60 = .ok (.iconst 1, 1) := by decide +kernel
theorem dX12_addStep_61 : decode cX12_addStep 61 = .ok (.if_icmp .ne 17, 3) := by decide +kernel
theorem dX12_addStep_64 : decode cX12_addStep 64 = .ok (.aload_n 0, 1) := by decide +kernel
theorem dX12_addStep_65 : decode cX12_addStep 65 = .ok (.iload_n 2, 1) := by decide +kernel
theorem dX12_addStep_66 : decode cX12_addStep 66 = .ok (.iconst 4, 1) := by decide +kernel
theorem dX12_addStep_67 : decode cX12_addStep 67 = .ok (.invokevirtual 232, 3) := by decide +kernel
theorem dX12_addStep_70 : decode cX12_addStep 70 = .ok (.iconst 1, 1) := by decide +kernel
theorem dX12_addStep_71 : decode cX12_addStep 71 = .ok (.if_icmp .ne 7, 3) := by decide +kernel
theorem dX12_addStep_74 : decode cX12_addStep 74 = .ok (.iconst 1, 1) := by decide +kernel
theorem dX12_addStep_75 : decode cX12_addStep 75 = .ok (.goto 4, 3) := by decide +kernel
theorem dX12_addStep_78 : decode cX12_addStep 78 = .ok (.iconst 0, 1) := by decide +kernel
theorem dX12_addStep_79 : decode cX12_addStep 79 = .ok (.iadd, 1) := by decide +kernel
theorem dX12_addStep_80 : decode cX12_addStep 80 = .ok (.iastore, 1) := by decide +kernel
theorem dX12_addStep_81 : decode cX12_addStep 81 = .ok (.iload 5, 2) := by decide +kernel
theorem dX12_addStep_83 : decode cX12_addStep 83 = .ok (.iconst 2, 1) := by decide +kernel
theorem dX12_addStep_84 : decode cX12_addStep 84 = .ok (.if_icmp .ne 92, 3) := by decide +kernel
theorem dX12_addStep_87 : decode cX12_addStep 87 = .ok (.aload_n 0, 1) := by decide +kernel
theorem dX12_addStep_88 : decode cX12_addStep 88 = .ok (.getfield 34, 3) := by decide +kernel
theorem dX12_addStep_91 : decode cX12_addStep 91 = .ok (.iload 7, 2) := by decide +kernel
theorem dX12_addStep_93 : decode cX12_addStep 93 = .ok (.dup2, 1) := by decide +kernel
theorem dX12_addStep_94 : decode cX12_addStep 94 = .ok (.iaload, 1) := by decide +kernel
theorem dX12_addStep_95 : decode cX12_addStep 95 = .ok (.iconst 1, 1) := by decide +kernel
theorem dX12_addStep_96 : decode cX12_addStep 96 = .ok (.iadd, 1) := by decide +kernel
theorem dX12_addStep_97 : decode cX12_addStep 97 = .ok (.iastore, 1) := by decide +kernel
theorem dX12_addStep_98 : decode cX12_addStep 98 = .ok (.aload_n 0, 1) := by decide +kernel
theorem dX12_addStep_99 : decode cX12_addStep 99 = .ok (.getfield 43, 3) := by decide +kernel
theorem dX12_addStep_102 : decode cX12_addStep 102 = .ok (.iload 7, 2) := by decide +kernel
theorem dX12_addStep_104 : decode cX12_addStep 104 = .ok (.aload_n 0, 1) := by decide +kernel
theorem dX12_addStep_105 : decode cX12_addStep 105 = .ok (.iload_n 2, 1) := by decide +kernel
theorem dX12_addStep_106 : decode cX12_addStep 106 = .ok (.iconst 4, 1) := by decide +kernel
theorem dX12_addStep_107 : decode cX12_addStep 107 = .ok (.invokevirtual 232, 3) := by decide +kernel
theorem dX12_addStep_110 : decode cX12_addStep 110 = .ok (.aload_n 0, 1) := by decide +kernel
theorem dX12_addStep_111 : decode cX12_addStep 111 = .ok (.getfield 43, 3) := by decide +kernel
theorem dX12_addStep_114 : decode cX12_addStep 114 = .ok (.iload 7, 2) := by decide +kernel
theorem dX12_addStep_116 : decode cX12_addStep 116 = .ok (.iaload, 1) := by decide +kernel
theorem dX12_addStep_117 : decode cX12_addStep 117 = .ok (.if_icmp .le 12, 3) := by decide +kernel
theorem dX12_addStep_120 : decode cX12_addStep 120 = .ok (.aload_n 0, 1) := by decide +kernel
theorem dX12_addStep_121 : decode cX12_addStep 121 = .ok (.iload_n 2, 1) := by decide +kernel
theorem dX12_addStep_122 : decode cX12_addStep 122 = .ok (.iconst 4, 1) := by decide +kernel
theorem dX12_addStep_123 : decode cX12_addStep 123 = .ok (.invokevirtual 232, 3) := by decide +kernel
theorem dX12_addStep_126 : decode cX12_addStep 126 = .ok (.goto 10, 3) := by decide +kernel
theorem dX12_addStep_129 : decode cX12_addStep 129 = .ok (.aload_n 0, 1) := by decide +kernel
theorem dX12_addStep_130 : decode cX12_addStep 130 = .ok (.getfield 43, 3) := by decide +kernel
theorem dX12_addStep_133 : decode cX12_addStep 133 = .ok (.iload 7, 2) := by decide +kernel
theorem dX12_addStep_135 : decode cX12_addStep 135 = .ok (.iaload, 1) := by decide +kernel
theorem dX12_addStep_136 : decode cX12_addStep 136 = .ok (.iastore, 1) := by decide +kernel
theorem dX12_addStep_137 : decode cX12_addStep 137 = .ok (.aload_n 0, 1) := by decide +kernel
theorem dX12_addStep_138 : decode cX12_addStep 138 = .ok (.getfield 46, 3) := by decide +kernel
theorem dX12_addStep_141 : decode cX12_addStep 141 = .ok (.iload 7, 2) := by decide +kernel
theorem dX12_addStep_143 : decode cX12_addStep 143 = .ok (.aload_n 0, 1) := by decide +kernel
theorem dX12_addStep_144 : decode cX12_addStep 144 = .ok (.iload_n 2, 1) := by decide +kernel
theorem dX12_addStep_145 : decode cX12_addStep 145 = .ok (.iconst 5, 1) := by decide +kernel
theorem dX12_addStep_146 : decode cX12_addStep 146 = .ok (.invokevirtual 232, 3) := by decide +kernel
theorem dX12_addStep_149 : decode cX12_addStep 149 = .ok (.aload_n 0, 1) := by decide +kernel
theorem dX12_addStep_150 : decode cX12_addStep 150 = .ok (.getfield 46, 3) := by decide +kernel
theorem dX12_addStep_153 : decode cX12_addStep 153 = .ok (.iload 7, 2) := by decide +kernel
theorem dX12_addStep_155 : decode cX12_addStep 155 = .ok (.iaload, 1) := by decide +kernel
theorem dX12_addStep_156 : decode cX12_addStep 156 = .ok (.if_icmp .ge 12, 3) := by decide +kernel
theorem dX12_addStep_159 : decode cX12_addStep 159 = .ok (.aload_n 0, 1) := by decide +kernel
theorem dX12_addStep_160 : decode cX12_addStep 160 = .ok (.iload_n 2, 1) := by decide +kernel
theorem dX12_addStep_161 : decode cX12_addStep 161 = .ok (.iconst 5, 1) := by decide +kernel
theorem dX12_addStep_162 : decode cX12_addStep 162 = .ok (.invokevirtual 232, 3) := by decide +kernel
theorem dX12_addStep_165 : decode cX12_addStep 165 = .ok (.goto 10, 3) := by decide +kernel
theorem dX12_addStep_168 : decode cX12_addStep 168 = .ok (.aload_n 0, 1) := by decide +kernel
theorem dX12_addStep_169 : decode cX12_addStep 169 = .ok (.getfield 46, 3) := by decide +kernel
theorem dX12_addStep_172 : decode cX12_addStep 172 = .ok (.iload 7, 2) := by decide +kernel
theorem dX12_addStep_174 : decode cX12_addStep 174 = .ok (.iaload, 1) := by decide +kernel
theorem dX12_addStep_175 : decode cX12_addStep 175 = .ok (.iastore, 1) := by decide +kernel
theorem dX12_addStep_176 : decode cX12_addStep 176 = .ok (.aload_n 0, 1) := by decide +kernel
theorem dX12_addStep_177 : decode cX12_addStep 177 = .ok (.getfield 37, 3) := by decide +kernel
theorem dX12_addStep_180 : decode cX12_addStep 180 = .ok (.iload 7, 2) := by decide +kernel
theorem dX12_addStep_182 : decode cX12_addStep 182 = .ok (.dup2, 1) := by decide +kernel
theorem dX12_addStep_183 : decode cX12_addStep 183 = .ok (.iaload, 1) := by decide +kernel
theorem dX12_addStep_184 : decode cX12_addStep 184 = .ok (.aload_n 0, 1) := by decide +kernel
theorem dX12_addStep_185 : decode cX12_addStep 185 = .ok (.iload_n 2, 1) := by decide +kernel
theorem dX12_addStep_186 : decode cX12_addStep 186 = .ok (.iconst 3, 1) := by decide +kernel
theorem dX12_addStep_187 : decode cX12_addStep 187 = .ok (.invokevirtual 232, 3) := by decide +kernel
theorem dX12_addStep_190 : decode cX12_addStep 190 = .ok (.iconst 2, 1) := by decide +kernel
theorem dX12_addStep_191 : decode cX12_addStep 191 = .ok (.if_icmp .eq 18, 3) := by decide +kernel
theorem dX12_addStep_194 : decode cX12_addStep 194 = .ok (.aload_n 0, 1) := by decide +kernel
theorem dX12_addStep_195 : decode cX12_addStep 195 = .ok (.iload_n 2, 1) := by decide +kernel
theorem dX12_addStep_196 : decode cX12_addStep 196 = .ok (.iconst 3, 1) := by decide +kernel
theorem dX12_addStep_197 : decode cX12_addStep 197 = .ok (.invokevirtual 232, 3) := by decide +kernel
theorem dX12_addStep_200 : decode cX12_addStep 200 = .ok (.iconst 1, 1) := by decide +kernel
theorem dX12_addStep_201 : decode cX12_addStep 201 = .ok (.if_icmp .ne 12, 3) := by decide +kernel
theorem dX12_addStep_204 : decode cX12_addStep 204 = .ok (.iload 6, 2) := by decide +kernel
theorem dX12_addStep_206 : decode cX12_addStep 206 = .ok (.ifCond .ne 7, 3) := by decide +kernel
theorem dX12_addStep_209 : decode cX12_addStep 209 = .ok (.iconst 1, 1) := by decide +kernel
theorem dX12_addStep_210 : decode cX12_addStep 210 = .ok (.goto 4, 3) := by decide +kernel
theorem dX12_addStep_213 : decode cX12_addStep 213 = .ok (.iconst 0, 1) := by decide +kernel
theorem dX12_addStep_214 : decode cX12_addStep 214 = .ok (.iadd, 1) := by decide +kernel
theorem dX12_addStep_215 : decode cX12_addStep 215 = .ok (.iastore, 1) := by decide +kernel
theorem dX12_addStep_216 : decode cX12_addStep 216 = .ok (.iinc 6 1, 3) := by decide +kernel
theorem dX12_addStep_219 : decode cX12_addStep 219 = .ok (.goto (-208), 3) := by decide +kernel
theorem dX12_addStep_222 : decode cX12_addStep 222 = .ok (.return_, 1) := by decide +kernel
theorem dX12_addPan_0 : decode cX12_addPan 0 = .ok (.bipush 60, 2) := by decide +kernel
theorem dX12_addPan_2 : decode cX12_addPan 2 = .ok (.iload_n 1, 1) := by decide +kernel
theorem dX12_addPan_3 : decode cX12_addPan 3 = .ok (.imul, 1) := by decide +kernel
theorem dX12_addPan_4 : decode cX12_addPan 4 = .ok (.iload_n 2, 1) := by decide +kernel
theorem dX12_addPan_5 : decode cX12_addPan 5 = .ok (.iadd, 1) := by decide +kernel
theorem dX12_addPan_6 : decode cX12_addPan 6 = .ok (.istore 4, 2) := by decide +kernel
theorem dX12_addPan_8 : decode cX12_addPan 8 = .ok (.iload 4, 2) := by decide +kernel
theorem dX12_addPan_10 : decode cX12_addPan 10 = .ok (.bipush 60, 2) := by decide +kernel
theorem dX12_addPan_12 : decode cX12_addPan 12 = .ok (.iload_n 1, 1) := by decide +kernel
theorem dX12_addPan_13 : decode cX12_addPan 13 = .ok (.imul, 1) := by decide +kernel
theorem dX12_addPan_14 : decode cX12_addPan 14 = .ok (.iload_n 3, 1) := by decide +kernel
theorem dX12_addPan_15 : decode cX12_addPan 15 = .ok (.iadd, 1) := by decide +kernel
theorem dX12_addPan_16 : decode cX12_addPan 16 = .ok (.if_icmp .ge 20, 3) := by decide +kernel
theorem dX12_addPan_19 : decode cX12_addPan 19 = .ok (.aload_n 0, 1) := by decide +kernel
theorem dX12_addPan_20 : decode cX12_addPan 20 = .ok (.getfield 40, 3) := by decide +kernel
theorem dX12_addPan_23 : decode cX12_addPan 23 = .ok (.iload 4, 2) := by decide +kernel
theorem dX12_addPan_25 : decode cX12_addPan 25 = .ok (.dup2, 1) := by decide +kernel
theorem dX12_addPan_26 : decode cX12_addPan 26 = .ok (.iaload, 1) := by decide +kernel
theorem dX12_addPan_27 : decode cX12_addPan 27 = .ok (.iconst 1, 1) := by decide +kernel
theorem dX12_addPan_28 : decode cX12_addPan 28 = .ok (.iadd, 1) := by decide +kernel
theorem dX12_addPan_29 : decode cX12_addPan 29 = .ok (.iastore, 1) := by decide +kernel
theorem dX12_addPan_30 : decode cX12_addPan 30 = .ok (.iinc 4 1, 3) := by decide +kernel
theorem dX12_addPan_33 : decode cX12_addPan 33 = .ok (.goto (-25), 3) := by decide +kernel
theorem dX12_addPan_36 : decode cX12_addPan 36 = .ok (.return_, 1) := by decide +kernel
theorem dX12_lacks_0 : decode cX12_lacks 0 = .ok (.iconst 0, 1) := by decide +kernel
theorem dX12_lacks_1 : decode cX12_lacks 1 = .ok (.istore 4, 2) := by decide +kernel
theorem dX12_lacks_3 : decode cX12_lacks 3 = .ok (.iconst 0, 1) := by decide +kernel
theorem dX12_lacks_4 : decode cX12_lacks 4 = .ok (.istore 5, 2) := by decide +kernel
theorem dX12_lacks_6 : decode cX12_lacks 6 = .ok (.iconst 0, 1) := by decide +kernel
theorem dX12_lacks_7 : decode cX12_lacks 7 = .ok (.istore 6, 2) := by decide +kernel
theorem dX12_lacks_9 : decode cX12_lacks 9 = .ok (.iload 6, 2) := by decide +kernel
theorem dX12_lacks_11 : decode cX12_lacks 11 = .ok (.bipush 60, 2) := by decide +kernel
theorem dX12_lacks_13 : decode cX12_lacks 13 = .ok (.if_icmp .ge 237, 3) := by decide +kernel
theorem dX12_lacks_16 : decode cX12_lacks 16 = .ok (.bipush 60, 2) := by decide +kernel
theorem dX12_lacks_18 : decode cX12_lacks 18 = .ok (.iload_n 1, 1) := by decide +kernel
theorem dX12_lacks_19 : decode cX12_lacks 19 = .ok (.imul, 1) := by decide +kernel
theorem dX12_lacks_20 : decode cX12_lacks 20 = .ok (.iload 6, 2) := by decide +kernel
theorem dX12_lacks_22 : decode cX12_lacks 22 = .ok (.iadd, 1) := by decide +kernel
theorem dX12_lacks_23 : decode cX12_lacks 23 = .ok (.istore 7, 2) := by decide +kernel
theorem dX12_lacks_25 : decode cX12_lacks 25 = .ok (.iload 4, 2) := by decide +kernel
theorem dX12_lacks_27 : decode cX12_lacks 27 = .ok (.aload_n 0, 1) := by decide +kernel
theorem dX12_lacks_28 : decode cX12_lacks 28 = .ok (.getfield 19, 3) := by decide +kernel
theorem dX12_lacks_31 : decode cX12_lacks 31 = .ok (.iconst 4, 1) := by decide +kernel
theorem dX12_lacks_32 : decode cX12_lacks 32 = .ok (.iaload, 1) := by decide +kernel
theorem dX12_lacks_33 : decode cX12_lacks 33 = .ok (.isub, 1) := by decide +kernel
theorem dX12_lacks_34 : decode cX12_lacks 34 = .ok (.aload_n 0, 1) := by decide +kernel
theorem dX12_lacks_35 : decode cX12_lacks 35 = .ok (.getfield 43, 3) := by decide +kernel
theorem dX12_lacks_38 : decode cX12_lacks 38 = .ok (.iload 7, 2) := by decide +kernel
theorem dX12_lacks_40 : decode cX12_lacks 40 = .ok (.iaload, 1) := by decide +kernel
theorem dX12_lacks_41 : decode cX12_lacks 41 = .ok (.if_icmp .le 15, 3) := by decide +kernel
theorem dX12_lacks_44 : decode cX12_lacks 44 = .ok (.iload 4, 2) := by decide +kernel
theorem dX12_lacks_46 : decode cX12_lacks 46 = .ok (.aload_n 0, 1) := by decide +kernel
theorem dX12_lacks_47 : decode cX12_lacks 47 = .ok (.getfield 19, 3) := by decide +kernel
theorem dX12_lacks_50 : decode cX12_lacks 50 = .ok (.iconst 4, 1) := by decide +kernel
theorem dX12_lacks_51 : decode cX12_lacks 51 = .ok (.iaload, 1) := by decide +kernel
theorem dX12_lacks_52 : decode cX12_lacks 52 = .ok (.isub, 1) := by decide +kernel
theorem dX12_lacks_53 : decode cX12_lacks 53 = .ok (.goto 10, 3) := by decide +kernel
theorem dX12_lacks_56 : decode cX12_lacks 56 = .ok (.aload_n 0, 1) := by decide +kernel
theorem dX12_lacks_57 : decode cX12_lacks 57 = .ok (.getfield 43, 3) := by decide +kernel
theorem dX12_lacks_60 : decode cX12_lacks 60 = .ok (.iload 7, 2) := by decide +kernel
theorem dX12_lacks_62 : decode cX12_lacks 62 = .ok (.iaload, 1) := by decide +kernel
theorem dX12_lacks_63 : decode cX12_lacks 63 = .ok (.istore 4, 2) := by decide +kernel
theorem dX12_lacks_65 : decode cX12_lacks 65 = .ok (.iload 5, 2) := by decide +kernel
theorem dX12_lacks_67 : decode cX12_lacks 67 = .ok (.aload_n 0, 1) := by decide +kernel
theorem dX12_lacks_68 : decode cX12_lacks 68 = .ok (.getfield 19, 3) := by decide +kernel
theorem dX12_lacks_71 : decode cX12_lacks 71 = .ok (.iconst 3, 1) := by decide +kernel
theorem dX12_lacks_72 : decode cX12_lacks 72 = .ok (.iaload, 1) := by decide +kernel
theorem dX12_lacks_73 : decode cX12_lacks 73 = .ok (.iadd, 1) := by decide +kernel
theorem dX12_lacks_74 : decode cX12_lacks 74 = .ok (.aload_n 0, 1) := by decide +kernel
theorem dX12_lacks_75 : decode cX12_lacks 75 = .ok (.getfield 46, 3) := by decide +kernel
theorem dX12_lacks_78 : decode cX12_lacks 78 = .ok (.iload 7, 2) := by decide +kernel
theorem dX12_lacks_80 : decode cX12_lacks 80 = .ok (.iaload, 1) := by decide +kernel
theorem dX12_lacks_81 : decode cX12_lacks 81 = .ok (.if_icmp .ge 15, 3) := by decide +kernel
theorem dX12_lacks_84 : decode cX12_lacks 84 = .ok (.iload 5, 2) := by decide +kernel
theorem dX12_lacks_86 : decode cX12_lacks 86 = .ok (.aload_n 0, 1) := by decide +kernel
theorem dX12_lacks_87 : decode cX12_lacks 87 = .ok (.getfield 19, 3) := by decide +kernel
theorem dX12_lacks_90 : decode cX12_lacks 90 = .ok (.iconst 3, 1) := by decide +kernel
theorem dX12_lacks_91 : decode cX12_lacks 91 = .ok (.iaload, 1) := by decide +kernel
theorem dX12_lacks_92 : decode cX12_lacks 92 = .ok (.iadd, 1) := by decide +kernel
theorem dX12_lacks_93 : decode cX12_lacks 93 = .ok (.goto 10, 3) := by decide +kernel
theorem dX12_lacks_96 : decode cX12_lacks 96 = .ok (.aload_n 0, 1) := by decide +kernel
theorem dX12_lacks_97 : decode cX12_lacks 97 = .ok (.getfield 46, 3) := by decide +kernel
theorem dX12_lacks_100 : decode cX12_lacks 100 = .ok (.iload 7, 2) := by decide +kernel
theorem dX12_lacks_102 : decode cX12_lacks 102 = .ok (.iaload, 1) := by decide +kernel
theorem dX12_lacks_103 : decode cX12_lacks 103 = .ok (.istore 5, 2) := by decide +kernel
theorem dX12_lacks_105 : decode cX12_lacks 105 = .ok (.aload_n 0, 1) := by decide +kernel
theorem dX12_lacks_106 : decode cX12_lacks 106 = .ok (.iload 6, 2) := by decide +kernel
theorem dX12_lacks_108 : decode cX12_lacks 108 = .ok (.iload_n 3, 1) := by decide +kernel
theorem dX12_lacks_109 : decode cX12_lacks 109 = .ok (.invokevirtual 257, 3) := by decide +kernel
theorem dX12_lacks_112 : decode cX12_lacks 112 = .ok (.istore 8, 2) := by decide +kernel
theorem dX12_lacks_114 : decode cX12_lacks 114 = .ok (.aload_n 0, 1) := by decide +kernel
theorem dX12_lacks_115 : decode cX12_lacks 115 = .ok (.getfield 28, 3) := by decide +kernel
theorem dX12_lacks_118 : decode cX12_lacks 118 = .ok (.iload 7, 2) := by decide +kernel
theorem dX12_lacks_120 : decode cX12_lacks 120 = .ok (.iaload, 1) := by decide +kernel
theorem dX12_lacks_121 : decode cX12_lacks 121 = .ok (.iload 8, 2) := by decide +kernel
theorem dX12_lacks_123 : decode cX12_lacks 123 = .ok (.if_icmp .le 7, 3) := by decide +kernel
theorem dX12_lacks_126 : decode cX12_lacks 126 = .ok (.iconst 1, 1) := by decide +kernel
theorem dX12_lacks_127 : decode cX12_lacks 127 = .ok (.goto 101, 3) := by decide +kernel
theorem dX12_lacks_130 : decode cX12_lacks 130 = .ok (.aload_n 0, 1) := by decide +kernel
theorem dX12_lacks_131 : decode cX12_lacks 131 = .ok (.getfield 31, 3) := by decide +kernel
theorem dX12_lacks_134 : decode cX12_lacks 134 = .ok (.iload 7, 2) := by decide +kernel
theorem dX12_lacks_136 : decode cX12_lacks 136 = .ok (.iaload, 1) := by decide +kernel
theorem dX12_lacks_137 : decode cX12_lacks 137 = .ok (.aload_n 0, 1) := by decide +kernel
theorem dX12_lacks_138 : decode cX12_lacks 138 = .ok (.getfield 19, 3) := by decide +kernel
theorem dX12_lacks_141 : decode cX12_lacks 141 = .ok (.iconst 0, 1) := by decide +kernel
theorem dX12_lacks_142 : decode cX12_lacks 142 = .ok (.iaload, 1) := by decide +kernel
theorem dX12_lacks_143 : decode cX12_lacks 143 = .ok (.iload 8, 2) := by decide +kernel
theorem dX12_lacks_145 : decode cX12_lacks 145 = .ok (.iadd, 1) := by decide +kernel
theorem dX12_lacks_146 : decode cX12_lacks 146 = .ok (.if_icmp .le 7, 3) := by decide +kernel
theorem dX12_lacks_149 : decode cX12_lacks 149 = .ok (.iconst 2, 1) := by decide +kernel
theorem dX12_lacks_150 : decode cX12_lacks 150 = .ok (.goto 78, 3) := by decide +kernel
theorem dX12_lacks_153 : decode cX12_lacks 153 = .ok (.aload_n 0, 1) := by decide +kernel
theorem dX12_lacks_154 : decode cX12_lacks 154 = .ok (.getfield 34, 3) := by decide +kernel
theorem dX12_lacks_157 : decode cX12_lacks 157 = .ok (.iload 7, 2) := by decide +kernel
theorem dX12_lacks_159 : decode cX12_lacks 159 = .ok (.iaload, 1) := by decide +kernel
theorem dX12_lacks_160 : decode cX12_lacks 160 = .ok (.aload_n 0, 1) := by decide +kernel
theorem dX12_lacks_161 : decode cX12_lacks 161 = .ok (.getfield 19, 3) := by decide +kernel
theorem dX12_lacks_164 : decode cX12_lacks 164 = .ok (.iconst 2, 1) := by decide +kernel
theorem dX12_lacks_165 : decode cX12_lacks 165 = .ok (.iaload, 1) := by decide +kernel
theorem dX12_lacks_166 : decode cX12_lacks 166 = .ok (.if_icmp .le 7, 3) := by decide +kernel
theorem dX12_lacks_169 : decode cX12_lacks 169 = .ok (.iconst 3, 1) := by decide +kernel
theorem dX12_lacks_170 : decode cX12_lacks 170 = .ok (.goto 58, 3) := by decide +kernel
theorem dX12_lacks_173 : decode cX12_lacks 173 = .ok (.iload 4, 2) := by decide +kernel
theorem dX12_lacks_175 : decode cX12_lacks 175 = .ok (.iload 5, 2) := by decide +kernel
theorem dX12_lacks_177 : decode cX12_lacks 177 = .ok (.if_icmp .le 7, 3) := by decide +kernel
theorem dX12_lacks_180 : decode cX12_lacks 180 = .ok (.iconst 4, 1) := by decide +kernel
theorem dX12_lacks_181 : decode cX12_lacks 181 = .ok (.goto 47, 3) := by decide +kernel
theorem dX12_lacks_184 : decode cX12_lacks 184 = .ok (.aload_n 0, 1) := by decide +kernel
theorem dX12_lacks_185 : decode cX12_lacks 185 = .ok (.getfield 37, 3) := by decide +kernel
theorem dX12_lacks_188 : decode cX12_lacks 188 = .ok (.iload 7, 2) := by decide +kernel
theorem dX12_lacks_190 : decode cX12_lacks 190 = .ok (.iaload, 1) := by decide +kernel
theorem dX12_lacks_191 : decode cX12_lacks 191 = .ok (.aload_n 0, 1) := by decide +kernel
theorem dX12_lacks_192 : decode cX12_lacks 192 = .ok (.iload 6, 2) := by decide +kernel
theorem dX12_lacks_194 : decode cX12_lacks 194 = .ok (.iload_n 2, 1) := by decide +kernel
theorem dX12_lacks_195 : decode cX12_lacks 195 = .ok (.invokevirtual 260, 3) := by decide +kernel
theorem dX12_lacks_198 : decode cX12_lacks 198 = .ok (.if_icmp .le 7, 3) := by decide +kernel
theorem dX12_lacks_201 : decode cX12_lacks 201 = .ok (.iconst 5, 1) := by decide +kernel
theorem dX12_lacks_202 : decode cX12_lacks 202 = .ok (.goto 26, 3) := by decide +kernel
theorem dX12_lacks_205 : decode cX12_lacks 205 = .ok (.aload_n 0, 1) := by decide +kernel
theorem dX12_lacks_206 : decode cX12_lacks 206 = .ok (.getfield 40, 3) := by decide +kernel
theorem dX12_lacks_209 : decode cX12_lacks 209 = .ok (.iload 7, 2) := by decide +kernel
theorem dX12_lacks_211 : decode cX12_lacks 211 = .ok (.iaload, 1) := by decide +kernel
theorem dX12_lacks_212 : decode cX12_lacks 212 = .ok (.aload_n 0, 1) := by decide +kernel
theorem dX12_lacks_213 : decode cX12_lacks 213 = .ok (.getfield 19, 3) := by decide +kernel
theorem dX12_lacks_216 : decode cX12_lacks 216 = .ok (.bipush 6, 2) := by decide +kernel
theorem dX12_lacks_218 : decode cX12_lacks 218 = .ok (.iaload, 1) := by decide +kernel
theorem dX12_lacks_219 : decode cX12_lacks 219 = .ok (.if_icmp .le 8, 3) := by decide +kernel
theorem dX12_lacks_222 : decode cX12_lacks 222 = .ok (.bipush 6, 2) := by decide +kernel
theorem dX12_lacks_224 : decode cX12_lacks 224 = .ok (.goto 4, 3) := by decide +kernel
theorem dX12_lacks_227 : decode cX12_lacks 227 = .ok (.iconst 0, 1) := by decide +kernel
theorem dX12_lacks_228 : decode cX12_lacks 228 = .ok (.istore 9, 2) := by decide +kernel
theorem dX12_lacks_230 : decode cX12_lacks 230 = .ok (.iload 9, 2) := by decide +kernel
theorem dX12_lacks_232 : decode cX12_lacks 232 = .ok (.ifCond .le 12, 3) := by decide +kernel
theorem dX12_lacks_235 : decode cX12_lacks 235 = .ok (.bipush 10, 2) := by decide +kernel
theorem dX12_lacks_237 : decode cX12_lacks 237 = .ok (.iload 6, 2) := by decide +kernel
theorem dX12_lacks_239 : decode cX12_lacks 239 = .ok (.imul, 1) := by decide +kernel
theorem dX12_lacks_240 : decode cX12_lacks 240 = .ok (.iload 9, 2) := by decide +kernel
theorem dX12_lacks_242 : decode cX12_lacks 242 = .ok (.iadd, 1) := by decide +kernel
theorem dX12_lacks_243 : decode cX12_lacks 243 = .ok (.ireturn, 1) := by decide +kernel
theorem dX12_lacks_244 : decode cX12_lacks 244 = .ok (.iinc 6 1, 3) := by decide +kernel
theorem dX12_lacks_247 : decode cX12_lacks 247 = .ok (.goto (-238), 3) := by decide +kernel
theorem dX12_lacks_250 : decode cX12_lacks 250 = .ok (.ldc 137, 2) := by decide +kernel
theorem dX12_lacks_252 : decode cX12_lacks 252 = .ok (.ireturn, 1) := by decide +kernel
theorem dX12_layBegins_0 : decode cX12_layBegins 0 = .ok (.aload_n 0, 1) := by decide +kernel
theorem dX12_layBegins_1 : decode cX12_layBegins 1 = .ok (.getfield 49, 3) := by decide +kernel
theorem dX12_layBegins_4 : decode cX12_layBegins 4 = .ok (.iload_n 1, 1) := by decide +kernel
theorem dX12_layBegins_5 : decode cX12_layBegins 5 = .ok (.iaload, 1) := by decide +kernel
theorem dX12_layBegins_6 : decode cX12_layBegins 6 = .ok (.istore_n 3, 1) := by decide +kernel
theorem dX12_layBegins_7 : decode cX12_layBegins 7 = .ok (.aload_n 0, 1) := by decide +kernel
theorem dX12_layBegins_8 : decode cX12_layBegins 8 = .ok (.iload_n 3, 1) := by decide +kernel
theorem dX12_layBegins_9 : decode cX12_layBegins 9 = .ok (.iconst 3, 1) := by decide +kernel
theorem dX12_layBegins_10 : decode cX12_layBegins 10 = .ok (.invokevirtual 228, 3) := by decide +kernel
theorem dX12_layBegins_13 : decode cX12_layBegins 13 = .ok (.istore 4, 2) := by decide +kernel
theorem dX12_layBegins_15 : decode cX12_layBegins 15 = .ok (.aload_n 0, 1) := by decide +kernel
theorem dX12_layBegins_16 : decode cX12_layBegins 16 = .ok (.getfield 52, 3) := by decide +kernel
theorem dX12_layBegins_19 : decode cX12_layBegins 19 = .ok (.iload_n 1, 1) := by decide +kernel
theorem dX12_layBegins_20 : decode cX12_layBegins 20 = .ok (.iaload, 1) := by decide +kernel
theorem dX12_layBegins_21 : decode cX12_layBegins 21 = .ok (.istore 5, 2) := by decide +kernel
theorem dX12_layBegins_23 : decode cX12_layBegins 23 = .ok (.iload 5, 2) := by decide +kernel
theorem dX12_layBegins_25 : decode cX12_layBegins 25 = .ok (.iconst 1, 1) := by decide +kernel
theorem dX12_layBegins_26 : decode cX12_layBegins 26 = .ok (.aload_n 0, 1) := by decide +kernel
theorem dX12_layBegins_27 : decode cX12_layBegins 27 = .ok (.iload_n 3, 1) := by decide +kernel
theorem dX12_layBegins_28 : decode cX12_layBegins 28 = .ok (.iconst 0, 1) := by decide +kernel
theorem dX12_layBegins_29 : decode cX12_layBegins 29 = .ok (.invokevirtual 228, 3) := by decide +kernel
theorem dX12_layBegins_32 : decode cX12_layBegins 32 = .ok (.iadd, 1) := by decide +kernel
theorem dX12_layBegins_33 : decode cX12_layBegins 33 = .ok (.irem, 1) := by decide +kernel
theorem dX12_layBegins_34 : decode cX12_layBegins 34 = .ok (.istore 6, 2) := by decide +kernel
theorem dX12_layBegins_36 : decode cX12_layBegins 36 = .ok (.iload 5, 2) := by decide +kernel
theorem dX12_layBegins_38 : decode cX12_layBegins 38 = .ok (.iconst 1, 1) := by decide +kernel
theorem dX12_layBegins_39 : decode cX12_layBegins 39 = .ok (.aload_n 0, 1) := by decide +kernel
theorem dX12_layBegins_40 : decode cX12_layBegins 40 = .ok (.iload_n 3, 1) := by decide +kernel
theorem dX12_layBegins_41 : decode cX12_layBegins 41 = .ok (.iconst 0, 1) := by decide +kernel
theorem dX12_layBegins_42 : decode cX12_layBegins 42 = .ok (.invokevirtual 228, 3) := by decide +kernel
theorem dX12_layBegins_45 : decode cX12_layBegins 45 = .ok (.iadd, 1) := by decide +kernel
theorem dX12_layBegins_46 : decode cX12_layBegins 46 = .ok (.idiv, 1) := by decide +kernel
theorem dX12_layBegins_47 : decode cX12_layBegins 47 = .ok (.istore 5, 2) := by decide +kernel
theorem dX12_layBegins_49 : decode cX12_layBegins 49 = .ok (.iload 5, 2) := by decide +kernel
theorem dX12_layBegins_51 : decode cX12_layBegins 51 = .ok (.aload_n 0, 1) := by decide +kernel
theorem dX12_layBegins_52 : decode cX12_layBegins 52 = .ok (.iload_n 3, 1) := by decide +kernel
theorem dX12_layBegins_53 : decode cX12_layBegins 53 = .ok (.iconst 0, 1) := by decide +kernel
theorem dX12_layBegins_54 : decode cX12_layBegins 54 = .ok (.invokevirtual 235, 3) := by decide +kernel
theorem dX12_layBegins_57 : decode cX12_layBegins 57 = .ok (.irem, 1) := by decide +kernel
theorem dX12_layBegins_58 : decode cX12_layBegins 58 = .ok (.istore 7, 2) := by decide +kernel
theorem dX12_layBegins_60 : decode cX12_layBegins 60 = .ok (.iload 5, 2) := by decide +kernel
theorem dX12_layBegins_62 : decode cX12_layBegins 62 = .ok (.aload_n 0, 1) := by decide +kernel
theorem dX12_layBegins_63 : decode cX12_layBegins 63 = .ok (.iload_n 3, 1) := by decide +kernel
theorem dX12_layBegins_64 : decode cX12_layBegins 64 = .ok (.iconst 0, 1) := by decide +kernel
theorem dX12_layBegins_65 : decode cX12_layBegins 65 = .ok (.invokevirtual 235, 3) := by decide +kernel
theorem dX12_layBegins_68 : decode cX12_layBegins 68 = .ok (.idiv, 1) := by decide +kernel
theorem dX12_layBegins_69 : decode cX12_layBegins 69 = .ok (.istore 8, 2) := by decide +kernel
theorem dX12_layBegins_71 : decode cX12_layBegins 71 = .ok (.iload_n 2, 1) := by decide +kernel
theorem dX12_layBegins_72 : decode cX12_layBegins 72 = .ok (.iload 6, 2) := by decide +kernel
theorem dX12_layBegins_74 : decode cX12_layBegins 74 = .ok (.isub, 1) := by decide +kernel
theorem dX12_layBegins_75 : decode cX12_layBegins 75 = .ok (.istore 9, 2) := by decide +kernel
theorem dX12_layBegins_77 : decode cX12_layBegins 77 = .ok (.iconst 0, 1) := by decide +kernel
theorem dX12_layBegins_78 : decode cX12_layBegins 78 = .ok (.istore 10, 2) := by decide +kernel
theorem dX12_layBegins_80 : decode cX12_layBegins 80 = .ok (.iconst 0, 1) := by decide +kernel
theorem dX12_layBegins_81 : decode cX12_layBegins 81 = .ok (.istore 11, 2) := by decide +kernel
theorem dX12_layBegins_83 : decode cX12_layBegins 83 = .ok (.iconst 1, 1) := by decide +kernel
theorem dX12_layBegins_84 : decode cX12_layBegins 84 = .ok (.istore 12, 2) := by decide +kernel
theorem dX12_layBegins_86 : decode cX12_layBegins 86 = .ok (.iload 4, 2) := by decide +kernel
theorem dX12_layBegins_88 : decode cX12_layBegins 88 = .ok (.iconst 1, 1) := by decide +kernel
theorem dX12_layBegins_89 : decode cX12_layBegins 89 = .ok (.isub, 1) := by decide +kernel
theorem dX12_layBegins_90 : decode cX12_layBegins 90 = .ok (.istore 13, 2) := by decide +kernel
theorem dX12_layBegins_92 : decode cX12_layBegins 92 = .ok (.iload 13, 2) := by decide +kernel
theorem dX12_layBegins_94 : decode cX12_layBegins 94 = .ok (.ifCond .lt 191, 3) := by decide +kernel
theorem dX12_layBegins_97 : decode cX12_layBegins 97 = .ok (.aload_n 0, 1) := by decide +kernel
theorem dX12_layBegins_98 : decode cX12_layBegins 98 = .ok (.iload_n 3, 1) := by decide +kernel
theorem dX12_layBegins_99 : decode cX12_layBegins 99 = .ok (.iconst 4, 1) := by decide +kernel
theorem dX12_layBegins_100 : decode cX12_layBegins 100 = .ok (.invokevirtual 228, 3) := by decide +kernel
theorem dX12_layBegins_103 : decode cX12_layBegins 103 = .ok (.iload 13, 2) := by decide +kernel
theorem dX12_layBegins_105 : decode cX12_layBegins 105 = .ok (.iadd, 1) := by decide +kernel
theorem dX12_layBegins_106 : decode cX12_layBegins 106 = .ok (.istore 14, 2) := by decide +kernel
theorem dX12_layBegins_108 : decode cX12_layBegins 108 = .ok (.iload 13, 2) := by decide +kernel
theorem dX12_layBegins_110 : decode cX12_layBegins 110 = .ok (.iload 4, 2) := by decide +kernel
theorem dX12_layBegins_112 : decode cX12_layBegins 112 = .ok (.iconst 1, 1) := by decide +kernel
theorem dX12_layBegins_113 : decode cX12_layBegins 113 = .ok (.isub, 1) := by decide +kernel
theorem dX12_layBegins_114 : decode cX12_layBegins 114 = .ok (.if_icmp .ne 7, 3) := by decide +kernel
theorem dX12_layBegins_117 : decode cX12_layBegins 117 = .ok (.iconst 0, 1) := by decide +kernel
theorem dX12_layBegins_118 : decode cX12_layBegins 118 = .ok (.goto 15, 3) := by decide +kernel
theorem dX12_layBegins_121 : decode cX12_layBegins 121 = .ok (.iload 13, 2) := by decide +kernel
theorem dX12_layBegins_123 : decode cX12_layBegins 123 = .ok (.ifCond .ne 8, 3) := by decide +kernel
theorem dX12_layBegins_126 : decode cX12_layBegins 126 = .ok (.iload 7, 2) := by decide +kernel
theorem dX12_layBegins_128 : decode cX12_layBegins 128 = .ok (.goto 5, 3) := by decide +kernel
theorem dX12_layBegins_131 : decode cX12_layBegins 131 = .ok (.iload 8, 2) := by decide +kernel
theorem dX12_layBegins_133 : decode cX12_layBegins 133 = .ok (.istore 15, 2) := by decide +kernel
theorem dX12_layBegins_135 : decode cX12_layBegins 135 = .ok (.aload_n 0, 1) := by decide +kernel
theorem dX12_layBegins_136 : decode cX12_layBegins 136 = .ok (.getfield 58, 3) := by decide +kernel
theorem dX12_layBegins_139 : decode cX12_layBegins 139 = .ok (.iconst 3, 1) := by decide +kernel
theorem dX12_layBegins_140 : decode cX12_layBegins 140 = .ok (.iload_n 1, 1) := by decide +kernel
theorem dX12_layBegins_141 : decode cX12_layBegins 141 = .ok (.imul, 1) := by decide +kernel
theorem dX12_layBegins_142 : decode cX12_layBegins 142 = .ok (.iload 13, 2) := by decide +kernel
theorem dX12_layBegins_144 : decode cX12_layBegins 144 = .ok (.iadd, 1) := by decide +kernel
theorem dX12_layBegins_145 : decode cX12_layBegins 145 = .ok (.iload 9, 2) := by decide +kernel
theorem dX12_layBegins_147 : decode cX12_layBegins 147 = .ok (.iload 15, 2) := by decide +kernel
theorem dX12_layBegins_149 : decode cX12_layBegins 149 = .ok (.isub, 1) := by decide +kernel
theorem dX12_layBegins_150 : decode cX12_layBegins 150 = .ok (.aload_n 0, 1) := by decide +kernel
theorem dX12_layBegins_151 : decode cX12_layBegins 151 = .ok (.iload 14, 2) := by decide +kernel
theorem dX12_layBegins_153 : decode cX12_layBegins 153 = .ok (.iconst 1, 1) := by decide +kernel
theorem dX12_layBegins_154 : decode cX12_layBegins 154 = .ok (.invokevirtual 232, 3) := by decide +kernel
theorem dX12_layBegins_157 : decode cX12_layBegins 157 = .ok (.isub, 1) := by decide +kernel
theorem dX12_layBegins_158 : decode cX12_layBegins 158 = .ok (.iastore, 1) := by decide +kernel
theorem dX12_layBegins_159 : decode cX12_layBegins 159 = .ok (.aload_n 0, 1) := by decide +kernel
theorem dX12_layBegins_160 : decode cX12_layBegins 160 = .ok (.getfield 58, 3) := by decide +kernel
theorem dX12_layBegins_163 : decode cX12_layBegins 163 = .ok (.iconst 3, 1) := by decide +kernel
theorem dX12_layBegins_164 : decode cX12_layBegins 164 = .ok (.iload_n 1, 1) := by decide +kernel
theorem dX12_layBegins_165 : decode cX12_layBegins 165 = .ok (.imul, 1) := by decide +kernel
theorem dX12_layBegins_166 : decode cX12_layBegins 166 = .ok (.iload 13, 2) := by decide +kernel
theorem dX12_layBegins_168 : decode cX12_layBegins 168 = .ok (.iadd, 1) := by decide +kernel
theorem dX12_layBegins_169 : decode cX12_layBegins 169 = .ok (.iaload, 1) := by decide +kernel
theorem dX12_layBegins_170 : decode cX12_layBegins 170 = .ok (.istore 9, 2) := by decide +kernel
theorem dX12_layBegins_172 : decode cX12_layBegins 172 = .ok (.iload 10, 2) := by decide +kernel
theorem dX12_layBegins_174 : decode cX12_layBegins 174 = .ok (.iload 15, 2) := by decide +kernel
theorem dX12_layBegins_176 : decode cX12_layBegins 176 = .ok (.iadd, 1) := by decide +kernel
theorem dX12_layBegins_177 : decode cX12_layBegins 177 = .ok (.istore 10, 2) := by decide +kernel
theorem dX12_layBegins_179 : decode cX12_layBegins 179 = .ok (.iload 11, 2) := by decide +kernel
theorem dX12_layBegins_181 : decode cX12_layBegins 181 = .ok (.aload_n 0, 1) := by decide +kernel
theorem dX12_layBegins_182 : decode cX12_layBegins 182 = .ok (.iload 14, 2) := by decide +kernel
theorem dX12_layBegins_184 : decode cX12_layBegins 184 = .ok (.iconst 0, 1) := by decide +kernel
theorem dX12_layBegins_185 : decode cX12_layBegins 185 = .ok (.invokevirtual 232, 3) := by decide +kernel
theorem dX12_layBegins_188 : decode cX12_layBegins 188 = .ok (.iconst 5, 1) := by decide +kernel
theorem dX12_layBegins_189 : decode cX12_layBegins 189 = .ok (.if_icmp .ne 21, 3) := by decide +kernel
theorem dX12_layBegins_192 : decode cX12_layBegins 192 = .ok (.aload_n 0, 1) := by decide +kernel
theorem dX12_layBegins_193 : decode cX12_layBegins 193 = .ok (.iload 14, 2) := by decide +kernel
theorem dX12_layBegins_195 : decode cX12_layBegins 195 = .ok (.iconst 4, 1) := by decide +kernel
theorem dX12_layBegins_196 : decode cX12_layBegins 196 = .ok (.invokevirtual 232, 3) := by decide +kernel
theorem dX12_layBegins_199 : decode cX12_layBegins 199 = .ok (.aload_n 0, 1) := by decide +kernel
theorem dX12_layBegins_200 : decode cX12_layBegins 200 = .ok (.iload 14, 2) := by decide +kernel
theorem dX12_layBegins_202 : decode cX12_layBegins 202 = .ok (.iconst 1, 1) := by decide +kernel
theorem dX12_layBegins_203 : decode cX12_layBegins 203 = .ok (.invokevirtual 232, 3) := by decide +kernel
theorem dX12_layBegins_206 : decode cX12_layBegins 206 = .ok (.imul, 1) := by decide +kernel
theorem dX12_layBegins_207 : decode cX12_layBegins 207 = .ok (.goto 4, 3) := by decide +kernel
theorem dX12_layBegins_210 : decode cX12_layBegins 210 = .ok (.iconst 0, 1) := by decide +kernel
theorem dX12_layBegins_211 : decode cX12_layBegins 211 = .ok (.iadd, 1) := by decide +kernel
theorem dX12_layBegins_212 : decode cX12_layBegins 212 = .ok (.istore 11, 2) := by decide +kernel
theorem dX12_layBegins_214 : decode cX12_layBegins 214 = .ok (.iload 12, 2) := by decide +kernel
theorem dX12_layBegins_216 : decode cX12_layBegins 216 = .ok (.ifCond .eq 60, 3) := by decide +kernel
theorem dX12_layBegins_219 : decode cX12_layBegins 219 = .ok (.aload_n 0, 1) := by decide +kernel
theorem dX12_layBegins_220 : decode cX12_layBegins 220 = .ok (.getfield 268, 3) := by decide +kernel
theorem dX12_layBegins_223 : decode cX12_layBegins 223 = .ok (.ifCond .le 40, 3) := by decide +kernel
theorem dX12_layBegins_226 : decode cX12_layBegins 226 = .ok (.aload_n 0, 1) := by decide +kernel
theorem dX12_layBegins_227 : decode cX12_layBegins 227 = .ok (.getfield 67, 3) := by decide +kernel
theorem dX12_layBegins_230 : decode cX12_layBegins 230 = .ok (.iconst 3, 1) := by decide +kernel
theorem dX12_layBegins_231 : decode cX12_layBegins 231 = .ok (.iload_n 1, 1) := by decide +kernel
theorem dX12_layBegins_232 : decode cX12_layBegins 232 = .ok (.imul, 1) := by decide +kernel
theorem dX12_layBegins_233 : decode cX12_layBegins 233 = .ok (.iload 13, 2) := by decide +kernel
theorem dX12_layBegins_235 : decode cX12_layBegins 235 = .ok (.iadd, 1) := by decide +kernel
theorem dX12_layBegins_236 : decode cX12_layBegins 236 = .ok (.iaload, 1) := by decide +kernel
theorem dX12_layBegins_237 : decode cX12_layBegins 237 = .ok (.aload_n 0, 1) := by decide +kernel
theorem dX12_layBegins_238 : decode cX12_layBegins 238 = .ok (.getfield 268, 3) := by decide +kernel
theorem dX12_layBegins_241 : decode cX12_layBegins 241 = .ok (.if_icmp .ge 22, 3) := by decide +kernel
theorem dX12_layBegins_244 : decode cX12_layBegins 244 = .ok (.iload 9, 2) := by decide +kernel
theorem dX12_layBegins_246 : decode cX12_layBegins 246 = .ok (.aload_n 0, 1) := by decide +kernel
theorem dX12_layBegins_247 : decode cX12_layBegins 247 = .ok (.getfield 67, 3) := by decide +kernel
theorem dX12_layBegins_250 : decode cX12_layBegins 250 = .ok (.iconst 3, 1) := by decide +kernel
theorem dX12_layBegins_251 : decode cX12_layBegins 251 = .ok (.iload_n 1, 1) := by decide +kernel
theorem dX12_layBegins_252 : decode cX12_layBegins 252 = .ok (.imul, 1) := by decide +kernel
theorem dX12_layBegins_253 : decode cX12_layBegins 253 = .ok (.iload 13, 2) := by decide +kernel
theorem dX12_layBegins_255 : decode cX12_layBegins 255 = .ok (.iadd, 1) := by decide +kernel
theorem dX12_layBegins_256 : decode cX12_layBegins 256 = .ok (.iaload, 1) := by decide +kernel
theorem dX12_layBegins_257 : decode cX12_layBegins 257 = .ok (.if_icmp .ne 19, 3) := by decide +kernel
theorem dX12_layBegins_260 : decode cX12_layBegins 260 = .ok (.goto 12, 3) := by decide +kernel
theorem dX12_layBegins_263 : decode cX12_layBegins 263 = .ok (.iload 9, 2) := by decide +kernel
theorem dX12_layBegins_265 : decode cX12_layBegins 265 = .ok (.aload_n 0, 1) := by decide +kernel
theorem dX12_layBegins_266 : decode cX12_layBegins 266 = .ok (.getfield 268, 3) := by decide +kernel
theorem dX12_layBegins_269 : decode cX12_layBegins 269 = .ok (.if_icmp .lt 7, 3) := by decide +kernel
theorem dX12_layBegins_272 : decode cX12_layBegins 272 = .ok (.iconst 1, 1) := by decide +kernel
theorem dX12_layBegins_273 : decode cX12_layBegins 273 = .ok (.goto 4, 3) := by decide +kernel
theorem dX12_layBegins_276 : decode cX12_layBegins 276 = .ok (.iconst 0, 1) := by decide +kernel
theorem dX12_layBegins_277 : decode cX12_layBegins 277 = .ok (.istore 12, 2) := by decide +kernel
theorem dX12_layBegins_279 : decode cX12_layBegins 279 = .ok (.iinc 13 (-1), 3) := by decide +kernel
theorem dX12_layBegins_282 : decode cX12_layBegins 282 = .ok (.goto (-190), 3) := by decide +kernel
theorem dX12_layBegins_285 : decode cX12_layBegins 285 = .ok (.aload_n 0, 1) := by decide +kernel
theorem dX12_layBegins_286 : decode cX12_layBegins 286 = .ok (.getfield 55, 3) := by decide +kernel
theorem dX12_layBegins_289 : decode cX12_layBegins 289 = .ok (.iload_n 1, 1) := by decide +kernel
theorem dX12_layBegins_290 : decode cX12_layBegins 290 = .ok (.iconst 1, 1) := by decide +kernel
theorem dX12_layBegins_291 : decode cX12_layBegins 291 = .ok (.iadd, 1) := by decide +kernel
theorem dX12_layBegins_292 : decode cX12_layBegins 292 = .ok (.aload_n 0, 1) := by decide +kernel
theorem dX12_layBegins_293 : decode cX12_layBegins 293 = .ok (.getfield 55, 3) := by decide +kernel
theorem dX12_layBegins_296 : decode cX12_layBegins 296 = .ok (.iload_n 1, 1) := by decide +kernel
theorem dX12_layBegins_297 : decode cX12_layBegins 297 = .ok (.iaload, 1) := by decide +kernel
theorem dX12_layBegins_298 : decode cX12_layBegins 298 = .ok (.iload 6, 2) := by decide +kernel
theorem dX12_layBegins_300 : decode cX12_layBegins 300 = .ok (.aload_n 0, 1) := by decide +kernel
theorem dX12_layBegins_301 : decode cX12_layBegins 301 = .ok (.iload_n 3, 1) := by decide +kernel
theorem dX12_layBegins_302 : decode cX12_layBegins 302 = .ok (.iconst 1, 1) := by decide +kernel
theorem dX12_layBegins_303 : decode cX12_layBegins 303 = .ok (.invokevirtual 228, 3) := by decide +kernel
theorem dX12_layBegins_306 : decode cX12_layBegins 306 = .ok (.imul, 1) := by decide +kernel
theorem dX12_layBegins_307 : decode cX12_layBegins 307 = .ok (.iadd, 1) := by decide +kernel
theorem dX12_layBegins_308 : decode cX12_layBegins 308 = .ok (.iload 10, 2) := by decide +kernel
theorem dX12_layBegins_310 : decode cX12_layBegins 310 = .ok (.iadd, 1) := by decide +kernel
theorem dX12_layBegins_311 : decode cX12_layBegins 311 = .ok (.iload 11, 2) := by decide +kernel
theorem dX12_layBegins_313 : decode cX12_layBegins 313 = .ok (.iadd, 1) := by decide +kernel
theorem dX12_layBegins_314 : decode cX12_layBegins 314 = .ok (.iastore, 1) := by decide +kernel
theorem dX12_layBegins_315 : decode cX12_layBegins 315 = .ok (.iload 12, 2) := by decide +kernel
theorem dX12_layBegins_317 : decode cX12_layBegins 317 = .ok (.ifCond .eq 12, 3) := by decide +kernel
theorem dX12_layBegins_320 : decode cX12_layBegins 320 = .ok (.iload 9, 2) := by decide +kernel
theorem dX12_layBegins_322 : decode cX12_layBegins 322 = .ok (.ifCond .lt 7, 3) := by decide +kernel
theorem dX12_layBegins_325 : decode cX12_layBegins 325 = .ok (.iconst 1, 1) := by decide +kernel
theorem dX12_layBegins_326 : decode cX12_layBegins 326 = .ok (.goto 4, 3) := by decide +kernel
theorem dX12_layBegins_329 : decode cX12_layBegins 329 = .ok (.iconst 0, 1) := by decide +kernel
theorem dX12_layBegins_330 : decode cX12_layBegins 330 = .ok (.ireturn, 1) := by decide +kernel
theorem dX12_fits_0 : decode cX12_fits 0 = .ok (.aload_n 0, 1) := by decide +kernel
theorem dX12_fits_1 : decode cX12_fits 1 = .ok (.iload_n 1, 1) := by decide +kernel
theorem dX12_fits_2 : decode cX12_fits 2 = .ok (.iload_n 2, 1) := by decide +kernel
theorem dX12_fits_3 : decode cX12_fits 3 = .ok (.invokevirtual 271, 3) := by decide +kernel
theorem dX12_fits_6 : decode cX12_fits 6 = .ok (.ifCond .ne 5, 3) := by decide +kernel
theorem dX12_fits_9 : decode cX12_fits 9 = .ok (.iconst 0, 1) := by decide +kernel
theorem dX12_fits_10 : decode cX12_fits 10 = .ok (.ireturn, 1) := by decide +kernel
theorem dX12_fits_11 : decode cX12_fits 11 = .ok (.aload_n 0, 1) := by decide +kernel
theorem dX12_fits_12 : decode cX12_fits 12 = .ok (.getfield 49, 3) := by decide +kernel
theorem dX12_fits_15 : decode cX12_fits 15 = .ok (.iload_n 1, 1) := by decide +kernel
theorem dX12_fits_16 : decode cX12_fits 16 = .ok (.iaload, 1) := by decide +kernel
theorem dX12_fits_17 : decode cX12_fits 17 = .ok (.istore 5, 2) := by decide +kernel
theorem dX12_fits_19 : decode cX12_fits 19 = .ok (.aload_n 0, 1) := by decide +kernel
theorem dX12_fits_20 : decode cX12_fits 20 = .ok (.iload 5, 2) := by decide +kernel
theorem dX12_fits_22 : decode cX12_fits 22 = .ok (.iconst 3, 1) := by decide +kernel
theorem dX12_fits_23 : decode cX12_fits 23 = .ok (.invokevirtual 228, 3) := by decide +kernel
theorem dX12_fits_26 : decode cX12_fits 26 = .ok (.istore 6, 2) := by decide +kernel
theorem dX12_fits_28 : decode cX12_fits 28 = .ok (.aload_n 0, 1) := by decide +kernel
theorem dX12_fits_29 : decode cX12_fits 29 = .ok (.iload_n 1, 1) := by decide +kernel
theorem dX12_fits_30 : decode cX12_fits 30 = .ok (.iconst 1, 1) := by decide +kernel
theorem dX12_fits_31 : decode cX12_fits 31 = .ok (.iadd, 1) := by decide +kernel
theorem dX12_fits_32 : decode cX12_fits 32 = .ok (.invokevirtual 275, 3) := by decide +kernel
theorem dX12_fits_35 : decode cX12_fits 35 = .ok (.iconst 0, 1) := by decide +kernel
theorem dX12_fits_36 : decode cX12_fits 36 = .ok (.istore 7, 2) := by decide +kernel
theorem dX12_fits_38 : decode cX12_fits 38 = .ok (.iload 7, 2) := by decide +kernel
theorem dX12_fits_40 : decode cX12_fits 40 = .ok (.iload 6, 2) := by decide +kernel
theorem dX12_fits_42 : decode cX12_fits 42 = .ok (.if_icmp .ge 48, 3) := by decide +kernel
theorem dX12_fits_45 : decode cX12_fits 45 = .ok (.aload_n 0, 1) := by decide +kernel
theorem dX12_fits_46 : decode cX12_fits 46 = .ok (.iload 5, 2) := by decide +kernel
theorem dX12_fits_48 : decode cX12_fits 48 = .ok (.iconst 4, 1) := by decide +kernel
theorem dX12_fits_49 : decode cX12_fits 49 = .ok (.invokevirtual 228, 3) := by decide +kernel
theorem dX12_fits_52 : decode cX12_fits 52 = .ok (.iload 7, 2) := by decide +kernel
theorem dX12_fits_54 : decode cX12_fits 54 = .ok (.iadd, 1) := by decide +kernel
theorem dX12_fits_55 : decode cX12_fits 55 = .ok (.istore 8, 2) := by decide +kernel
theorem dX12_fits_57 : decode cX12_fits 57 = .ok (.aload_n 0, 1) := by decide +kernel
theorem dX12_fits_58 : decode cX12_fits 58 = .ok (.iload_n 1, 1) := by decide +kernel
theorem dX12_fits_59 : decode cX12_fits 59 = .ok (.iconst 1, 1) := by decide +kernel
theorem dX12_fits_60 : decode cX12_fits 60 = .ok (.iadd, 1) := by decide +kernel
theorem dX12_fits_61 : decode cX12_fits 61 = .ok (.iload 8, 2) := by decide +kernel
theorem dX12_fits_63 : decode cX12_fits 63 = .ok (.aload_n 0, 1) := by decide +kernel
theorem dX12_fits_64 : decode cX12_fits 64 = .ok (.getfield 58, 3) := by decide +kernel
theorem dX12_fits_67 : decode cX12_fits 67 = .ok (.iconst 3, 1) := by decide +kernel
theorem dX12_fits_68 : decode cX12_fits 68 = .ok (.iload_n 1, 1) := by decide +kernel
theorem dX12_fits_69 : decode cX12_fits 69 = .ok (.imul, 1) := by decide +kernel
theorem dX12_fits_70 : decode cX12_fits 70 = .ok (.iload 7, 2) := by decide +kernel
theorem dX12_fits_72 : decode cX12_fits 72 = .ok (.iadd, 1) := by decide +kernel
theorem dX12_fits_73 : decode cX12_fits 73 = .ok (.iaload, 1) := by decide +kernel
theorem dX12_fits_74 : decode cX12_fits 74 = .ok (.aload_n 0, 1) := by decide +kernel
theorem dX12_fits_75 : decode cX12_fits 75 = .ok (.iload 8, 2) := by decide +kernel
theorem dX12_fits_77 : decode cX12_fits 77 = .ok (.iconst 1, 1) := by decide +kernel
theorem dX12_fits_78 : decode cX12_fits 78 = .ok (.invokevirtual 232, 3) := by decide +kernel
theorem dX12_fits_81 : decode cX12_fits 81 = .ok (.invokevirtual 278, 3) := by decide +kernel
theorem dX12_fits_84 : decode cX12_fits 84 = .ok (.iinc 7 1, 3) := by decide +kernel
theorem dX12_fits_87 : decode cX12_fits 87 = .ok (.goto (-49), 3) := by decide +kernel
theorem dX12_fits_90 : decode cX12_fits 90 = .ok (.aload_n 0, 1) := by decide +kernel
theorem dX12_fits_91 : decode cX12_fits 91 = .ok (.iload 5, 2) := by decide +kernel
theorem dX12_fits_93 : decode cX12_fits 93 = .ok (.iconst 4, 1) := by decide +kernel
theorem dX12_fits_94 : decode cX12_fits 94 = .ok (.invokevirtual 228, 3) := by decide +kernel
theorem dX12_fits_97 : decode cX12_fits 97 = .ok (.iload 6, 2) := by decide +kernel
theorem dX12_fits_99 : decode cX12_fits 99 = .ok (.iadd, 1) := by decide +kernel
theorem dX12_fits_100 : decode cX12_fits 100 = .ok (.iconst 1, 1) := by decide +kernel
theorem dX12_fits_101 : decode cX12_fits 101 = .ok (.isub, 1) := by decide +kernel
theorem dX12_fits_102 : decode cX12_fits 102 = .ok (.istore 7, 2) := by decide +kernel
theorem dX12_fits_104 : decode cX12_fits 104 = .ok (.aload_n 0, 1) := by decide +kernel
theorem dX12_fits_105 : decode cX12_fits 105 = .ok (.iload 5, 2) := by decide +kernel
theorem dX12_fits_107 : decode cX12_fits 107 = .ok (.iconst 2, 1) := by decide +kernel
theorem dX12_fits_108 : decode cX12_fits 108 = .ok (.invokevirtual 228, 3) := by decide +kernel
theorem dX12_fits_111 : decode cX12_fits 111 = .ok (.iconst 1, 1) := by decide +kernel
theorem dX12_fits_112 : decode cX12_fits 112 = .ok (.if_icmp .ne 39, 3) := by decide +kernel
theorem dX12_fits_115 : decode cX12_fits 115 = .ok (.aload_n 0, 1) := by decide +kernel
theorem dX12_fits_116 : decode cX12_fits 116 = .ok (.iload_n 1, 1) := by decide +kernel
theorem dX12_fits_117 : decode cX12_fits 117 = .ok (.iconst 1, 1) := by decide +kernel
theorem dX12_fits_118 : decode cX12_fits 118 = .ok (.iadd, 1) := by decide +kernel
theorem dX12_fits_119 : decode cX12_fits 119 = .ok (.aload_n 0, 1) := by decide +kernel
theorem dX12_fits_120 : decode cX12_fits 120 = .ok (.getfield 58, 3) := by decide +kernel
theorem dX12_fits_123 : decode cX12_fits 123 = .ok (.iconst 3, 1) := by decide +kernel
theorem dX12_fits_124 : decode cX12_fits 124 = .ok (.iload_n 1, 1) := by decide +kernel
theorem dX12_fits_125 : decode cX12_fits 125 = .ok (.imul, 1) := by decide +kernel
theorem dX12_fits_126 : decode cX12_fits 126 = .ok (.iaload, 1) := by decide +kernel
theorem dX12_fits_127 : decode cX12_fits 127 = .ok (.aload_n 0, 1) := by decide +kernel
theorem dX12_fits_128 : decode cX12_fits 128 = .ok (.getfield 58, 3) := by decide +kernel
theorem dX12_fits_131 : decode cX12_fits 131 = .ok (.iconst 3, 1) := by decide +kernel
theorem dX12_fits_132 : decode cX12_fits 132 = .ok (.iload_n 1, 1) := by decide +kernel
theorem dX12_fits_133 : decode cX12_fits 133 = .ok (.imul, 1) := by decide +kernel
theorem dX12_fits_134 : decode cX12_fits 134 = .ok (.iload 6, 2) := by decide +kernel
theorem dX12_fits_136 : decode cX12_fits 136 = .ok (.iadd, 1) := by decide +kernel
theorem dX12_fits_137 : decode cX12_fits 137 = .ok (.iconst 1, 1) := by decide +kernel
theorem dX12_fits_138 : decode cX12_fits 138 = .ok (.isub, 1) := by decide +kernel
theorem dX12_fits_139 : decode cX12_fits 139 = .ok (.iaload, 1) := by decide +kernel
theorem dX12_fits_140 : decode cX12_fits 140 = .ok (.aload_n 0, 1) := by decide +kernel
theorem dX12_fits_141 : decode cX12_fits 141 = .ok (.iload 7, 2) := by decide +kernel
theorem dX12_fits_143 : decode cX12_fits 143 = .ok (.iconst 1, 1) := by decide +kernel
theorem dX12_fits_144 : decode cX12_fits 144 = .ok (.invokevirtual 232, 3) := by decide +kernel
theorem dX12_fits_147 : decode cX12_fits 147 = .ok (.iadd, 1) := by decide +kernel
theorem dX12_fits_148 : decode cX12_fits 148 = .ok (.invokevirtual 282, 3) := by decide +kernel
theorem dX12_fits_151 : decode cX12_fits 151 = .ok (.aload_n 0, 1) := by decide +kernel
theorem dX12_fits_152 : decode cX12_fits 152 = .ok (.iload_n 1, 1) := by decide +kernel
theorem dX12_fits_153 : decode cX12_fits 153 = .ok (.iconst 1, 1) := by decide +kernel
theorem dX12_fits_154 : decode cX12_fits 154 = .ok (.iadd, 1) := by decide +kernel
theorem dX12_fits_155 : decode cX12_fits 155 = .ok (.iload_n 3, 1) := by decide +kernel
theorem dX12_fits_156 : decode cX12_fits 156 = .ok (.iload 4, 2) := by decide +kernel
theorem dX12_fits_158 : decode cX12_fits 158 = .ok (.invokevirtual 285, 3) := by decide +kernel
theorem dX12_fits_161 : decode cX12_fits 161 = .ok (.ldc 137, 2) := by decide +kernel
theorem dX12_fits_163 : decode cX12_fits 163 = .ok (.if_icmp .ne 7, 3) := by decide +kernel
theorem dX12_fits_166 : decode cX12_fits 166 = .ok (.iconst 1, 1) := by decide +kernel
theorem dX12_fits_167 : decode cX12_fits 167 = .ok (.goto 4, 3) := by decide +kernel
theorem dX12_fits_170 : decode cX12_fits 170 = .ok (.iconst 0, 1) := by decide +kernel
theorem dX12_fits_171 : decode cX12_fits 171 = .ok (.ireturn, 1) := by decide +kernel
theorem dX12_seek_0 : decode cX12_seek 0 = .ok (.iconst 0, 1) := by decide +kernel
theorem dX12_seek_1 : decode cX12_seek 1 = .ok (.istore 7, 2) := by decide +kernel
theorem dX12_seek_3 : decode cX12_seek 3 = .ok (.iconst 0, 1) := by decide +kernel
theorem dX12_seek_4 : decode cX12_seek 4 = .ok (.istore 8, 2) := by decide +kernel
theorem dX12_seek_6 : decode cX12_seek 6 = .ok (.iload 8, 2) := by decide +kernel
theorem dX12_seek_8 : decode cX12_seek 8 = .ok (.aload_n 0, 1) := by decide +kernel
theorem dX12_seek_9 : decode cX12_seek 9 = .ok (.getfield 19, 3) := by decide +kernel
theorem dX12_seek_12 : decode cX12_seek 12 = .ok (.bipush 16, 2) := by decide +kernel
theorem dX12_seek_14 : decode cX12_seek 14 = .ok (.iaload, 1) := by decide +kernel
theorem dX12_seek_15 : decode cX12_seek 15 = .ok (.if_icmp .ge 31, 3) := by decide +kernel
theorem dX12_seek_18 : decode cX12_seek 18 = .ok (.iload_n 1, 1) := by decide +kernel
theorem dX12_seek_19 : decode cX12_seek 19 = .ok (.iload 8, 2) := by decide +kernel
theorem dX12_seek_21 : decode cX12_seek 21 = .ok (.ishr, 1) := by decide +kernel
theorem dX12_seek_22 : decode cX12_seek 22 = .ok (.iconst 1, 1) := by decide +kernel
theorem dX12_seek_23 : decode cX12_seek 23 = .ok (.iand, 1) := by decide +kernel
theorem dX12_seek_24 : decode cX12_seek 24 = .ok (.iconst 1, 1) := by decide +kernel
theorem dX12_seek_25 : decode cX12_seek 25 = .ok (.if_icmp .ne 15, 3) := by decide +kernel
theorem dX12_seek_28 : decode cX12_seek 28 = .ok (.aload_n 0, 1) := by decide +kernel
theorem dX12_seek_29 : decode cX12_seek 29 = .ok (.getfield 49, 3) := by decide +kernel
theorem dX12_seek_32 : decode cX12_seek 32 = .ok (.iload 7, 2) := by decide +kernel
theorem dX12_seek_34 : decode cX12_seek 34 = .ok (.iload 8, 2) := by decide +kernel
theorem dX12_seek_36 : decode cX12_seek 36 = .ok (.iastore, 1) := by decide +kernel
theorem dX12_seek_37 : decode cX12_seek 37 = .ok (.iinc 7 1, 3) := by decide +kernel
theorem dX12_seek_40 : decode cX12_seek 40 = .ok (.iinc 8 1, 3) := by decide +kernel
theorem dX12_seek_43 : decode cX12_seek 43 = .ok (.goto (-37), 3) := by decide +kernel
theorem dX12_seek_46 : decode cX12_seek 46 = .ok (.aload_n 0, 1) := by decide +kernel
theorem dX12_seek_47 : decode cX12_seek 47 = .ok (.invokevirtual 289, 3) := by decide +kernel
theorem dX12_seek_50 : decode cX12_seek 50 = .ok (.aload_n 0, 1) := by decide +kernel
theorem dX12_seek_51 : decode cX12_seek 51 = .ok (.getfield 55, 3) := by decide +kernel
theorem dX12_seek_54 : decode cX12_seek 54 = .ok (.iconst 0, 1) := by decide +kernel
theorem dX12_seek_55 : decode cX12_seek 55 = .ok (.iconst 0, 1) := by decide +kernel
theorem dX12_seek_56 : decode cX12_seek 56 = .ok (.iastore, 1) := by decide +kernel
theorem dX12_seek_57 : decode cX12_seek 57 = .ok (.iconst 0, 1) := by decide +kernel
theorem dX12_seek_58 : decode cX12_seek 58 = .ok (.istore 8, 2) := by decide +kernel
theorem dX12_seek_60 : decode cX12_seek 60 = .ok (.iconst 0, 1) := by decide +kernel
theorem dX12_seek_61 : decode cX12_seek 61 = .ok (.istore 9, 2) := by decide +kernel
theorem dX12_seek_63 : decode cX12_seek 63 = .ok (.aload_n 0, 1) := by decide +kernel
theorem dX12_seek_64 : decode cX12_seek 64 = .ok (.getfield 52, 3) := by decide +kernel
theorem dX12_seek_67 : decode cX12_seek 67 = .ok (.iconst 0, 1) := by decide +kernel
theorem dX12_seek_68 : decode cX12_seek 68 = .ok (.iconst (-1), 1) := by decide +kernel
theorem dX12_seek_69 : decode cX12_seek 69 = .ok (.iastore, 1) := by decide +kernel
theorem dX12_seek_70 : decode cX12_seek 70 = .ok (.iload 9, 2) := by decide +kernel
theorem dX12_seek_72 : decode cX12_seek 72 = .ok (.ifCond .lt 213, 3) := by decide +kernel
theorem dX12_seek_75 : decode cX12_seek 75 = .ok (.iload 8, 2) := by decide +kernel
theorem dX12_seek_77 : decode cX12_seek 77 = .ok (.ifCond .eq 8, 3) := by decide +kernel
theorem dX12_seek_80 : decode cX12_seek 80 = .ok (.iload 6, 2) := by decide +kernel
theorem dX12_seek_82 : decode cX12_seek 82 = .ok (.ifCond .ne 203, 3) := by decide +kernel
theorem dX12_seek_85 : decode cX12_seek 85 = .ok (.aload_n 0, 1) := by decide +kernel
theorem dX12_seek_86 : decode cX12_seek 86 = .ok (.getfield 52, 3) := by decide +kernel
theorem dX12_seek_89 : decode cX12_seek 89 = .ok (.iload 9, 2) := by decide +kernel
theorem dX12_seek_91 : decode cX12_seek 91 = .ok (.dup2, 1) := by decide +kernel
theorem dX12_seek_92 : decode cX12_seek 92 = .ok (.iaload, 1) := by decide +kernel
theorem dX12_seek_93 : decode cX12_seek 93 = .ok (.iconst 1, 1) := by decide +kernel
theorem dX12_seek_94 : decode cX12_seek 94 = .ok (.iadd, 1) := by decide +kernel
theorem dX12_seek_95 : decode cX12_seek 95 = .ok (.iastore, 1) := by decide +kernel
theorem dX12_seek_96 : decode cX12_seek 96 = .ok (.aload_n 0, 1) := by decide +kernel
theorem dX12_seek_97 : decode cX12_seek 97 = .ok (.getfield 49, 3) := by decide +kernel
theorem dX12_seek_100 : decode cX12_seek 100 = .ok (.iload 9, 2) := by decide +kernel
theorem dX12_seek_102 : decode cX12_seek 102 = .ok (.iaload, 1) := by decide +kernel
theorem dX12_seek_103 : decode cX12_seek 103 = .ok (.istore 10, 2) := by decide +kernel
theorem dX12_seek_105 : decode cX12_seek 105 = .ok (.aload_n 0, 1) := by decide +kernel
theorem dX12_seek_106 : decode cX12_seek 106 = .ok (.getfield 52, 3) := by decide +kernel
theorem dX12_seek_109 : decode cX12_seek 109 = .ok (.iload 9, 2) := by decide +kernel
theorem dX12_seek_111 : decode cX12_seek 111 = .ok (.iaload, 1) := by decide +kernel
theorem dX12_seek_112 : decode cX12_seek 112 = .ok (.aload_n 0, 1) := by decide +kernel
theorem dX12_seek_113 : decode cX12_seek 113 = .ok (.iload 10, 2) := by decide +kernel
theorem dX12_seek_115 : decode cX12_seek 115 = .ok (.invokevirtual 243, 3) := by decide +kernel
theorem dX12_seek_118 : decode cX12_seek 118 = .ok (.if_icmp .ne 9, 3) := by decide +kernel
theorem dX12_seek_121 : decode cX12_seek 121 = .ok (.iinc 9 (-1), 3) := by decide +kernel
theorem dX12_seek_124 : decode cX12_seek 124 = .ok (.goto 158, 3) := by decide +kernel
theorem dX12_seek_127 : decode cX12_seek 127 = .ok (.iload 5, 2) := by decide +kernel
theorem dX12_seek_129 : decode cX12_seek 129 = .ok (.ifCond .eq 23, 3) := by decide +kernel
