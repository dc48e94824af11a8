theorem dX6_readDish_22 : decode cX6_readDish 22 = .ok (.if_icmp .lt 8, 3) := by decide +kernel
theorem dX6_readDish_25 : decode cX6_readDish 25 = .ok (.aload_n 0, 1) := by decide +kernel
theorem dX6_readDish_26 : decode cX6_readDish 26 = .ok (.iconst 3, 1) := by decide +kernel
theorem dX6_readDish_27 : decode cX6_readDish 27 = .ok (.putfield 24, 3) := by decide +kernel
theorem dX6_readDish_30 : decode cX6_readDish 30 = .ok (.aload_n 0, 1) := by decide +kernel
theorem dX6_readDish_31 : decode cX6_readDish 31 = .ok (.ldc 82, 2) := by decide +kernel
theorem dX6_readDish_33 : decode cX6_readDish 33 = .ok (.invokevirtual 54, 3) := by decide +kernel
theorem dX6_readDish_36 : decode cX6_readDish 36 = .ok (.aload_n 0, 1) := by decide +kernel
theorem dX6_readDish_37 : decode cX6_readDish 37 = .ok (.getfield 24, 3) := by decide +kernel
theorem dX6_readDish_40 : decode cX6_readDish 40 = .ok (.ifCond .eq 4, 3) := by decide +kernel
theorem dX6_readDish_43 : decode cX6_readDish 43 = .ok (.return_, 1) := by decide +kernel
theorem dX6_readDish_44 : decode cX6_readDish 44 = .ok (.aload_n 1, 1) := by decide +kernel
theorem dX6_readDish_45 : decode cX6_readDish 45 = .ok (.getfield 84, 3) := by decide +kernel
theorem dX6_readDish_48 : decode cX6_readDish 48 = .ok (.istore_n 2, 1) := by decide +kernel
theorem dX6_readDish_49 : decode cX6_readDish 49 = .ok (.aload_n 1, 1) := by decide +kernel
theorem dX6_readDish_50 : decode cX6_readDish 50 = .ok (.getfield 87, 3) := by decide +kernel
theorem dX6_readDish_53 : decode cX6_readDish 53 = .ok (.iload_n 2, 1) := by decide +kernel
theorem dX6_readDish_54 : decode cX6_readDish 54 = .ok (.aload_n 0, 1) := by decide +kernel
theorem dX6_readDish_55 : decode cX6_readDish 55 = .ok (.iconst 0, 1) := by decide +kernel
theorem dX6_readDish_56 : decode cX6_readDish 56 = .ok (.iconst 2, 1) := by decide +kernel
theorem dX6_readDish_57 : decode cX6_readDish 57 = .ok (.invokevirtual 66, 3) := by decide +kernel
theorem dX6_readDish_60 : decode cX6_readDish 60 = .ok (.iastore, 1) := by decide +kernel
theorem dX6_readDish_61 : decode cX6_readDish 61 = .ok (.aload_n 1, 1) := by decide +kernel
theorem dX6_readDish_62 : decode cX6_readDish 62 = .ok (.getfield 90, 3) := by decide +kernel
theorem dX6_readDish_65 : decode cX6_readDish 65 = .ok (.iload_n 2, 1) := by decide +kernel
theorem dX6_readDish_66 : decode cX6_readDish 66 = .ok (.aload_n 0, 1) := by decide +kernel
theorem dX6_readDish_67 : decode cX6_readDish 67 = .ok (.iconst 0, 1) := by decide +kernel
theorem dX6_readDish_68 : decode cX6_readDish 68 = .ok (.bipush 9, 2) := by decide +kernel
theorem dX6_readDish_70 : decode cX6_readDish 70 = .ok (.invokevirtual 66, 3) := by decide +kernel
theorem dX6_readDish_73 : decode cX6_readDish 73 = .ok (.iastore, 1) := by decide +kernel
theorem dX6_readDish_74 : decode cX6_readDish 74 = .ok (.aload_n 1, 1) := by decide +kernel
theorem dX6_readDish_75 : decode cX6_readDish 75 = .ok (.getfield 93, 3) := by decide +kernel
theorem dX6_readDish_78 : decode cX6_readDish 78 = .ok (.iload_n 2, 1) := by decide +kernel
theorem dX6_readDish_79 : decode cX6_readDish 79 = .ok (.aload_n 0, 1) := by decide +kernel
theorem dX6_readDish_80 : decode cX6_readDish 80 = .ok (.iconst 0, 1) := by decide +kernel
theorem dX6_readDish_81 : decode cX6_readDish 81 = .ok (.iconst 1, 1) := by decide +kernel
theorem dX6_readDish_82 : decode cX6_readDish 82 = .ok (.invokevirtual 66, 3) := by decide +kernel
theorem dX6_readDish_85 : decode cX6_readDish 85 = .ok (.iastore, 1) := by decide +kernel
theorem dX6_readDish_86 : decode cX6_readDish 86 = .ok (.aload_n 0, 1) := by decide +kernel
theorem dX6_readDish_87 : decode cX6_readDish 87 = .ok (.invokevirtual 70, 3) := by decide +kernel
theorem dX6_readDish_90 : decode cX6_readDish 90 = .ok (.aload_n 1, 1) := by decide +kernel
theorem dX6_readDish_91 : decode cX6_readDish 91 = .ok (.getfield 96, 3) := by decide +kernel
theorem dX6_readDish_94 : decode cX6_readDish 94 = .ok (.iload_n 2, 1) := by decide +kernel
theorem dX6_readDish_95 : decode cX6_readDish 95 = .ok (.aload_n 1, 1) := by decide +kernel
theorem dX6_readDish_96 : decode cX6_readDish 96 = .ok (.getfield 99, 3) := by decide +kernel
theorem dX6_readDish_99 : decode cX6_readDish 99 = .ok (.iastore, 1) := by decide +kernel
theorem dX6_readDish_100 : decode cX6_readDish 100 = .ok (.aload_n 0, 1) := by decide +kernel
theorem dX6_readDish_101 : decode cX6_readDish 101 = .ok (.aload_n 1, 1) := by decide +kernel
theorem dX6_readDish_102 : decode cX6_readDish 102 = .ok (.invokevirtual 102, 3) := by decide +kernel
theorem dX6_readDish_105 : decode cX6_readDish 105 = .ok (.aload_n 1, 1) := by decide +kernel
theorem dX6_readDish_106 : decode cX6_readDish 106 = .ok (.getfield 105, 3) := by decide +kernel
theorem dX6_readDish_109 : decode cX6_readDish 109 = .ok (.iload_n 2, 1) := by decide +kernel
theorem dX6_readDish_110 : decode cX6_readDish 110 = .ok (.aload_n 1, 1) := by decide +kernel
theorem dX6_readDish_111 : decode cX6_readDish 111 = .ok (.getfield 99, 3) := by decide +kernel
theorem dX6_readDish_114 : decode cX6_readDish 114 = .ok (.aload_n 1, 1) := by decide +kernel
theorem dX6_readDish_115 : decode cX6_readDish 115 = .ok (.getfield 96, 3) := by decide +kernel
theorem dX6_readDish_118 : decode cX6_readDish 118 = .ok (.iload_n 2, 1) := by decide +kernel
theorem dX6_readDish_119 : decode cX6_readDish 119 = .ok (.iaload, 1) := by decide +kernel
theorem dX6_readDish_120 : decode cX6_readDish 120 = .ok (.isub, 1) := by decide +kernel
theorem dX6_readDish_121 : decode cX6_readDish 121 = .ok (.iastore, 1) := by decide +kernel
theorem dX6_readDish_122 : decode cX6_readDish 122 = .ok (.aload_n 1, 1) := by decide +kernel
theorem dX6_readDish_123 : decode cX6_readDish 123 = .ok (.dup, 1) := by decide +kernel
theorem dX6_readDish_124 : decode cX6_readDish 124 = .ok (.getfield 84, 3) := by decide +kernel
theorem dX6_readDish_127 : decode cX6_readDish 127 = .ok (.iconst 1, 1) := by decide +kernel
theorem dX6_readDish_128 : decode cX6_readDish 128 = .ok (.iadd, 1) := by decide +kernel
theorem dX6_readDish_129 : decode cX6_readDish 129 = .ok (.putfield 84, 3) := by decide +kernel
theorem dX6_readDish_132 : decode cX6_readDish 132 = .ok (.return_, 1) := by decide +kernel
theorem dX6_readSteps_0 : decode cX6_readSteps 0 = .ok (.iconst 0, 1) := by decide +kernel
theorem dX6_readSteps_1 : decode cX6_readSteps 1 = .ok (.istore_n 2, 1) := by decide +kernel
theorem dX6_readSteps_2 : decode cX6_readSteps 2 = .ok (.iload_n 2, 1) := by decide +kernel
theorem dX6_readSteps_3 : decode cX6_readSteps 3 = .ok (.iconst 3, 1) := by decide +kernel
theorem dX6_readSteps_4 : decode cX6_readSteps 4 = .ok (.if_icmp .gt 80, 3) := by decide +kernel
theorem dX6_readSteps_7 : decode cX6_readSteps 7 = .ok (.aload_n 0, 1) := by decide +kernel
theorem dX6_readSteps_8 : decode cX6_readSteps 8 = .ok (.getfield 24, 3) := by decide +kernel
theorem dX6_readSteps_11 : decode cX6_readSteps 11 = .ok (.ifCond .ne 73, 3) := by decide +kernel
theorem dX6_readSteps_14 : decode cX6_readSteps 14 = .ok (.aload_n 0, 1) := by decide +kernel
theorem dX6_readSteps_15 : decode cX6_readSteps 15 = .ok (.invokevirtual 108, 3) := by decide +kernel
theorem dX6_readSteps_18 : decode cX6_readSteps 18 = .ok (.istore_n 3, 1) := by decide +kernel
theorem dX6_readSteps_19 : decode cX6_readSteps 19 = .ok (.iload_n 3, 1) := by decide +kernel
theorem dX6_readSteps_20 : decode cX6_readSteps 20 = .ok (.iconst (-1), 1) := by decide +kernel
theorem dX6_readSteps_21 : decode cX6_readSteps 21 = .ok (.if_icmp .ne 13, 3) := by decide +kernel
theorem dX6_readSteps_24 : decode cX6_readSteps 24 = .ok (.iload_n 2, 1) := by decide +kernel
theorem dX6_readSteps_25 : decode cX6_readSteps 25 = .ok (.ifCond .ne 8, 3) := by decide +kernel
theorem dX6_readSteps_28 : decode cX6_readSteps 28 = .ok (.aload_n 0, 1) := by decide +kernel
theorem dX6_readSteps_29 : decode cX6_readSteps 29 = .ok (.iconst 1, 1) := by decide +kernel
theorem dX6_readSteps_30 : decode cX6_readSteps 30 = .ok (.putfield 24, 3) := by decide +kernel
theorem dX6_readSteps_33 : decode cX6_readSteps 33 = .ok (.return_, 1) := by decide +kernel
theorem dX6_readSteps_34 : decode cX6_readSteps 34 = .ok (.iload_n 2, 1) := by decide +kernel
theorem dX6_readSteps_35 : decode cX6_readSteps 35 = .ok (.iconst 3, 1) := by decide +kernel
theorem dX6_readSteps_36 : decode cX6_readSteps 36 = .ok (.if_icmp .eq 12, 3) := by decide +kernel
theorem dX6_readSteps_39 : decode cX6_readSteps 39 = .ok (.aload_n 1, 1) := by decide +kernel
theorem dX6_readSteps_40 : decode cX6_readSteps 40 = .ok (.getfield 99, 3) := by decide +kernel
theorem dX6_readSteps_43 : decode cX6_readSteps 43 = .ok (.bipush 24, 2) := by decide +kernel
theorem dX6_readSteps_45 : decode cX6_readSteps 45 = .ok (.if_icmp .lt 9, 3) := by decide +kernel
theorem dX6_readSteps_48 : decode cX6_readSteps 48 = .ok (.aload_n 0, 1) := by decide +kernel
theorem dX6_readSteps_49 : decode cX6_readSteps 49 = .ok (.iconst 3, 1) := by decide +kernel
theorem dX6_readSteps_50 : decode cX6_readSteps 50 = .ok (.putfield 24, 3) := by decide +kernel
theorem dX6_readSteps_53 : decode cX6_readSteps 53 = .ok (.return_, 1) := by decide +kernel
theorem dX6_readSteps_54 : decode cX6_readSteps 54 = .ok (.aload_n 0, 1) := by decide +kernel
theorem dX6_readSteps_55 : decode cX6_readSteps 55 = .ok (.invokevirtual 30, 3) := by decide +kernel
theorem dX6_readSteps_58 : decode cX6_readSteps 58 = .ok (.aload_n 0, 1) := by decide +kernel
theorem dX6_readSteps_59 : decode cX6_readSteps 59 = .ok (.aload_n 1, 1) := by decide +kernel
theorem dX6_readSteps_60 : decode cX6_readSteps 60 = .ok (.aload_n 1, 1) := by decide +kernel
theorem dX6_readSteps_61 : decode cX6_readSteps 61 = .ok (.getfield 99, 3) := by decide +kernel
theorem dX6_readSteps_64 : decode cX6_readSteps 64 = .ok (.iload_n 3, 1) := by decide +kernel
theorem dX6_readSteps_65 : decode cX6_readSteps 65 = .ok (.invokevirtual 112, 3) := by decide +kernel
theorem dX6_readSteps_68 : decode cX6_readSteps 68 = .ok (.aload_n 1, 1) := by decide +kernel
theorem dX6_readSteps_69 : decode cX6_readSteps 69 = .ok (.dup, 1) := by decide +kernel
theorem dX6_readSteps_70 : decode cX6_readSteps 70 = .ok (.getfield 99, 3) := by decide +kernel
theorem dX6_readSteps_73 : decode cX6_readSteps 73 = .ok (.iconst 1, 1) := by decide +kernel
theorem dX6_readSteps_74 : decode cX6_readSteps 74 = .ok (.iadd, 1) := by decide +kernel
theorem dX6_readSteps_75 : decode cX6_readSteps 75 = .ok (.putfield 99, 3) := by decide +kernel
theorem dX6_readSteps_78 : decode cX6_readSteps 78 = .ok (.iinc 2 1, 3) := by decide +kernel
theorem dX6_readSteps_81 : decode cX6_readSteps 81 = .ok (.goto (-79), 3) := by decide +kernel
theorem dX6_readSteps_84 : decode cX6_readSteps 84 = .ok (.return_, 1) := by decide +kernel
theorem dX6_readStep_0 : decode cX6_readStep 0 = .ok (.aload_n 1, 1) := by decide +kernel
theorem dX6_readStep_1 : decode cX6_readStep 1 = .ok (.getfield 116, 3) := by decide +kernel
theorem dX6_readStep_4 : decode cX6_readStep 4 = .ok (.iload_n 2, 1) := by decide +kernel
theorem dX6_readStep_5 : decode cX6_readStep 5 = .ok (.iload_n 3, 1) := by decide +kernel
theorem dX6_readStep_6 : decode cX6_readStep 6 = .ok (.iastore, 1) := by decide +kernel
theorem dX6_readStep_7 : decode cX6_readStep 7 = .ok (.aload_n 1, 1) := by decide +kernel
theorem dX6_readStep_8 : decode cX6_readStep 8 = .ok (.getfield 119, 3) := by decide +kernel
theorem dX6_readStep_11 : decode cX6_readStep 11 = .ok (.iload_n 2, 1) := by decide +kernel
theorem dX6_readStep_12 : decode cX6_readStep 12 = .ok (.aload_n 0, 1) := by decide +kernel
theorem dX6_readStep_13 : decode cX6_readStep 13 = .ok (.iconst 1, 1) := by decide +kernel
theorem dX6_readStep_14 : decode cX6_readStep 14 = .ok (.bipush 30, 2) := by decide +kernel
theorem dX6_readStep_16 : decode cX6_readStep 16 = .ok (.invokevirtual 66, 3) := by decide +kernel
theorem dX6_readStep_19 : decode cX6_readStep 19 = .ok (.iastore, 1) := by decide +kernel
theorem dX6_readStep_20 : decode cX6_readStep 20 = .ok (.aload_n 1, 1) := by decide +kernel
theorem dX6_readStep_21 : decode cX6_readStep 21 = .ok (.getfield 122, 3) := by decide +kernel
theorem dX6_readStep_24 : decode cX6_readStep 24 = .ok (.iload_n 2, 1) := by decide +kernel
theorem dX6_readStep_25 : decode cX6_readStep 25 = .ok (.aload_n 0, 1) := by decide +kernel
theorem dX6_readStep_26 : decode cX6_readStep 26 = .ok (.iconst 0, 1) := by decide +kernel
theorem dX6_readStep_27 : decode cX6_readStep 27 = .ok (.iconst 1, 1) := by decide +kernel
theorem dX6_readStep_28 : decode cX6_readStep 28 = .ok (.invokevirtual 66, 3) := by decide +kernel
theorem dX6_readStep_31 : decode cX6_readStep 31 = .ok (.iastore, 1) := by decide +kernel
theorem dX6_readStep_32 : decode cX6_readStep 32 = .ok (.iload_n 3, 1) := by decide +kernel
theorem dX6_readStep_33 : decode cX6_readStep 33 = .ok (.ifCond .eq 8, 3) := by decide +kernel
theorem dX6_readStep_36 : decode cX6_readStep 36 = .ok (.iload_n 3, 1) := by decide +kernel
theorem dX6_readStep_37 : decode cX6_readStep 37 = .ok (.iconst 1, 1) := by decide +kernel
theorem dX6_readStep_38 : decode cX6_readStep 38 = .ok (.if_icmp .ne 7, 3) := by decide +kernel
theorem dX6_readStep_41 : decode cX6_readStep 41 = .ok (.iconst 1, 1) := by decide +kernel
theorem dX6_readStep_42 : decode cX6_readStep 42 = .ok (.goto 4, 3) := by decide +kernel
theorem dX6_readStep_45 : decode cX6_readStep 45 = .ok (.iconst 0, 1) := by decide +kernel
theorem dX6_readStep_46 : decode cX6_readStep 46 = .ok (.istore 4, 2) := by decide +kernel
theorem dX6_readStep_48 : decode cX6_readStep 48 = .ok (.aload_n 1, 1) := by decide +kernel
theorem dX6_readStep_49 : decode cX6_readStep 49 = .ok (.getfield 125, 3) := by decide +kernel
theorem dX6_readStep_52 : decode cX6_readStep 52 = .ok (.iload_n 2, 1) := by decide +kernel
theorem dX6_readStep_53 : decode cX6_readStep 53 = .ok (.iload 4, 2) := by decide +kernel
theorem dX6_readStep_55 : decode cX6_readStep 55 = .ok (.ifCond .eq 12, 3) := by decide +kernel
theorem dX6_readStep_58 : decode cX6_readStep 58 = .ok (.aload_n 0, 1) := by decide +kernel
theorem dX6_readStep_59 : decode cX6_readStep 59 = .ok (.iconst 0, 1) := by decide +kernel
theorem dX6_readStep_60 : decode cX6_readStep 60 = .ok (.iconst 2, 1) := by decide +kernel
theorem dX6_readStep_61 : decode cX6_readStep 61 = .ok (.invokevirtual 66, 3) := by decide +kernel
theorem dX6_readStep_64 : decode cX6_readStep 64 = .ok (.goto 13, 3) := by decide +kernel
theorem dX6_readStep_67 : decode cX6_readStep 67 = .ok (.iload_n 3, 1) := by decide +kernel
theorem dX6_readStep_68 : decode cX6_readStep 68 = .ok (.iconst 2, 1) := by decide +kernel
theorem dX6_readStep_69 : decode cX6_readStep 69 = .ok (.if_icmp .ne 7, 3) := by decide +kernel
theorem dX6_readStep_72 : decode cX6_readStep 72 = .ok (.iconst 2, 1) := by decide +kernel
theorem dX6_readStep_73 : decode cX6_readStep 73 = .ok (.goto 4, 3) := by decide +kernel
theorem dX6_readStep_76 : decode cX6_readStep 76 = .ok (.iconst 0, 1) := by decide +kernel
theorem dX6_readStep_77 : decode cX6_readStep 77 = .ok (.iastore, 1) := by decide +kernel
theorem dX6_readStep_78 : decode cX6_readStep 78 = .ok (.iload 4, 2) := by decide +kernel
theorem dX6_readStep_80 : decode cX6_readStep 80 = .ok (.ifCond .ne 8, 3) := by decide +kernel
theorem dX6_readStep_83 : decode cX6_readStep 83 = .ok (.iload_n 3, 1) := by decide +kernel
theorem dX6_readStep_84 : decode cX6_readStep 84 = .ok (.iconst 4, 1) := by decide +kernel
theorem dX6_readStep_85 : decode cX6_readStep 85 = .ok (.if_icmp .ne 7, 3) := by decide +kernel
theorem dX6_readStep_88 : decode cX6_readStep 88 = .ok (.iconst 1, 1) := by decide +kernel
theorem dX6_readStep_89 : decode cX6_readStep 89 = .ok (.goto 4, 3) := by decide +kernel
theorem dX6_readStep_92 : decode cX6_readStep 92 = .ok (.iconst 0, 1) := by decide +kernel
theorem dX6_readStep_93 : decode cX6_readStep 93 = .ok (.istore 5, 2) := by decide +kernel
theorem dX6_readStep_95 : decode cX6_readStep 95 = .ok (.iload 5, 2) := by decide +kernel
theorem dX6_readStep_97 : decode cX6_readStep 97 = .ok (.ifCond .eq 21, 3) := by decide +kernel
theorem dX6_readStep_100 : decode cX6_readStep 100 = .ok (.aload_n 0, 1) := by decide +kernel
theorem dX6_readStep_101 : decode cX6_readStep 101 = .ok (.iconst 0, 1) := by decide +kernel
theorem dX6_readStep_102 : decode cX6_readStep 102 = .ok (.iload_n 3, 1) := by decide +kernel
theorem dX6_readStep_103 : decode cX6_readStep 103 = .ok (.ifCond .ne 7, 3) := by decide +kernel
theorem dX6_readStep_106 : decode cX6_readStep 106 = .ok (.iconst 1, 1) := by decide +kernel
theorem dX6_readStep_107 : decode cX6_readStep 107 = .ok (.goto 5, 3) := by decide +kernel
theorem dX6_readStep_110 : decode cX6_readStep 110 = .ok (.bipush 9, 2) := by decide +kernel
theorem dX6_readStep_112 : decode cX6_readStep 112 = .ok (.invokevirtual 66, 3) := by decide +kernel
theorem dX6_readStep_115 : decode cX6_readStep 115 = .ok (.goto 5, 3) := by decide +kernel
theorem dX6_readStep_118 : decode cX6_readStep 118 = .ok (.ldc 128, 2) := by decide +kernel
theorem dX6_readStep_120 : decode cX6_readStep 120 = .ok (.istore 6, 2) := by decide +kernel
theorem dX6_readStep_122 : decode cX6_readStep 122 = .ok (.aload_n 1, 1) := by decide +kernel
theorem dX6_readStep_123 : decode cX6_readStep 123 = .ok (.getfield 129, 3) := by decide +kernel
theorem dX6_readStep_126 : decode cX6_readStep 126 = .ok (.iload_n 2, 1) := by decide +kernel
theorem dX6_readStep_127 : decode cX6_readStep 127 = .ok (.iload 6, 2) := by decide +kernel
theorem dX6_readStep_129 : decode cX6_readStep 129 = .ok (.iastore, 1) := by decide +kernel
theorem dX6_readStep_130 : decode cX6_readStep 130 = .ok (.aload_n 1, 1) := by decide +kernel
theorem dX6_readStep_131 : decode cX6_readStep 131 = .ok (.getfield 132, 3) := by decide +kernel
theorem dX6_readStep_134 : decode cX6_readStep 134 = .ok (.iload_n 2, 1) := by decide +kernel
theorem dX6_readStep_135 : decode cX6_readStep 135 = .ok (.iload_n 3, 1) := by decide +kernel
theorem dX6_readStep_136 : decode cX6_readStep 136 = .ok (.iconst 1, 1) := by decide +kernel
theorem dX6_readStep_137 : decode cX6_readStep 137 = .ok (.if_icmp .ne 14, 3) := by decide +kernel
theorem dX6_readStep_140 : decode cX6_readStep 140 = .ok (.aload_n 0, 1) := by decide +kernel
theorem dX6_readStep_141 : decode cX6_readStep 141 = .ok (.iload 6, 2) := by decide +kernel
theorem dX6_readStep_143 : decode cX6_readStep 143 = .ok (.bipush 9, 2) := by decide +kernel
theorem dX6_readStep_145 : decode cX6_readStep 145 = .ok (.invokevirtual 66, 3) := by decide +kernel
theorem dX6_readStep_148 : decode cX6_readStep 148 = .ok (.goto 5, 3) := by decide +kernel
theorem dX6_readStep_151 : decode cX6_readStep 151 = .ok (.ldc 128, 2) := by decide +kernel
theorem dX6_readStep_153 : decode cX6_readStep 153 = .ok (.iastore, 1) := by decide +kernel
theorem dX6_readStep_154 : decode cX6_readStep 154 = .ok (.aload_n 0, 1) := by decide +kernel
theorem dX6_readStep_155 : decode cX6_readStep 155 = .ok (.invokevirtual 70, 3) := by decide +kernel
theorem dX6_readStep_158 : decode cX6_readStep 158 = .ok (.return_, 1) := by decide +kernel
theorem dX6_stepWord_0 : decode cX6_stepWord 0 = .ok (.aload_n 0, 1) := by decide +kernel
theorem dX6_stepWord_1 : decode cX6_stepWord 1 = .ok (.ldc 135, 2) := by decide +kernel
theorem dX6_stepWord_3 : decode cX6_stepWord 3 = .ok (.invokevirtual 39, 3) := by decide +kernel
theorem dX6_stepWord_6 : decode cX6_stepWord 6 = .ok (.ifCond .eq 5, 3) := by decide +kernel
theorem dX6_stepWord_9 : decode cX6_stepWord 9 = .ok (.iconst 0, 1) := by decide +kernel
theorem dX6_stepWord_10 : decode cX6_stepWord 10 = .ok (.ireturn, 1) := by decide +kernel
theorem dX6_stepWord_11 : decode cX6_stepWord 11 = .ok (.aload_n 0, 1) := by decide +kernel
theorem dX6_stepWord_12 : decode cX6_stepWord 12 = .ok (.ldc 137, 2) := by decide +kernel
theorem dX6_stepWord_14 : decode cX6_stepWord 14 = .ok (.invokevirtual 39, 3) := by decide +kernel
theorem dX6_stepWord_17 : decode cX6_stepWord 17 = .ok (.ifCond .eq 5, 3) := by decide +kernel
theorem dX6_stepWord_20 : decode cX6_stepWord 20 = .ok (.iconst 1, 1) := by decide +kernel
theorem dX6_stepWord_21 : decode cX6_stepWord 21 = .ok (.ireturn, 1) := by decide +kernel
theorem dX6_stepWord_22 : decode cX6_stepWord 22 = .ok (.aload_n 0, 1) := by decide +kernel
theorem dX6_stepWord_23 : decode cX6_stepWord 23 = .ok (.ldc 139, 2) := by decide +kernel
theorem dX6_stepWord_25 : decode cX6_stepWord 25 = .ok (.invokevirtual 39, 3) := by decide +kernel
theorem dX6_stepWord_28 : decode cX6_stepWord 28 = .ok (.ifCond .eq 5, 3) := by decide +kernel
theorem dX6_stepWord_31 : decode cX6_stepWord 31 = .ok (.iconst 2, 1) := by decide +kernel
theorem dX6_stepWord_32 : decode cX6_stepWord 32 = .ok (.ireturn, 1) := by decide +kernel
theorem dX6_stepWord_33 : decode cX6_stepWord 33 = .ok (.aload_n 0, 1) := by decide +kernel
theorem dX6_stepWord_34 : decode cX6_stepWord 34 = .ok (.ldc 141, 2) := by decide +kernel
theorem dX6_stepWord_36 : decode cX6_stepWord 36 = .ok (.invokevirtual 39, 3) := by decide +kernel
theorem dX6_stepWord_39 : decode cX6_stepWord 39 = .ok (.ifCond .eq 5, 3) := by decide +kernel
theorem dX6_stepWord_42 : decode cX6_stepWord 42 = .ok (.iconst 3, 1) := by decide +kernel
theorem dX6_stepWord_43 : decode cX6_stepWord 43 = .ok (.ireturn, 1) := by decide +kernel
theorem dX6_stepWord_44 : decode cX6_stepWord 44 = .ok (.aload_n 0, 1) := by decide +kernel
theorem dX6_stepWord_45 : decode cX6_stepWord 45 = .ok (.ldc 143, 2) := by decide +kernel
theorem dX6_stepWord_47 : decode cX6_stepWord 47 = .ok (.invokevirtual 39, 3) := by decide +kernel
theorem dX6_stepWord_50 : decode cX6_stepWord 50 = .ok (.ifCond .eq 7, 3) := by decide +kernel
theorem dX6_stepWord_53 : decode cX6_stepWord 53 = .ok (.iconst 4, 1) := by decide +kernel
theorem dX6_stepWord_54 : decode cX6_stepWord 54 = .ok (.goto 4, 3) := by decide +kernel
theorem dX6_stepWord_57 : decode cX6_stepWord 57 = .ok (.iconst (-1), 1) := by decide +kernel
theorem dX6_stepWord_58 : decode cX6_stepWord 58 = .ok (.ireturn, 1) := by decide +kernel
theorem dX6_takeWord_0 : decode cX6_takeWord 0 = .ok (.aload_n 0, 1) := by decide +kernel
theorem dX6_takeWord_1 : decode cX6_takeWord 1 = .ok (.getfield 24, 3) := by decide +kernel
theorem dX6_takeWord_4 : decode cX6_takeWord 4 = .ok (.ifCond .eq 4, 3) := by decide +kernel
theorem dX6_takeWord_7 : decode cX6_takeWord 7 = .ok (.return_, 1) := by decide +kernel
theorem dX6_takeWord_8 : decode cX6_takeWord 8 = .ok (.aload_n 0, 1) := by decide +kernel
theorem dX6_takeWord_9 : decode cX6_takeWord 9 = .ok (.aload_n 1, 1) := by decide +kernel
theorem dX6_takeWord_10 : decode cX6_takeWord 10 = .ok (.invokevirtual 39, 3) := by decide +kernel
theorem dX6_takeWord_13 : decode cX6_takeWord 13 = .ok (.ifCond .eq 10, 3) := by decide +kernel
theorem dX6_takeWord_16 : decode cX6_takeWord 16 = .ok (.aload_n 0, 1) := by decide +kernel
theorem dX6_takeWord_17 : decode cX6_takeWord 17 = .ok (.invokevirtual 30, 3) := by decide +kernel
theorem dX6_takeWord_20 : decode cX6_takeWord 20 = .ok (.goto 8, 3) := by decide +kernel
theorem dX6_takeWord_23 : decode cX6_takeWord 23 = .ok (.aload_n 0, 1) := by decide +kernel
theorem dX6_takeWord_24 : decode cX6_takeWord 24 = .ok (.iconst 1, 1) := by decide +kernel
theorem dX6_takeWord_25 : decode cX6_takeWord 25 = .ok (.putfield 24, 3) := by decide +kernel
theorem dX6_takeWord_28 : decode cX6_takeWord 28 = .ok (.return_, 1) := by decide +kernel
theorem dX6_takeSign_0 : decode cX6_takeSign 0 = .ok (.aload_n 0, 1) := by decide +kernel
theorem dX6_takeSign_1 : decode cX6_takeSign 1 = .ok (.getfield 24, 3) := by decide +kernel
theorem dX6_takeSign_4 : decode cX6_takeSign 4 = .ok (.ifCond .eq 4, 3) := by decide +kernel
theorem dX6_takeSign_7 : decode cX6_takeSign 7 = .ok (.return_, 1) := by decide +kernel
theorem dX6_takeSign_8 : decode cX6_takeSign 8 = .ok (.aload_n 0, 1) := by decide +kernel
theorem dX6_takeSign_9 : decode cX6_takeSign 9 = .ok (.getfield 49, 3) := by decide +kernel
theorem dX6_takeSign_12 : decode cX6_takeSign 12 = .ok (.iconst 3, 1) := by decide +kernel
theorem dX6_takeSign_13 : decode cX6_takeSign 13 = .ok (.if_icmp .ne 10, 3) := by decide +kernel
theorem dX6_takeSign_16 : decode cX6_takeSign 16 = .ok (.aload_n 0, 1) := by decide +kernel
theorem dX6_takeSign_17 : decode cX6_takeSign 17 = .ok (.invokevirtual 30, 3) := by decide +kernel
theorem dX6_takeSign_20 : decode cX6_takeSign 20 = .ok (.goto 8, 3) := by decide +kernel
theorem dX6_takeSign_23 : decode cX6_takeSign 23 = .ok (.aload_n 0, 1) := by decide +kernel
theorem dX6_takeSign_24 : decode cX6_takeSign 24 = .ok (.iconst 1, 1) := by decide +kernel
theorem dX6_takeSign_25 : decode cX6_takeSign 25 = .ok (.putfield 24, 3) := by decide +kernel
theorem dX6_takeSign_28 : decode cX6_takeSign 28 = .ok (.return_, 1) := by decide +kernel
theorem dX6_takeNumber_0 : decode cX6_takeNumber 0 = .ok (.aload_n 0, 1) := by decide +kernel
theorem dX6_takeNumber_1 : decode cX6_takeNumber 1 = .ok (.getfield 24, 3) := by decide +kernel
theorem dX6_takeNumber_4 : decode cX6_takeNumber 4 = .ok (.ifCond .eq 5, 3) := by decide +kernel
theorem dX6_takeNumber_7 : decode cX6_takeNumber 7 = .ok (.iconst 0, 1) := by decide +kernel
theorem dX6_takeNumber_8 : decode cX6_takeNumber 8 = .ok (.ireturn, 1) := by decide +kernel
theorem dX6_takeNumber_9 : decode cX6_takeNumber 9 = .ok (.aload_n 0, 1) := by decide +kernel
theorem dX6_takeNumber_10 : decode cX6_takeNumber 10 = .ok (.getfield 49, 3) := by decide +kernel
theorem dX6_takeNumber_13 : decode cX6_takeNumber 13 = .ok (.iconst 2, 1) := by decide +kernel
theorem dX6_takeNumber_14 : decode cX6_takeNumber 14 = .ok (.if_icmp .eq 10, 3) := by decide +kernel
theorem dX6_takeNumber_17 : decode cX6_takeNumber 17 = .ok (.aload_n 0, 1) := by decide +kernel
theorem dX6_takeNumber_18 : decode cX6_takeNumber 18 = .ok (.iconst 1, 1) := by decide +kernel
theorem dX6_takeNumber_19 : decode cX6_takeNumber 19 = .ok (.putfield 24, 3) := by decide +kernel
theorem dX6_takeNumber_22 : decode cX6_takeNumber 22 = .ok (.iconst 0, 1) := by decide +kernel
theorem dX6_takeNumber_23 : decode cX6_takeNumber 23 = .ok (.ireturn, 1) := by decide +kernel
theorem dX6_takeNumber_24 : decode cX6_takeNumber 24 = .ok (.aload_n 0, 1) := by decide +kernel
theorem dX6_takeNumber_25 : decode cX6_takeNumber 25 = .ok (.getfield 144, 3) := by decide +kernel
theorem dX6_takeNumber_28 : decode cX6_takeNumber 28 = .ok (.iload_n 1, 1) := by decide +kernel
theorem dX6_takeNumber_29 : decode cX6_takeNumber 29 = .ok (.if_icmp .lt 11, 3) := by decide +kernel
theorem dX6_takeNumber_32 : decode cX6_takeNumber 32 = .ok (.aload_n 0, 1) := by decide +kernel
theorem dX6_takeNumber_33 : decode cX6_takeNumber 33 = .ok (.getfield 144, 3) := by decide +kernel
theorem dX6_takeNumber_36 : decode cX6_takeNumber 36 = .ok (.iload_n 2, 1) := by decide +kernel
theorem dX6_takeNumber_37 : decode cX6_takeNumber 37 = .ok (.if_icmp .le 10, 3) := by decide +kernel
theorem dX6_takeNumber_40 : decode cX6_takeNumber 40 = .ok (.aload_n 0, 1) := by decide +kernel
theorem dX6_takeNumber_41 : decode cX6_takeNumber 41 = .ok (.iconst 2, 1) := by decide +kernel
theorem dX6_takeNumber_42 : decode cX6_takeNumber 42 = .ok (.putfield 24, 3) := by decide +kernel
theorem dX6_takeNumber_45 : decode cX6_takeNumber 45 = .ok (.iconst 0, 1) := by decide +kernel
theorem dX6_takeNumber_46 : decode cX6_takeNumber 46 = .ok (.ireturn, 1) := by decide +kernel
theorem dX6_takeNumber_47 : decode cX6_takeNumber 47 = .ok (.aload_n 0, 1) := by decide +kernel
theorem dX6_takeNumber_48 : decode cX6_takeNumber 48 = .ok (.getfield 144, 3) := by decide +kernel
theorem dX6_takeNumber_51 : decode cX6_takeNumber 51 = .ok (.istore_n 3, 1) := by decide +kernel
theorem dX6_takeNumber_52 : decode cX6_takeNumber 52 = .ok (.aload_n 0, 1) := by decide +kernel
theorem dX6_takeNumber_53 : decode cX6_takeNumber 53 = .ok (.invokevirtual 30, 3) := by decide +kernel
theorem dX6_takeNumber_56 : decode cX6_takeNumber 56 = .ok (.iload_n 3, 1) := by decide +kernel
theorem dX6_takeNumber_57 : decode cX6_takeNumber 57 = .ok (.ireturn, 1) := by decide +kernel
theorem dX6_isWord_0 : decode cX6_isWord 0 = .ok (.aload_n 0, 1) := by decide +kernel
theorem dX6_isWord_1 : decode cX6_isWord 1 = .ok (.getfield 49, 3) := by decide +kernel
theorem dX6_isWord_4 : decode cX6_isWord 4 = .ok (.iconst 1, 1) := by decide +kernel
theorem dX6_isWord_5 : decode cX6_isWord 5 = .ok (.if_icmp .ne 19, 3) := by decide +kernel
theorem dX6_isWord_8 : decode cX6_isWord 8 = .ok (.aload_n 0, 1) := by decide +kernel
theorem dX6_isWord_9 : decode cX6_isWord 9 = .ok (.getfield 27, 3) := by decide +kernel
theorem dX6_isWord_12 : decode cX6_isWord 12 = .ok (.aload_n 0, 1) := by decide +kernel
theorem dX6_isWord_13 : decode cX6_isWord 13 = .ok (.getfield 147, 3) := by decide +kernel
theorem dX6_isWord_16 : decode cX6_isWord 16 = .ok (.isub, 1) := by decide +kernel
theorem dX6_isWord_17 : decode cX6_isWord 17 = .ok (.aload_n 1, 1) := by decide +kernel
theorem dX6_isWord_18 : decode cX6_isWord 18 = .ok (.invokevirtual 150, 3) := by decide +kernel
theorem dX6_isWord_21 : decode cX6_isWord 21 = .ok (.if_icmp .eq 5, 3) := by decide +kernel
theorem dX6_isWord_24 : decode cX6_isWord 24 = .ok (.iconst 0, 1) := by decide +kernel
theorem dX6_isWord_25 : decode cX6_isWord 25 = .ok (.ireturn, 1) := by decide +kernel
theorem dX6_isWord_26 : decode cX6_isWord 26 = .ok (.iconst 0, 1) := by decide +kernel
theorem dX6_isWord_27 : decode cX6_isWord 27 = .ok (.istore_n 2, 1) := by decide +kernel
theorem dX6_isWord_28 : decode cX6_isWord 28 = .ok (.iload_n 2, 1) := by decide +kernel
theorem dX6_isWord_29 : decode cX6_isWord 29 = .ok (.aload_n 1, 1) := by decide +kernel
theorem dX6_isWord_30 : decode cX6_isWord 30 = .ok (.invokevirtual 150, 3) := by decide +kernel
theorem dX6_isWord_33 : decode cX6_isWord 33 = .ok (.if_icmp .ge 30, 3) := by decide +kernel
theorem dX6_isWord_36 : decode cX6_isWord 36 = .ok (.aload_n 0, 1) := by decide +kernel
theorem dX6_isWord_37 : decode cX6_isWord 37 = .ok (.getfield 11, 3) := by decide +kernel
theorem dX6_isWord_40 : decode cX6_isWord 40 = .ok (.aload_n 0, 1) := by decide +kernel
theorem dX6_isWord_41 : decode cX6_isWord 41 = .ok (.getfield 147, 3) := by decide +kernel
theorem dX6_isWord_44 : decode cX6_isWord 44 = .ok (.iload_n 2, 1) := by decide +kernel
theorem dX6_isWord_45 : decode cX6_isWord 45 = .ok (.iadd, 1) := by decide +kernel
theorem dX6_isWord_46 : decode cX6_isWord 46 = .ok (.iaload, 1) := by decide +kernel
theorem dX6_isWord_47 : decode cX6_isWord 47 = .ok (.aload_n 1, 1) := by decide +kernel
theorem dX6_isWord_48 : decode cX6_isWord 48 = .ok (.iload_n 2, 1) := by decide +kernel
theorem dX6_isWord_49 : decode cX6_isWord 49 = .ok (.invokevirtual 154, 3) := by decide +kernel
theorem dX6_isWord_52 : decode cX6_isWord 52 = .ok (.if_icmp .eq 5, 3) := by decide +kernel
theorem dX6_isWord_55 : decode cX6_isWord 55 = .ok (.iconst 0, 1) := by decide +kernel
theorem dX6_isWord_56 : decode cX6_isWord 56 = .ok (.ireturn, 1) := by decide +kernel
theorem dX6_isWord_57 : decode cX6_isWord 57 = .ok (.iinc 2 1, 3) := by decide +kernel
theorem dX6_isWord_60 : decode cX6_isWord 60 = .ok (.goto (-32), 3) := by decide +kernel
theorem dX6_isWord_63 : decode cX6_isWord 63 = .ok (.iconst 1, 1) := by decide +kernel
theorem dX6_isWord_64 : decode cX6_isWord 64 = .ok (.ireturn, 1) := by decide +kernel
theorem dX6_advance_0 : decode cX6_advance 0 = .ok (.aload_n 0, 1) := by decide +kernel
theorem dX6_advance_1 : decode cX6_advance 1 = .ok (.aload_n 0, 1) := by decide +kernel
theorem dX6_advance_2 : decode cX6_advance 2 = .ok (.getfield 27, 3) := by decide +kernel
theorem dX6_advance_5 : decode cX6_advance 5 = .ok (.putfield 147, 3) := by decide +kernel
theorem dX6_advance_8 : decode cX6_advance 8 = .ok (.aload_n 0, 1) := by decide +kernel
theorem dX6_advance_9 : decode cX6_advance 9 = .ok (.getfield 147, 3) := by decide +kernel
theorem dX6_advance_12 : decode cX6_advance 12 = .ok (.aload_n 0, 1) := by decide +kernel
theorem dX6_advance_13 : decode cX6_advance 13 = .ok (.getfield 15, 3) := by decide +kernel
theorem dX6_advance_16 : decode cX6_advance 16 = .ok (.if_icmp .ge 44, 3) := by decide +kernel
theorem dX6_advance_19 : decode cX6_advance 19 = .ok (.aload_n 0, 1) := by decide +kernel
theorem dX6_advance_20 : decode cX6_advance 20 = .ok (.getfield 11, 3) := by decide +kernel
theorem dX6_advance_23 : decode cX6_advance 23 = .ok (.aload_n 0, 1) := by decide +kernel
theorem dX6_advance_24 : decode cX6_advance 24 = .ok (.getfield 147, 3) := by decide +kernel
theorem dX6_advance_27 : decode cX6_advance 27 = .ok (.iaload, 1) := by decide +kernel
theorem dX6_advance_28 : decode cX6_advance 28 = .ok (.bipush 32, 2) := by decide +kernel
theorem dX6_advance_30 : decode cX6_advance 30 = .ok (.if_icmp .eq 17, 3) := by decide +kernel
theorem dX6_advance_33 : decode cX6_advance 33 = .ok (.aload_n 0, 1) := by decide +kernel
theorem dX6_advance_34 : decode cX6_advance 34 = .ok (.getfield 11, 3) := by decide +kernel
theorem dX6_advance_37 : decode cX6_advance 37 = .ok (.aload_n 0, 1) := by decide +kernel
theorem dX6_advance_38 : decode cX6_advance 38 = .ok (.getfield 147, 3) := by decide +kernel
theorem dX6_advance_41 : decode cX6_advance 41 = .ok (.iaload, 1) := by decide +kernel
theorem dX6_advance_42 : decode cX6_advance 42 = .ok (.bipush 10, 2) := by decide +kernel
theorem dX6_advance_44 : decode cX6_advance 44 = .ok (.if_icmp .ne 16, 3) := by decide +kernel
theorem dX6_advance_47 : decode cX6_advance 47 = .ok (.aload_n 0, 1) := by decide +kernel
theorem dX6_advance_48 : decode cX6_advance 48 = .ok (.dup, 1) := by decide +kernel
theorem dX6_advance_49 : decode cX6_advance 49 = .ok (.getfield 147, 3) := by decide +kernel
theorem dX6_advance_52 : decode cX6_advance 52 = .ok (.iconst 1, 1) := by decide +kernel
theorem dX6_advance_53 : decode cX6_advance 53 = .ok (.iadd, 1) := by decide +kernel
theorem dX6_advance_54 : decode cX6_advance 54 = .ok (.putfield 147, 3) := by decide +kernel
theorem dX6_advance_57 : decode cX6_advance 57 = .ok (.goto (-49), 3) := by decide +kernel
theorem dX6_advance_60 : decode cX6_advance 60 = .ok (.aload_n 0, 1) := by decide +kernel
theorem dX6_advance_61 : decode cX6_advance 61 = .ok (.aload_n 0, 1) := by decide +kernel
theorem dX6_advance_62 : decode cX6_advance 62 = .ok (.getfield 147, 3) := by decide +kernel
theorem dX6_advance_65 : decode cX6_advance 65 = .ok (.putfield 27, 3) := by decide +kernel
theorem dX6_advance_68 : decode cX6_advance 68 = .ok (.aload_n 0, 1) := by decide +kernel
theorem dX6_advance_69 : decode cX6_advance 69 = .ok (.getfield 147, 3) := by decide +kernel
theorem dX6_advance_72 : decode cX6_advance 72 = .ok (.aload_n 0, 1) := by decide +kernel
theorem dX6_advance_73 : decode cX6_advance 73 = .ok (.getfield 15, 3) := by decide +kernel
theorem dX6_advance_76 : decode cX6_advance 76 = .ok (.if_icmp .lt 11, 3) := by decide +kernel
theorem dX6_advance_79 : decode cX6_advance 79 = .ok (.aload_n 0, 1) := by decide +kernel
theorem dX6_advance_80 : decode cX6_advance 80 = .ok (.iconst 0, 1) := by decide +kernel
theorem dX6_advance_81 : decode cX6_advance 81 = .ok (.putfield 49, 3) := by decide +kernel
theorem dX6_advance_84 : decode cX6_advance 84 = .ok (.goto 159, 3) := by decide +kernel
theorem dX6_advance_87 : decode cX6_advance 87 = .ok (.aload_n 0, 1) := by decide +kernel
theorem dX6_advance_88 : decode cX6_advance 88 = .ok (.getfield 11, 3) := by decide +kernel
theorem dX6_advance_91 : decode cX6_advance 91 = .ok (.aload_n 0, 1) := by decide +kernel
theorem dX6_advance_92 : decode cX6_advance 92 = .ok (.getfield 147, 3) := by decide +kernel
theorem dX6_advance_95 : decode cX6_advance 95 = .ok (.iaload, 1) := by decide +kernel
theorem dX6_advance_96 : decode cX6_advance 96 = .ok (.bipush 97, 2) := by decide +kernel
theorem dX6_advance_98 : decode cX6_advance 98 = .ok (.if_icmp .lt 77, 3) := by decide +kernel
theorem dX6_advance_101 : decode cX6_advance 101 = .ok (.aload_n 0, 1) := by decide +kernel
theorem dX6_advance_102 : decode cX6_advance 102 = .ok (.getfield 11, 3) := by decide +kernel
theorem dX6_advance_105 : decode cX6_advance 105 = .ok (.aload_n 0, 1) := by decide +kernel
theorem dX6_advance_106 : decode cX6_advance 106 = .ok (.getfield 147, 3) := by decide +kernel
theorem dX6_advance_109 : decode cX6_advance 109 = .ok (.iaload, 1) := by decide +kernel
theorem dX6_advance_110 : decode cX6_advance 110 = .ok (.bipush 122, 2) := by decide +kernel
theorem dX6_advance_112 : decode cX6_advance 112 = .ok (.if_icmp .gt 63, 3) := by decide +kernel
theorem dX6_advance_115 : decode cX6_advance 115 = .ok (.aload_n 0, 1) := by decide +kernel
theorem dX6_advance_116 : decode cX6_advance 116 = .ok (.getfield 27, 3) := by decide +kernel
theorem dX6_advance_119 : decode cX6_advance 119 = .ok (.aload_n 0, 1) := by decide +kernel
theorem dX6_advance_120 : decode cX6_advance 120 = .ok (.getfield 15, 3) := by decide +kernel
theorem dX6_advance_123 : decode cX6_advance 123 = .ok (.if_icmp .ge 44, 3) := by decide +kernel
theorem dX6_advance_126 : decode cX6_advance 126 = .ok (.aload_n 0, 1) := by decide +kernel
theorem dX6_advance_127 : decode cX6_advance 127 = .ok (.getfield 11, 3) := by decide +kernel
theorem dX6_advance_130 : decode cX6_advance 130 = .ok (.aload_n 0, 1) := by decide +kernel
theorem dX6_advance_131 : decode cX6_advance 131 = .ok (.getfield 27, 3) := by decide +kernel
theorem dX6_advance_134 : decode cX6_advance 134 = .ok (.iaload, 1) := by decide +kernel
theorem dX6_advance_135 : decode cX6_advance 135 = .ok (.bipush 97, 2) := by decide +kernel
theorem dX6_advance_137 : decode cX6_advance 137 = .ok (.if_icmp .lt 30, 3) := by decide +kernel
theorem dX6_advance_140 : decode cX6_advance 140 = .ok (.aload_n 0, 1) := by decide +kernel
theorem dX6_advance_141 : decode cX6_advance 141 = .ok (.getfield 11, 3) := by decide +kernel
theorem dX6_advance_144 : decode cX6_advance 144 = .ok (.aload_n 0, 1) := by decide +kernel
theorem dX6_advance_145 : decode cX6_advance 145 = .ok (.getfield 27, 3) := by decide +kernel
theorem dX6_advance_148 : decode cX6_advance 148 = .ok (.iaload, 1) := by decide +kernel
theorem dX6_advance_149 : decode cX6_advance 149 = .ok (.bipush 122, 2) := by decide +kernel
theorem dX6_advance_151 : decode cX6_advance 151 = .ok (.if_icmp .gt 16, 3) := by decide +kernel
theorem dX6_advance_154 : decode cX6_advance 154 = .ok (.aload_n 0, 1) := by decide +kernel
theorem dX6_advance_155 : decode cX6_advance 155 = .ok (.dup, 1) := by decide +kernel
theorem dX6_advance_156 : decode cX6_advance 156 = .ok (.getfield 27, 3) := by decide +kernel
theorem dX6_advance_159 : decode cX6_advance 159 = .ok (.iconst 1, 1) := by decide +kernel
theorem dX6_advance_160 : decode cX6_advance 160 = .ok (.iadd, 1) := by decide +kernel
theorem dX6_advance_161 : decode cX6_advance 161 = .ok (.putfield 27, 3) := by decide +kernel
theorem dX6_advance_164 : decode cX6_advance 164 = .ok (.goto (-49), 3) := by decide +kernel
theorem dX6_advance_167 : decode cX6_advance 167 = .ok (.aload_n 0, 1) := by decide +kernel
theorem dX6_advance_168 : decode cX6_advance 168 = .ok (.iconst 1, 1) := by decide +kernel
theorem dX6_advance_169 : decode cX6_advance 169 = .ok (.putfield 49, 3) := by decide +kernel
theorem dX6_advance_172 : decode cX6_advance 172 = .ok (.goto 71, 3) := by decide +kernel
theorem dX6_advance_175 : decode cX6_advance 175 = .ok (.aload_n 0, 1) := by decide +kernel
theorem dX6_advance_176 : decode cX6_advance 176 = .ok (.getfield 11, 3) := by decide +kernel
theorem dX6_advance_179 : decode cX6_advance 179 = .ok (.aload_n 0, 1) := by decide +kernel
theorem dX6_advance_180 : decode cX6_advance 180 = .ok (.getfield 147, 3) := by decide +kernel
theorem dX6_advance_183 : decode cX6_advance 183 = .ok (.iaload, 1) := by decide +kernel
theorem dX6_advance_184 : decode cX6_advance 184 = .ok (.bipush 48, 2) := by decide +kernel
theorem dX6_advance_186 : decode cX6_advance 186 = .ok (.if_icmp .lt 24, 3) := by decide +kernel
theorem dX6_advance_189 : decode cX6_advance 189 = .ok (.aload_n 0, 1) := by decide +kernel
theorem dX6_advance_190 : decode cX6_advance 190 = .ok (.getfield 11, 3) := by decide +kernel
theorem dX6_advance_193 : decode cX6_advance 193 = .ok (.aload_n 0, 1) := by decide +kernel
theorem dX6_advance_194 : decode cX6_advance 194 = .ok (.getfield 147, 3) := by decide +kernel
theorem dX6_advance_197 : decode cX6_advance 197 = .ok (.iaload, 1) := by decide +kernel
theorem dX6_advance_198 : decode cX6_advance 198 = .ok (.bipush 57, 2) := by decide +kernel
theorem dX6_advance_200 : decode cX6_advance 200 = .ok (.if_icmp .gt 10, 3) := by decide +kernel
theorem dX6_advance_203 : decode cX6_advance 203 = .ok (.aload_n 0, 1) := by decide +kernel
theorem dX6_advance_204 : decode cX6_advance 204 = .ok (.invokevirtual 158, 3) := by decide +kernel
theorem dX6_advance_207 : decode cX6_advance 207 = .ok (.goto 36, 3) := by decide +kernel
theorem dX6_advance_210 : decode cX6_advance 210 = .ok (.aload_n 0, 1) := by decide +kernel
theorem dX6_advance_211 : decode cX6_advance 211 = .ok (.aload_n 0, 1) := by decide +kernel
theorem dX6_advance_212 : decode cX6_advance 212 = .ok (.getfield 11, 3) := by decide +kernel
theorem dX6_advance_215 : decode cX6_advance 215 = .ok (.aload_n 0, 1) := by decide +kernel
theorem dX6_advance_216 : decode cX6_advance 216 = .ok (.getfield 147, 3) := by decide +kernel
theorem dX6_advance_219 : decode cX6_advance 219 = .ok (.iaload, 1) := by decide +kernel
theorem dX6_advance_220 : decode cX6_advance 220 = .ok (.bipush 59, 2) := by decide +kernel
theorem dX6_advance_222 : decode cX6_advance 222 = .ok (.if_icmp .ne 7, 3) := by decide +kernel
theorem dX6_advance_225 : decode cX6_advance 225 = .ok (.iconst 3, 1) := by decide +kernel
theorem dX6_advance_226 : decode cX6_advance 226 = .ok (.goto 4, 3) := by decide +kernel
theorem dX6_advance_229 : decode cX6_advance 229 = .ok (.iconst 4, 1) := by decide +kernel
theorem dX6_advance_230 : decode cX6_advance 230 = .ok (.putfield 49, 3) := by decide +kernel
theorem dX6_advance_233 : decode cX6_advance 233 = .ok (.aload_n 0, 1) := by decide +kernel
theorem dX6_advance_234 : decode cX6_advance 234 = .ok (.dup, 1) := by decide +kernel
theorem dX6_advance_235 : decode cX6_advance 235 = .ok (.getfield 27, 3) := by decide +kernel
theorem dX6_advance_238 : decode cX6_advance 238 = .ok (.iconst 1, 1) := by decide +kernel
theorem dX6_advance_239 : decode cX6_advance 239 = .ok (.iadd, 1) := by decide +kernel
theorem dX6_advance_240 : decode cX6_advance 240 = .ok (.putfield 27, 3) := by decide +kernel
theorem dX6_advance_243 : decode cX6_advance 243 = .ok (.return_, 1) := by decide +kernel
theorem dX6_takeFigures_0 : decode cX6_takeFigures 0 = .ok (.aload_n 0, 1) := by decide +kernel
theorem dX6_takeFigures_1 : decode cX6_takeFigures 1 = .ok (.iconst 0, 1) := by decide +kernel
theorem dX6_takeFigures_2 : decode cX6_takeFigures 2 = .ok (.putfield 144, 3) := by decide +kernel
theorem dX6_takeFigures_5 : decode cX6_takeFigures 5 = .ok (.aload_n 0, 1) := by decide +kernel
theorem dX6_takeFigures_6 : decode cX6_takeFigures 6 = .ok (.getfield 27, 3) := by decide +kernel
theorem dX6_takeFigures_9 : decode cX6_takeFigures 9 = .ok (.aload_n 0, 1) := by decide +kernel
theorem dX6_takeFigures_10 : decode cX6_takeFigures 10 = .ok (.getfield 15, 3) := by decide +kernel
theorem dX6_takeFigures_13 : decode cX6_takeFigures 13 = .ok (.if_icmp .ge 68, 3) := by decide +kernel
theorem dX6_takeFigures_16 : decode cX6_takeFigures 16 = .ok (.aload_n 0, 1) := by decide +kernel
theorem dX6_takeFigures_17 : decode cX6_takeFigures 17 = .ok (.getfield 11, 3) := by decide +kernel
theorem dX6_takeFigures_20 : decode cX6_takeFigures 20 = .ok (.aload_n 0, 1) := by decide +kernel
theorem dX6_takeFigures_21 : decode cX6_takeFigures 21 = .ok (.getfield 27, 3) := by decide +kernel
theorem dX6_takeFigures_24 : decode cX6_takeFigures 24 = .ok (.iaload, 1) := by decide +kernel
theorem dX6_takeFigures_25 : decode cX6_takeFigures 25 = .ok (.bipush 48, 2) := by decide +kernel
theorem dX6_takeFigures_27 : decode cX6_takeFigures 27 = .ok (.if_icmp .lt 54, 3) := by decide +kernel
theorem dX6_takeFigures_30 : decode cX6_takeFigures 30 = .ok (.aload_n 0, 1) := by decide +kernel
theorem dX6_takeFigures_31 : decode cX6_takeFigures 31 = .ok (.getfield 11, 3) := by decide +kernel
theorem dX6_takeFigures_34 : decode cX6_takeFigures 34 = .ok (.aload_n 0, 1) := by decide +kernel
theorem dX6_takeFigures_35 : decode cX6_takeFigures 35 = .ok (.getfield 27, 3) := by decide +kernel
theorem dX6_takeFigures_38 : decode cX6_takeFigures 38 = .ok (.iaload, 1) := by decide +kernel
theorem dX6_takeFigures_39 : decode cX6_takeFigures 39 = .ok (.bipush 57, 2) := by decide +kernel
theorem dX6_takeFigures_41 : decode cX6_takeFigures 41 = .ok (.if_icmp .gt 40, 3) := by decide +kernel
theorem dX6_takeFigures_44 : decode cX6_takeFigures 44 = .ok (.aload_n 0, 1) := by decide +kernel
theorem dX6_takeFigures_45 : decode cX6_takeFigures 45 = .ok (.aload_n 0, 1) := by decide +kernel
theorem dX6_takeFigures_46 : decode cX6_takeFigures 46 = .ok (.getfield 144, 3) := by decide +kernel
theorem dX6_takeFigures_49 : decode cX6_takeFigures 49 = .ok (.bipush 10, 2) := by decide +kernel
theorem dX6_takeFigures_51 : decode cX6_takeFigures 51 = .ok (.imul, 1) := by decide +kernel
theorem dX6_takeFigures_52 : decode cX6_takeFigures 52 = .ok (.aload_n 0, 1) := by decide +kernel
theorem dX6_takeFigures_53 : decode cX6_takeFigures 53 = .ok (.getfield 11, 3) := by decide +kernel
theorem dX6_takeFigures_56 : decode cX6_takeFigures 56 = .ok (.aload_n 0, 1) := by decide +kernel
theorem dX6_takeFigures_57 : decode cX6_takeFigures 57 = .ok (.getfield 27, 3) := by decide +kernel
theorem dX6_takeFigures_60 : decode cX6_takeFigures 60 = .ok (.iaload, 1) := by decide +kernel
theorem dX6_takeFigures_61 : decode cX6_takeFigures 61 = .ok (.iadd, 1) := by decide +kernel
theorem dX6_takeFigures_62 : decode cX6_takeFigures 62 = .ok (.bipush 48, 2) := by decide +kernel
theorem dX6_takeFigures_64 : decode cX6_takeFigures 64 = .ok (.isub, 1) := by decide +kernel
theorem dX6_takeFigures_65 : decode cX6_takeFigures 65 = .ok (.putfield 144, 3) := by decide +kernel
theorem dX6_takeFigures_68 : decode cX6_takeFigures 68 = .ok (.aload_n 0, 1) := by decide +kernel
theorem dX6_takeFigures_69 : decode cX6_takeFigures 69 = .ok (.dup, 1) := by decide +kernel
theorem dX6_takeFigures_70 : decode cX6_takeFigures 70 = .ok (.getfield 27, 3) := by decide +kernel
theorem dX6_takeFigures_73 : decode cX6_takeFigures 73 = .ok (.iconst 1, 1) := by decide +kernel
theorem dX6_takeFigures_74 : decode cX6_takeFigures 74 = .ok (.iadd, 1) := by decide +kernel
theorem dX6_takeFigures_75 : decode cX6_takeFigures 75 = .ok (.putfield 27, 3) := by decide +kernel
theorem dX6_takeFigures_78 : decode cX6_takeFigures 78 = .ok (.goto (-73), 3) := by decide +kernel
theorem dX6_takeFigures_81 : decode cX6_takeFigures 81 = .ok (.aload_n 0, 1) := by decide +kernel
theorem dX6_takeFigures_82 : decode cX6_takeFigures 82 = .ok (.aload_n 0, 1) := by decide +kernel
theorem dX6_takeFigures_83 : decode cX6_takeFigures 83 = .ok (.getfield 27, 3) := by decide +kernel
theorem dX6_takeFigures_86 : decode cX6_takeFigures 86 = .ok (.aload_n 0, 1) := by decide +kernel
theorem dX6_takeFigures_87 : decode cX6_takeFigures 87 = .ok (.getfield 147, 3) := by decide +kernel
theorem dX6_takeFigures_90 : decode cX6_takeFigures 90 = .ok (.isub, 1) := by decide +kernel
theorem dX6_takeFigures_91 : decode cX6_takeFigures 91 = .ok (.iconst 2, 1) := by decide +kernel
theorem dX6_takeFigures_92 : decode cX6_takeFigures 92 = .ok (.if_icmp .gt 7, 3) := by decide +kernel
theorem dX6_takeFigures_95 : decode cX6_takeFigures 95 = .ok (.iconst 2, 1) := by decide +kernel
theorem dX6_takeFigures_96 : decode cX6_takeFigures 96 = .ok (.goto 4, 3) := by decide +kernel
theorem dX6_takeFigures_99 : decode cX6_takeFigures 99 = .ok (.iconst 4, 1) := by decide +kernel
theorem dX6_takeFigures_100 : decode cX6_takeFigures 100 = .ok (.putfield 49, 3) := by decide +kernel
theorem dX6_takeFigures_103 : decode cX6_takeFigures 103 = .ok (.return_, 1) := by decide +kernel
theorem dX7_init_0 : decode cX7_init 0 = .ok (.aload_n 0, 1) := by decide +kernel
theorem dX7_init_1 : decode cX7_init 1 = .ok (.invokespecial 3, 3) := by decide +kernel
theorem dX7_init_4 : decode cX7_init 4 = .ok (.aload_n 0, 1) := by decide +kernel
theorem dX7_init_5 : decode cX7_init 5 = .ok (.iconst 4, 1) := by decide +kernel
theorem dX7_init_6 : decode cX7_init 6 = .ok (.newarray .int, 2) := by decide +kernel
theorem dX7_init_8 : decode cX7_init 8 = .ok (.putfield 9, 3) := by decide +kernel
theorem dX7_init_11 : decode cX7_init 11 = .ok (.aload_n 0, 1) := by decide +kernel
theorem dX7_init_12 : decode cX7_init 12 = .ok (.iconst 4, 1) := by decide +kernel
theorem dX7_init_13 : decode cX7_init 13 = .ok (.newarray .int, 2) := by decide +kernel
theorem dX7_init_15 : decode cX7_init 15 = .ok (.putfield 15, 3) := by decide +kernel
theorem dX7_init_18 : decode cX7_init 18 = .ok (.aload_n 0, 1) := by decide +kernel
theorem dX7_init_19 : decode cX7_init 19 = .ok (.bipush 12, 2) := by decide +kernel
theorem dX7_init_21 : decode cX7_init 21 = .ok (.newarray .int, 2) := by decide +kernel
theorem dX7_init_23 : decode cX7_init 23 = .ok (.putfield 18, 3) := by decide +kernel
theorem dX7_init_26 : decode cX7_init 26 = .ok (.aload_n 0, 1) := by decide +kernel
theorem dX7_init_27 : decode cX7_init 27 = .ok (.bipush 12, 2) := by decide +kernel
theorem dX7_init_29 : decode cX7_init 29 = .ok (.newarray .int, 2) := by decide +kernel
theorem dX7_init_31 : decode cX7_init 31 = .ok (.putfield 21, 3) := by decide +kernel
theorem dX7_init_34 : decode cX7_init 34 = .ok (.aload_n 0, 1) := by decide +kernel
theorem dX7_init_35 : decode cX7_init 35 = .ok (.bipush 12, 2) := by decide +kernel
theorem dX7_init_37 : decode cX7_init 37 = .ok (.newarray .int, 2) := by decide +kernel
theorem dX7_init_39 : decode cX7_init 39 = .ok (.putfield 24, 3) := by decide +kernel
theorem dX7_init_42 : decode cX7_init 42 = .ok (.aload_n 0, 1) := by decide +kernel
theorem dX7_init_43 : decode cX7_init 43 = .ok (.bipush 12, 2) := by decide +kernel
theorem dX7_init_45 : decode cX7_init 45 = .ok (.newarray .int, 2) := by decide +kernel
theorem dX7_init_47 : decode cX7_init 47 = .ok (.putfield 27, 3) := by decide +kernel
theorem dX7_init_50 : decode cX7_init 50 = .ok (.return_, 1) := by decide +kernel
theorem dX7_fill_0 : decode cX7_fill 0 = .ok (.aload_n 0, 1) := by decide +kernel
theorem dX7_fill_1 : decode cX7_fill 1 = .ok (.iconst 0, 1) := by decide +kernel
theorem dX7_fill_2 : decode cX7_fill 2 = .ok (.putfield 30, 3) := by decide +kernel
theorem dX7_fill_5 : decode cX7_fill 5 = .ok (.aload_n 0, 1) := by decide +kernel
theorem dX7_fill_6 : decode cX7_fill 6 = .ok (.iconst 0, 1) := by decide +kernel
theorem dX7_fill_7 : decode cX7_fill 7 = .ok (.putfield 34, 3) := by decide +kernel
theorem dX7_fill_10 : decode cX7_fill 10 = .ok (.iconst 0, 1) := by decide +kernel
theorem dX7_fill_11 : decode cX7_fill 11 = .ok (.istore_n 2, 1) := by decide +kernel
theorem dX7_fill_12 : decode cX7_fill 12 = .ok (.iload_n 2, 1) := by decide +kernel
theorem dX7_fill_13 : decode cX7_fill 13 = .ok (.aload_n 1, 1) := by decide +kernel
theorem dX7_fill_14 : decode cX7_fill 14 = .ok (.getfield 37, 3) := by decide +kernel
theorem dX7_fill_17 : decode cX7_fill 17 = .ok (.if_icmp .ge 54, 3) := by decide +kernel
theorem dX7_fill_20 : decode cX7_fill 20 = .ok (.aload_n 0, 1) := by decide +kernel
theorem dX7_fill_21 : decode cX7_fill 21 = .ok (.getfield 30, 3) := by decide +kernel
theorem dX7_fill_24 : decode cX7_fill 24 = .ok (.iconst 4, 1) := by decide +kernel
theorem dX7_fill_25 : decode cX7_fill 25 = .ok (.if_icmp .ge 46, 3) := by decide +kernel
theorem dX7_fill_28 : decode cX7_fill 28 = .ok (.aload_n 1, 1) := by decide +kernel
theorem dX7_fill_29 : decode cX7_fill 29 = .ok (.getfield 40, 3) := by decide +kernel
theorem dX7_fill_32 : decode cX7_fill 32 = .ok (.iload_n 2, 1) := by decide +kernel
theorem dX7_fill_33 : decode cX7_fill 33 = .ok (.ishr, 1) := by decide +kernel
theorem dX7_fill_34 : decode cX7_fill 34 = .ok (.iconst 1, 1) := by decide +kernel
theorem dX7_fill_35 : decode cX7_fill 35 = .ok (.iand, 1) := by decide +kernel
theorem dX7_fill_36 : decode cX7_fill 36 = .ok (.ifCond .eq 29, 3) := by decide +kernel
theorem dX7_fill_39 : decode cX7_fill 39 = .ok (.aload_n 0, 1) := by decide +kernel
theorem dX7_fill_40 : decode cX7_fill 40 = .ok (.aload_n 1, 1) := by decide +kernel
theorem dX7_fill_41 : decode cX7_fill 41 = .ok (.iload_n 2, 1) := by decide +kernel
theorem dX7_fill_42 : decode cX7_fill 42 = .ok (.invokevirtual 43, 3) := by decide +kernel
theorem dX7_fill_45 : decode cX7_fill 45 = .ok (.aload_n 0, 1) := by decide +kernel
theorem dX7_fill_46 : decode cX7_fill 46 = .ok (.getfield 9, 3) := by decide +kernel
theorem dX7_fill_49 : decode cX7_fill 49 = .ok (.aload_n 0, 1) := by decide +kernel
theorem dX7_fill_50 : decode cX7_fill 50 = .ok (.getfield 30, 3) := by decide +kernel
theorem dX7_fill_53 : decode cX7_fill 53 = .ok (.iload_n 2, 1) := by decide +kernel
theorem dX7_fill_54 : decode cX7_fill 54 = .ok (.iastore, 1) := by decide +kernel
theorem dX7_fill_55 : decode cX7_fill 55 = .ok (.aload_n 0, 1) := by decide +kernel
theorem dX7_fill_56 : decode cX7_fill 56 = .ok (.dup, 1) := by decide +kernel
theorem dX7_fill_57 : decode cX7_fill 57 = .ok (.getfield 30, 3) := by decide +kernel
theorem dX7_fill_60 : decode cX7_fill 60 = .ok (.iconst 1, 1) := by decide +kernel
theorem dX7_fill_61 : decode cX7_fill 61 = .ok (.iadd, 1) := by decide +kernel
theorem dX7_fill_62 : decode cX7_fill 62 = .ok (.putfield 30, 3) := by decide +kernel
theorem dX7_fill_65 : decode cX7_fill 65 = .ok (.iinc 2 1, 3) := by decide +kernel
theorem dX7_fill_68 : decode cX7_fill 68 = .ok (.goto (-56), 3) := by decide +kernel
theorem dX7_fill_71 : decode cX7_fill 71 = .ok (.return_, 1) := by decide +kernel
theorem dX7_fillDish_0 : decode cX7_fillDish 0 = .ok (.iconst 0, 1) := by decide +kernel
theorem dX7_fillDish_1 : decode cX7_fillDish 1 = .ok (.istore_n 3, 1) := by decide +kernel
theorem dX7_fillDish_2 : decode cX7_fillDish 2 = .ok (.iload_n 3, 1) := by decide +kernel
theorem dX7_fillDish_3 : decode cX7_fillDish 3 = .ok (.aload_n 1, 1) := by decide +kernel
theorem dX7_fillDish_4 : decode cX7_fillDish 4 = .ok (.getfield 47, 3) := by decide +kernel
theorem dX7_fillDish_7 : decode cX7_fillDish 7 = .ok (.iload_n 2, 1) := by decide +kernel
theorem dX7_fillDish_8 : decode cX7_fillDish 8 = .ok (.iaload, 1) := by decide +kernel
theorem dX7_fillDish_9 : decode cX7_fillDish 9 = .ok (.if_icmp .ge 78, 3) := by decide +kernel
theorem dX7_fillDish_12 : decode cX7_fillDish 12 = .ok (.aload_n 0, 1) := by decide +kernel
theorem dX7_fillDish_13 : decode cX7_fillDish 13 = .ok (.getfield 34, 3) := by decide +kernel
theorem dX7_fillDish_16 : decode cX7_fillDish 16 = .ok (.bipush 12, 2) := by decide +kernel
theorem dX7_fillDish_18 : decode cX7_fillDish 18 = .ok (.if_icmp .ge 69, 3) := by decide +kernel
theorem dX7_fillDish_21 : decode cX7_fillDish 21 = .ok (.aload_n 1, 1) := by decide +kernel
theorem dX7_fillDish_22 : decode cX7_fillDish 22 = .ok (.getfield 50, 3) := by decide +kernel
theorem dX7_fillDish_25 : decode cX7_fillDish 25 = .ok (.iload_n 2, 1) := by decide +kernel
theorem dX7_fillDish_26 : decode cX7_fillDish 26 = .ok (.iaload, 1) := by decide +kernel
theorem dX7_fillDish_27 : decode cX7_fillDish 27 = .ok (.iload_n 3, 1) := by decide +kernel
theorem dX7_fillDish_28 : decode cX7_fillDish 28 = .ok (.iadd, 1) := by decide +kernel
theorem dX7_fillDish_29 : decode cX7_fillDish 29 = .ok (.istore 4, 2) := by decide +kernel
theorem dX7_fillDish_31 : decode cX7_fillDish 31 = .ok (.aload_n 0, 1) := by decide +kernel
theorem dX7_fillDish_32 : decode cX7_fillDish 32 = .ok (.getfield 18, 3) := by decide +kernel
theorem dX7_fillDish_35 : decode cX7_fillDish 35 = .ok (.aload_n 0, 1) := by decide +kernel
theorem dX7_fillDish_36 : decode cX7_fillDish 36 = .ok (.getfield 34, 3) := by decide +kernel
theorem dX7_fillDish_39 : decode cX7_fillDish 39 = .ok (.iload 4, 2) := by decide +kernel
theorem dX7_fillDish_41 : decode cX7_fillDish 41 = .ok (.iastore, 1) := by decide +kernel
theorem dX7_fillDish_42 : decode cX7_fillDish 42 = .ok (.aload_n 0, 1) := by decide +kernel
theorem dX7_fillDish_43 : decode cX7_fillDish 43 = .ok (.getfield 21, 3) := by decide +kernel
theorem dX7_fillDish_46 : decode cX7_fillDish 46 = .ok (.aload_n 0, 1) := by decide +kernel
theorem dX7_fillDish_47 : decode cX7_fillDish 47 = .ok (.getfield 34, 3) := by decide +kernel
theorem dX7_fillDish_50 : decode cX7_fillDish 50 = .ok (.aload_n 0, 1) := by decide +kernel
theorem dX7_fillDish_51 : decode cX7_fillDish 51 = .ok (.getfield 30, 3) := by decide +kernel
theorem dX7_fillDish_54 : decode cX7_fillDish 54 = .ok (.iastore, 1) := by decide +kernel
theorem dX7_fillDish_55 : decode cX7_fillDish 55 = .ok (.aload_n 0, 1) := by decide +kernel
theorem dX7_fillDish_56 : decode cX7_fillDish 56 = .ok (.getfield 27, 3) := by decide +kernel
theorem dX7_fillDish_59 : decode cX7_fillDish 59 = .ok (.aload_n 0, 1) := by decide +kernel
theorem dX7_fillDish_60 : decode cX7_fillDish 60 = .ok (.getfield 34, 3) := by decide +kernel
theorem dX7_fillDish_63 : decode cX7_fillDish 63 = .ok (.aload_n 1, 1) := by decide +kernel
theorem dX7_fillDish_64 : decode cX7_fillDish 64 = .ok (.getfield 53, 3) := by decide +kernel
theorem dX7_fillDish_67 : decode cX7_fillDish 67 = .ok (.iload 4, 2) := by decide +kernel
theorem dX7_fillDish_69 : decode cX7_fillDish 69 = .ok (.iaload, 1) := by decide +kernel
theorem dX7_fillDish_70 : decode cX7_fillDish 70 = .ok (.iastore, 1) := by decide +kernel
theorem dX7_fillDish_71 : decode cX7_fillDish 71 = .ok (.aload_n 0, 1) := by decide +kernel
theorem dX7_fillDish_72 : decode cX7_fillDish 72 = .ok (.dup, 1) := by decide +kernel
theorem dX7_fillDish_73 : decode cX7_fillDish 73 = .ok (.getfield 34, 3) := by decide +kernel
theorem dX7_fillDish_76 : decode cX7_fillDish 76 = .ok (.iconst 1, 1) := by decide +kernel
theorem dX7_fillDish_77 : decode cX7_fillDish 77 = .ok (.iadd, 1) := by decide +kernel
theorem dX7_fillDish_78 : decode cX7_fillDish 78 = .ok (.putfield 34, 3) := by decide +kernel
theorem dX7_fillDish_81 : decode cX7_fillDish 81 = .ok (.iinc 3 1, 3) := by decide +kernel
theorem dX7_fillDish_84 : decode cX7_fillDish 84 = .ok (.goto (-82), 3) := by decide +kernel
theorem dX7_fillDish_87 : decode cX7_fillDish 87 = .ok (.return_, 1) := by decide +kernel
theorem dX7_take_0 : decode cX7_take 0 = .ok (.aload_n 0, 1) := by decide +kernel
theorem dX7_take_1 : decode cX7_take 1 = .ok (.aload_n 1, 1) := by decide +kernel
theorem dX7_take_2 : decode cX7_take 2 = .ok (.getfield 30, 3) := by decide +kernel
theorem dX7_take_5 : decode cX7_take 5 = .ok (.putfield 30, 3) := by decide +kernel
theorem dX7_take_8 : decode cX7_take 8 = .ok (.aload_n 0, 1) := by decide +kernel
theorem dX7_take_9 : decode cX7_take 9 = .ok (.aload_n 1, 1) := by decide +kernel
theorem dX7_take_10 : decode cX7_take 10 = .ok (.getfield 34, 3) := by decide +kernel
theorem dX7_take_13 : decode cX7_take 13 = .ok (.putfield 34, 3) := by decide +kernel
theorem dX7_take_16 : decode cX7_take 16 = .ok (.aload_n 1, 1) := by decide +kernel
theorem dX7_take_17 : decode cX7_take 17 = .ok (.getfield 9, 3) := by decide +kernel
theorem dX7_take_20 : decode cX7_take 20 = .ok (.iconst 0, 1) := by decide +kernel
theorem dX7_take_21 : decode cX7_take 21 = .ok (.aload_n 0, 1) := by decide +kernel
theorem dX7_take_22 : decode cX7_take 22 = .ok (.getfield 9, 3) := by decide +kernel
theorem dX7_take_25 : decode cX7_take 25 = .ok (.iconst 0, 1) := by decide +kernel
theorem dX7_take_26 : decode cX7_take 26 = .ok (.iconst 4, 1) := by decide +kernel
theorem dX7_take_27 : decode cX7_take 27 = .ok (.invokestatic 54, 3) := by decide +kernel
theorem dX7_take_30 : decode cX7_take 30 = .ok (.aload_n 1, 1) := by decide +kernel
theorem dX7_take_31 : decode cX7_take 31 = .ok (.getfield 15, 3) := by decide +kernel
theorem dX7_take_34 : decode cX7_take 34 = .ok (.iconst 0, 1) := by decide +kernel
theorem dX7_take_35 : decode cX7_take 35 = .ok (.aload_n 0, 1) := by decide +kernel
theorem dX7_take_36 : decode cX7_take 36 = .ok (.getfield 15, 3) := by decide +kernel
theorem dX7_take_39 : decode cX7_take 39 = .ok (.iconst 0, 1) := by decide +kernel
theorem dX7_take_40 : decode cX7_take 40 = .ok (.iconst 4, 1) := by decide +kernel
theorem dX7_take_41 : decode cX7_take 41 = .ok (.invokestatic 54, 3) := by decide +kernel
theorem dX7_take_44 : decode cX7_take 44 = .ok (.aload_n 1, 1) := by decide +kernel
theorem dX7_take_45 : decode cX7_take 45 = .ok (.getfield 18, 3) := by decide +kernel
theorem dX7_take_48 : decode cX7_take 48 = .ok (.iconst 0, 1) := by decide +kernel
theorem dX7_take_49 : decode cX7_take 49 = .ok (.aload_n 0, 1) := by decide +kernel
theorem dX7_take_50 : decode cX7_take 50 = .ok (.getfield 18, 3) := by decide +kernel
theorem dX7_take_53 : decode cX7_take 53 = .ok (.iconst 0, 1) := by decide +kernel
theorem dX7_take_54 : decode cX7_take 54 = .ok (.bipush 12, 2) := by decide +kernel
theorem dX7_take_56 : decode cX7_take 56 = .ok (.invokestatic 54, 3) := by decide +kernel
theorem dX7_take_59 : decode cX7_take 59 = .ok (.aload_n 1, 1) := by decide +kernel
theorem dX7_take_60 : decode cX7_take 60 = .ok (.getfield 21, 3) := by decide +kernel
theorem dX7_take_63 : decode cX7_take 63 = .ok (.iconst 0, 1) := by decide +kernel
theorem dX7_take_64 : decode cX7_take 64 = .ok (.aload_n 0, 1) := by decide +kernel
theorem dX7_take_65 : decode cX7_take 65 = .ok (.getfield 21, 3) := by decide +kernel
theorem dX7_take_68 : decode cX7_take 68 = .ok (.iconst 0, 1) := by decide +kernel
theorem dX7_take_69 : decode cX7_take 69 = .ok (.bipush 12, 2) := by decide +kernel
theorem dX7_take_71 : decode cX7_take 71 = .ok (.invokestatic 54, 3) := by decide +kernel
theorem dX7_take_74 : decode cX7_take 74 = .ok (.aload_n 1, 1) := by decide +kernel
theorem dX7_take_75 : decode cX7_take 75 = .ok (.getfield 24, 3) := by decide +kernel
theorem dX7_take_78 : decode cX7_take 78 = .ok (.iconst 0, 1) := by decide +kernel
theorem dX7_take_79 : decode cX7_take 79 = .ok (.aload_n 0, 1) := by decide +kernel
theorem dX7_take_80 : decode cX7_take 80 = .ok (.getfield 24, 3) := by decide +kernel
theorem dX7_take_83 : decode cX7_take 83 = .ok (.iconst 0, 1) := by decide +kernel
theorem dX7_take_84 : decode cX7_take 84 = .ok (.bipush 12, 2) := by decide +kernel
theorem dX7_take_86 : decode cX7_take 86 = .ok (.invokestatic 54, 3) := by decide +kernel
theorem dX7_take_89 : decode cX7_take 89 = .ok (.aload_n 1, 1) := by decide +kernel
theorem dX7_take_90 : decode cX7_take 90 = .ok (.getfield 27, 3) := by decide +kernel
theorem dX7_take_93 : decode cX7_take 93 = .ok (.iconst 0, 1) := by decide +kernel
theorem dX7_take_94 : decode cX7_take 94 = .ok (.aload_n 0, 1) := by decide +kernel
theorem dX7_take_95 : decode cX7_take 95 = .ok (.getfield 27, 3) := by decide +kernel
theorem dX7_take_98 : decode cX7_take 98 = .ok (.iconst 0, 1) := by decide +kernel
theorem dX7_take_99 : decode cX7_take 99 = .ok (.bipush 12, 2) := by decide +kernel
theorem dX7_take_101 : decode cX7_take 101 = .ok (.invokestatic 54, 3) := by decide +kernel
theorem dX7_take_104 : decode cX7_take 104 = .ok (.return_, 1) := by decide +kernel
theorem dX7_isFirst_0 : decode cX7_isFirst 0 = .ok (.iload_n 1, 1) := by decide +kernel
theorem dX7_isFirst_1 : decode cX7_isFirst 1 = .ok (.ifCond .eq 20, 3) := by decide +kernel
theorem dX7_isFirst_4 : decode cX7_isFirst 4 = .ok (.aload_n 0, 1) := by decide +kernel
theorem dX7_isFirst_5 : decode cX7_isFirst 5 = .ok (.getfield 21, 3) := by decide +kernel
theorem dX7_isFirst_8 : decode cX7_isFirst 8 = .ok (.iload_n 1, 1) := by decide +kernel
theorem dX7_isFirst_9 : decode cX7_isFirst 9 = .ok (.iconst 1, 1) := by decide +kernel
theorem dX7_isFirst_10 : decode cX7_isFirst 10 = .ok (.isub, 1) := by decide +kernel
theorem dX7_isFirst_11 : decode cX7_isFirst 11 = .ok (.iaload, 1) := by decide +kernel
theorem dX7_isFirst_12 : decode cX7_isFirst 12 = .ok (.aload_n 0, 1) := by decide +kernel
theorem dX7_isFirst_13 : decode cX7_isFirst 13 = .ok (.getfield 21, 3) := by decide +kernel
theorem dX7_isFirst_16 : decode cX7_isFirst 16 = .ok (.iload_n 1, 1) := by decide +kernel
theorem dX7_isFirst_17 : decode cX7_isFirst 17 = .ok (.iaload, 1) := by decide +kernel
theorem dX7_isFirst_18 : decode cX7_isFirst 18 = .ok (.if_icmp .eq 7, 3) := by decide +kernel
theorem dX7_isFirst_21 : decode cX7_isFirst 21 = .ok (.iconst 1, 1) := by decide +kernel
theorem dX7_isFirst_22 : decode cX7_isFirst 22 = .ok (.goto 4, 3) := by decide +kernel
theorem dX7_isFirst_25 : decode cX7_isFirst 25 = .ok (.iconst 0, 1) := by decide +kernel
theorem dX7_isFirst_26 : decode cX7_isFirst 26 = .ok (.ireturn, 1) := by decide +kernel
theorem dX7_isLast_0 : decode cX7_isLast 0 = .ok (.iload_n 1, 1) := by decide +kernel
theorem dX7_isLast_1 : decode cX7_isLast 1 = .ok (.aload_n 0, 1) := by decide +kernel
theorem dX7_isLast_2 : decode cX7_isLast 2 = .ok (.getfield 34, 3) := by decide +kernel
theorem dX7_isLast_5 : decode cX7_isLast 5 = .ok (.iconst 1, 1) := by decide +kernel
theorem dX7_isLast_6 : decode cX7_isLast 6 = .ok (.isub, 1) := by decide +kernel
theorem dX7_isLast_7 : decode cX7_isLast 7 = .ok (.if_icmp .eq 20, 3) := by decide +kernel
theorem dX7_isLast_10 : decode cX7_isLast 10 = .ok (.aload_n 0, 1) := by decide +kernel
theorem dX7_isLast_11 : decode cX7_isLast 11 = .ok (.getfield 21, 3) := by decide +kernel
theorem dX7_isLast_14 : decode cX7_isLast 14 = .ok (.iload_n 1, 1) := by decide +kernel
theorem dX7_isLast_15 : decode cX7_isLast 15 = .ok (.iconst 1, 1) := by decide +kernel
theorem dX7_isLast_16 : decode cX7_isLast 16 = .ok (.iadd, 1) := by decide +kernel
theorem dX7_isLast_17 : decode cX7_isLast 17 = .ok (.iaload, 1) := by decide +kernel
theorem dX7_isLast_18 : decode cX7_isLast 18 = .ok (.aload_n 0, 1) := by decide +kernel
theorem dX7_isLast_19 : decode cX7_isLast 19 = .ok (.getfield 21, 3) := by decide +kernel
theorem dX7_isLast_22 : decode cX7_isLast 22 = .ok (.iload_n 1, 1) := by decide +kernel
theorem dX7_isLast_23 : decode cX7_isLast 23 = .ok (.iaload, 1) := by decide +kernel
theorem dX7_isLast_24 : decode cX7_isLast 24 = .ok (.if_icmp .eq 7, 3) := by decide +kernel
theorem dX7_isLast_27 : decode cX7_isLast 27 = .ok (.iconst 1, 1) := by decide +kernel
theorem dX7_isLast_28 : decode cX7_isLast 28 = .ok (.goto 4, 3) := by decide +kernel
theorem dX7_isLast_31 : decode cX7_isLast 31 = .ok (.iconst 0, 1) := by decide +kernel
theorem dX7_isLast_32 : decode cX7_isLast 32 = .ok (.ireturn, 1) := by decide +kernel
theorem dX8_init_0 : decode cX8_init 0 = .ok (.aload_n 0, 1) := by decide +kernel
theorem dX8_init_1 : decode cX8_init 1 = .ok (.invokespecial 1, 3) := by decide +kernel
theorem dX8_init_4 : decode cX8_init 4 = .ok (.aload_n 0, 1) := by decide +kernel
theorem dX8_init_5 : decode cX8_init 5 = .ok (.bipush 8, 2) := by decide +kernel
theorem dX8_init_7 : decode cX8_init 7 = .ok (.newarray .int, 2) := by decide +kernel
theorem dX8_init_9 : decode cX8_init 9 = .ok (.putfield 9, 3) := by decide +kernel
theorem dX8_init_12 : decode cX8_init 12 = .ok (.aload_n 0, 1) := by decide +kernel
theorem dX8_init_13 : decode cX8_init 13 = .ok (.bipush 8, 2) := by decide +kernel
theorem dX8_init_15 : decode cX8_init 15 = .ok (.newarray .int, 2) := by decide +kernel
theorem dX8_init_17 : decode cX8_init 17 = .ok (.putfield 13, 3) := by decide +kernel
theorem dX8_init_20 : decode cX8_init 20 = .ok (.aload_n 0, 1) := by decide +kernel
theorem dX8_init_21 : decode cX8_init 21 = .ok (.bipush 8, 2) := by decide +kernel
theorem dX8_init_23 : decode cX8_init 23 = .ok (.bipush 40, 2) := by decide +kernel
theorem dX8_init_25 : decode cX8_init 25 = .ok (.multianewarray 16 2, 4) := by decide +kernel
theorem dX8_init_29 : decode cX8_init 29 = .ok (.putfield 18, 3) := by decide +kernel
theorem dX8_init_32 : decode cX8_init 32 = .ok (.aload_n 0, 1) := by decide +kernel
theorem dX8_init_33 : decode cX8_init 33 = .ok (.getfield 9, 3) := by decide +kernel
theorem dX8_init_36 : decode cX8_init 36 = .ok (.iconst (-1), 1) := by decide +kernel
theorem dX8_init_37 : decode cX8_init 37 = .ok (.invokestatic 21, 3) := by decide +kernel
theorem dX8_init_40 : decode cX8_init 40 = .ok (.return_, 1) := by decide +kernel
theorem dX8_isOne_0 : decode cX8_isOne 0 = .ok (.iload_n 1, 1) := by decide +kernel
theorem dX8_isOne_1 : decode cX8_isOne 1 = .ok (.ifCond .lt 13, 3) := by decide +kernel
theorem dX8_isOne_4 : decode cX8_isOne 4 = .ok (.iload_n 1, 1) := by decide +kernel
theorem dX8_isOne_5 : decode cX8_isOne 5 = .ok (.bipush 8, 2) := by decide +kernel
theorem dX8_isOne_7 : decode cX8_isOne 7 = .ok (.if_icmp .ge 7, 3) := by decide +kernel
theorem dX8_isOne_10 : decode cX8_isOne 10 = .ok (.iconst 1, 1) := by decide +kernel
theorem dX8_isOne_11 : decode cX8_isOne 11 = .ok (.goto 4, 3) := by decide +kernel
theorem dX8_isOne_14 : decode cX8_isOne 14 = .ok (.iconst 0, 1) := by decide +kernel
theorem dX8_isOne_15 : decode cX8_isOne 15 = .ok (.ireturn, 1) := by decide +kernel
theorem dX8_isMissing_0 : decode cX8_isMissing 0 = .ok (.aload_n 0, 1) := by decide +kernel
theorem dX8_isMissing_1 : decode cX8_isMissing 1 = .ok (.getfield 9, 3) := by decide +kernel
theorem dX8_isMissing_4 : decode cX8_isMissing 4 = .ok (.iload_n 1, 1) := by decide +kernel
theorem dX8_isMissing_5 : decode cX8_isMissing 5 = .ok (.iaload, 1) := by decide +kernel
theorem dX8_isMissing_6 : decode cX8_isMissing 6 = .ok (.iconst (-1), 1) := by decide +kernel
theorem dX8_isMissing_7 : decode cX8_isMissing 7 = .ok (.if_icmp .ne 7, 3) := by decide +kernel
theorem dX8_isMissing_10 : decode cX8_isMissing 10 = .ok (.iconst 1, 1) := by decide +kernel
theorem dX8_isMissing_11 : decode cX8_isMissing 11 = .ok (.goto 4, 3) := by decide +kernel
theorem dX8_isMissing_14 : decode cX8_isMissing 14 = .ok (.iconst 0, 1) := by decide +kernel
theorem dX8_isMissing_15 : decode cX8_isMissing 15 = .ok (.ireturn, 1) := by decide +kernel
theorem dX8_reaches_0 : decode cX8_reaches 0 = .ok (.iload_n 2, 1) := by decide +kernel
theorem dX8_reaches_1 : decode cX8_reaches 1 = .ok (.ifCond .lt 33, 3) := by decide +kernel
theorem dX8_reaches_4 : decode cX8_reaches 4 = .ok (.iload_n 3, 1) := by decide +kernel
theorem dX8_reaches_5 : decode cX8_reaches 5 = .ok (.ifCond .lt 29, 3) := by decide +kernel
theorem dX8_reaches_8 : decode cX8_reaches 8 = .ok (.iload_n 3, 1) := by decide +kernel
theorem dX8_reaches_9 : decode cX8_reaches 9 = .ok (.aload_n 0, 1) := by decide +kernel
theorem dX8_reaches_10 : decode cX8_reaches 10 = .ok (.getfield 13, 3) := by decide +kernel
theorem dX8_reaches_13 : decode cX8_reaches 13 = .ok (.iload_n 1, 1) := by decide +kernel
theorem dX8_reaches_14 : decode cX8_reaches 14 = .ok (.iaload, 1) := by decide +kernel
theorem dX8_reaches_15 : decode cX8_reaches 15 = .ok (.if_icmp .gt 19, 3) := by decide +kernel
theorem dX8_reaches_18 : decode cX8_reaches 18 = .ok (.iload_n 2, 1) := by decide +kernel
theorem dX8_reaches_19 : decode cX8_reaches 19 = .ok (.aload_n 0, 1) := by decide +kernel
theorem dX8_reaches_20 : decode cX8_reaches 20 = .ok (.getfield 13, 3) := by decide +kernel
theorem dX8_reaches_23 : decode cX8_reaches 23 = .ok (.iload_n 1, 1) := by decide +kernel
theorem dX8_reaches_24 : decode cX8_reaches 24 = .ok (.iaload, 1) := by decide +kernel
theorem dX8_reaches_25 : decode cX8_reaches 25 = .ok (.iload_n 3, 1) := by decide +kernel
theorem dX8_reaches_26 : decode cX8_reaches 26 = .ok (.isub, 1) := by decide +kernel
theorem dX8_reaches_27 : decode cX8_reaches 27 = .ok (.if_icmp .gt 7, 3) := by decide +kernel
theorem dX8_reaches_30 : decode cX8_reaches 30 = .ok (.iconst 1, 1) := by decide +kernel
theorem dX8_reaches_31 : decode cX8_reaches 31 = .ok (.goto 4, 3) := by decide +kernel
theorem dX8_reaches_34 : decode cX8_reaches 34 = .ok (.iconst 0, 1) := by decide +kernel
theorem dX8_reaches_35 : decode cX8_reaches 35 = .ok (.ireturn, 1) := by decide +kernel
theorem dX8_lay_0 : decode cX8_lay 0 = .ok (.aload_n 0, 1) := by decide +kernel
theorem dX8_lay_1 : decode cX8_lay 1 = .ok (.getfield 9, 3) := by decide +kernel
theorem dX8_lay_4 : decode cX8_lay 4 = .ok (.iload_n 1, 1) := by decide +kernel
theorem dX8_lay_5 : decode cX8_lay 5 = .ok (.iload_n 2, 1) := by decide +kernel
theorem dX8_lay_6 : decode cX8_lay 6 = .ok (.iastore, 1) := by decide +kernel
theorem dX8_lay_7 : decode cX8_lay 7 = .ok (.aload_n 0, 1) := by decide +kernel
theorem dX8_lay_8 : decode cX8_lay 8 = .ok (.getfield 13, 3) := by decide +kernel
theorem dX8_lay_11 : decode cX8_lay 11 = .ok (.iload_n 1, 1) := by decide +kernel
theorem dX8_lay_12 : decode cX8_lay 12 = .ok (.iload_n 3, 1) := by decide +kernel
theorem dX8_lay_13 : decode cX8_lay 13 = .ok (.iastore, 1) := by decide +kernel
theorem dX8_lay_14 : decode cX8_lay 14 = .ok (.aload_n 0, 1) := by decide +kernel
theorem dX8_lay_15 : decode cX8_lay 15 = .ok (.getfield 18, 3) := by decide +kernel
theorem dX8_lay_18 : decode cX8_lay 18 = .ok (.iload_n 1, 1) := by decide +kernel
theorem dX8_lay_19 : decode cX8_lay 19 = .ok (.aaload, 1) := by decide +kernel
theorem dX8_lay_20 : decode cX8_lay 20 = .ok (.iconst 0, 1) := by decide +kernel
theorem dX8_lay_21 : decode cX8_lay 21 = .ok (.invokestatic 21, 3) := by decide +kernel
theorem dX8_lay_24 : decode cX8_lay 24 = .ok (.return_, 1) := by decide +kernel
theorem dX8_write_0 : decode cX8_write 0 = .ok (.aload_n 0, 1) := by decide +kernel
theorem dX8_write_1 : decode cX8_write 1 = .ok (.getfield 9, 3) := by decide +kernel
theorem dX8_write_4 : decode cX8_write 4 = .ok (.iload_n 1, 1) := by decide +kernel
theorem dX8_write_5 : decode cX8_write 5 = .ok (.iaload, 1) := by decide +kernel
theorem dX8_write_6 : decode cX8_write 6 = .ok (.ifCond .ne 8, 3) := by decide +kernel
theorem dX8_write_9 : decode cX8_write 9 = .ok (.iload_n 3, 1) := by decide +kernel
theorem dX8_write_10 : decode cX8_write 10 = .ok (.i2b, 1) := by decide +kernel
theorem dX8_write_11 : decode cX8_write 11 = .ok (.goto 19, 3) := by decide +kernel
theorem dX8_write_14 : decode cX8_write 14 = .ok (.aload_n 0, 1) := by decide +kernel
theorem dX8_write_15 : decode cX8_write 15 = .ok (.getfield 9, 3) := by decide +kernel
theorem dX8_write_18 : decode cX8_write 18 = .ok (.iload_n 1, 1) := by decide +kernel
theorem dX8_write_19 : decode cX8_write 19 = .ok (.iaload, 1) := by decide +kernel
theorem dX8_write_20 : decode cX8_write 20 = .ok (.iconst 1, 1) := by decide +kernel
theorem dX8_write_21 : decode cX8_write 21 = .ok (.if_icmp .ne 8, 3) := by decide +kernel
theorem dX8_write_24 : decode cX8_write 24 = .ok (.iload_n 3, 1) := by decide +kernel
theorem dX8_write_25 : decode cX8_write 25 = .ok (.i2s, 1) := by decide +kernel
theorem dX8_write_26 : decode cX8_write 26 = .ok (.goto 4, 3) := by decide +kernel
theorem dX8_write_29 : decode cX8_write 29 = .ok (.iload_n 3, 1) := by decide +kernel
theorem dX8_write_30 : decode cX8_write 30 = .ok (.istore 4, 2) := by decide +kernel
theorem dX8_write_32 : decode cX8_write 32 = .ok (.aload_n 0, 1) := by decide +kernel
theorem dX8_write_33 : decode cX8_write 33 = .ok (.getfield 18, 3) := by decide +kernel
theorem dX8_write_36 : decode cX8_write 36 = .ok (.iload_n 1, 1) := by decide +kernel
theorem dX8_write_37 : decode cX8_write 37 = .ok (.aaload, 1) := by decide +kernel
theorem dX8_write_38 : decode cX8_write 38 = .ok (.iload_n 2, 1) := by decide +kernel
theorem dX8_write_39 : decode cX8_write 39 = .ok (.iload 4, 2) := by decide +kernel
theorem dX8_write_41 : decode cX8_write 41 = .ok (.iastore, 1) := by decide +kernel
theorem dX8_write_42 : decode cX8_write 42 = .ok (.iload 4, 2) := by decide +kernel
theorem dX8_write_44 : decode cX8_write 44 = .ok (.ireturn, 1) := by decide +kernel
theorem dX8_lose_0 : decode cX8_lose 0 = .ok (.aload_n 0, 1) := by decide +kernel
theorem dX8_lose_1 : decode cX8_lose 1 = .ok (.getfield 9, 3) := by decide +kernel
theorem dX8_lose_4 : decode cX8_lose 4 = .ok (.iload_n 1, 1) := by decide +kernel
theorem dX8_lose_5 : decode cX8_lose 5 = .ok (.iconst (-1), 1) := by decide +kernel
theorem dX8_lose_6 : decode cX8_lose 6 = .ok (.iastore, 1) := by decide +kernel
theorem dX8_lose_7 : decode cX8_lose 7 = .ok (.aload_n 0, 1) := by decide +kernel
theorem dX8_lose_8 : decode cX8_lose 8 = .ok (.getfield 13, 3) := by decide +kernel
theorem dX8_lose_11 : decode cX8_lose 11 = .ok (.iload_n 1, 1) := by decide +kernel
theorem dX8_lose_12 : decode cX8_lose 12 = .ok (.iaload, 1) := by decide +kernel
theorem dX8_lose_13 : decode cX8_lose 13 = .ok (.ireturn, 1) := by decide +kernel
theorem dX8_present_0 : decode cX8_present 0 = .ok (.iconst 0, 1) := by decide +kernel
theorem dX8_present_1 : decode cX8_present 1 = .ok (.istore_n 1, 1) := by decide +kernel
theorem dX8_present_2 : decode cX8_present 2 = .ok (.iconst 0, 1) := by decide +kernel
theorem dX8_present_3 : decode cX8_present 3 = .ok (.istore_n 2, 1) := by decide +kernel
theorem dX8_present_4 : decode cX8_present 4 = .ok (.iload_n 2, 1) := by decide +kernel
theorem dX8_present_5 : decode cX8_present 5 = .ok (.bipush 8, 2) := by decide +kernel
theorem dX8_present_7 : decode cX8_present 7 = .ok (.if_icmp .ge 22, 3) := by decide +kernel
theorem dX8_present_10 : decode cX8_present 10 = .ok (.aload_n 0, 1) := by decide +kernel
theorem dX8_present_11 : decode cX8_present 11 = .ok (.getfield 9, 3) := by decide +kernel
theorem dX8_present_14 : decode cX8_present 14 = .ok (.iload_n 2, 1) := by decide +kernel
theorem dX8_present_15 : decode cX8_present 15 = .ok (.iaload, 1) := by decide +kernel
theorem dX8_present_16 : decode cX8_present 16 = .ok (.iconst (-1), 1) := by decide +kernel
theorem dX8_present_17 : decode cX8_present 17 = .ok (.if_icmp .eq 6, 3) := by decide +kernel
theorem dX8_present_20 : decode cX8_present 20 = .ok (.iinc 1 1, 3) := by decide +kernel
theorem dX8_present_23 : decode cX8_present 23 = .ok (.iinc 2 1, 3) := by decide +kernel
theorem dX8_present_26 : decode cX8_present 26 = .ok (.goto (-22), 3) := by decide +kernel
theorem dX8_present_29 : decode cX8_present 29 = .ok (.iload_n 1, 1) := by decide +kernel
theorem dX8_present_30 : decode cX8_present 30 = .ok (.ireturn, 1) := by decide +kernel
theorem dX9_init_0 : decode cX9_init 0 = .ok (.aload_n 0, 1) := by decide +kernel
theorem dX9_init_1 : decode cX9_init 1 = .ok (.invokespecial 3, 3) := by decide +kernel
theorem dX9_init_4 : decode cX9_init 4 = .ok (.aload_n 0, 1) := by decide +kernel
theorem dX9_init_5 : decode cX9_init 5 = .ok (.iconst 5, 1) := by decide +kernel
theorem dX9_init_6 : decode cX9_init 6 = .ok (.newarray .long, 2) := by decide +kernel
theorem dX9_init_8 : decode cX9_init 8 = .ok (.putfield 9, 3) := by decide +kernel
theorem dX9_init_11 : decode cX9_init 11 = .ok (.aload_n 0, 1) := by decide +kernel
theorem dX9_init_12 : decode cX9_init 12 = .ok (.iconst 5, 1) := by decide +kernel
theorem dX9_init_13 : decode cX9_init 13 = .ok (.newarray .long, 2) := by decide +kernel
theorem dX9_init_15 : decode cX9_init 15 = .ok (.putfield 15, 3) := by decide +kernel
theorem dX9_init_18 : decode cX9_init 18 = .ok (.aload_n 0, 1) := by decide +kernel
theorem dX9_init_19 : decode cX9_init 19 = .ok (.iconst 5, 1) := by decide +kernel
theorem dX9_init_20 : decode cX9_init 20 = .ok (.newarray .long, 2) := by decide +kernel
theorem dX9_init_22 : decode cX9_init 22 = .ok (.putfield 18, 3) := by decide +kernel
theorem dX9_init_25 : decode cX9_init 25 = .ok (.aload_n 0, 1) := by decide +kernel
theorem dX9_init_26 : decode cX9_init 26 = .ok (.iconst 5, 1) := by decide +kernel
theorem dX9_init_27 : decode cX9_init 27 = .ok (.newarray .long, 2) := by decide +kernel
theorem dX9_init_29 : decode cX9_init 29 = .ok (.putfield 21, 3) := by decide +kernel
theorem dX9_init_32 : decode cX9_init 32 = .ok (.return_, 1) := by decide +kernel
theorem dX9_open_0 : decode cX9_open 0 = .ok (.iconst 0, 1) := by decide +kernel
theorem dX9_open_1 : decode cX9_open 1 = .ok (.istore_n 2, 1) := by decide +kernel
theorem dX9_open_2 : decode cX9_open 2 = .ok (.iload_n 2, 1) := by decide +kernel
theorem dX9_open_3 : decode cX9_open 3 = .ok (.iconst 5, 1) := by decide +kernel
theorem dX9_open_4 : decode cX9_open 4 = .ok (.if_icmp .ge 42, 3) := by decide +kernel
theorem dX9_open_7 : decode cX9_open 7 = .ok (.aload_n 0, 1) := by decide +kernel
theorem dX9_open_8 : decode cX9_open 8 = .ok (.getfield 9, 3) := by decide +kernel
theorem dX9_open_11 : decode cX9_open 11 = .ok (.iload_n 2, 1) := by decide +kernel
theorem dX9_open_12 : decode cX9_open 12 = .ok (.lconst 0, 1) := by decide +kernel
theorem dX9_open_13 : decode cX9_open 13 = .ok (.lastore, 1) := by decide +kernel
theorem dX9_open_14 : decode cX9_open 14 = .ok (.aload_n 0, 1) := by decide +kernel
theorem dX9_open_15 : decode cX9_open 15 = .ok (.getfield 15, 3) := by decide +kernel
theorem dX9_open_18 : decode cX9_open 18 = .ok (.iload_n 2, 1) := by decide +kernel
theorem dX9_open_19 : decode cX9_open 19 = .ok (.lconst 0, 1) := by decide +kernel
theorem dX9_open_20 : decode cX9_open 20 = .ok (.lastore, 1) := by decide +kernel
theorem dX9_open_21 : decode cX9_open 21 = .ok (.aload_n 0, 1) := by decide +kernel
