theorem dX2_firstLack_47 : decode cX2_firstLack 47 = .ok (.aload_n 0, 1) := by decide +kernel
theorem dX2_firstLack_48 : decode cX2_firstLack 48 = .ok (.lconst 1, 1) := by decide +kernel
theorem dX2_firstLack_49 : decode cX2_firstLack 49 = .ok (.iload 5, 2) := by decide +kernel
theorem dX2_firstLack_51 : decode cX2_firstLack 51 = .ok (.lshl, 1) := by decide +kernel
theorem dX2_firstLack_52 : decode cX2_firstLack 52 = .ok (.iload 5, 2) := by decide +kernel
theorem dX2_firstLack_54 : decode cX2_firstLack 54 = .ok (.iload 4, 2) := by decide +kernel
theorem dX2_firstLack_56 : decode cX2_firstLack 56 = .ok (.if_icmp .ne 7, 3) := by decide +kernel
theorem dX2_firstLack_59 : decode cX2_firstLack 59 = .ok (.iconst 1, 1) := by decide +kernel
theorem dX2_firstLack_60 : decode cX2_firstLack 60 = .ok (.goto 4, 3) := by decide +kernel
theorem dX2_firstLack_63 : decode cX2_firstLack 63 = .ok (.iconst 0, 1) := by decide +kernel
theorem dX2_firstLack_64 : decode cX2_firstLack 64 = .ok (.invokevirtual 95, 3) := by decide +kernel
theorem dX2_firstLack_67 : decode cX2_firstLack 67 = .ok (.istore 6, 2) := by decide +kernel
theorem dX2_firstLack_69 : decode cX2_firstLack 69 = .ok (.iload 6, 2) := by decide +kernel
theorem dX2_firstLack_71 : decode cX2_firstLack 71 = .ok (.ifCond .eq 16, 3) := by decide +kernel
theorem dX2_firstLack_74 : decode cX2_firstLack 74 = .ok (.sipush 1000, 3) := by decide +kernel
theorem dX2_firstLack_77 : decode cX2_firstLack 77 = .ok (.bipush 10, 2) := by decide +kernel
theorem dX2_firstLack_79 : decode cX2_firstLack 79 = .ok (.iload 5, 2) := by decide +kernel
theorem dX2_firstLack_81 : decode cX2_firstLack 81 = .ok (.imul, 1) := by decide +kernel
theorem dX2_firstLack_82 : decode cX2_firstLack 82 = .ok (.iadd, 1) := by decide +kernel
theorem dX2_firstLack_83 : decode cX2_firstLack 83 = .ok (.iload 6, 2) := by decide +kernel
theorem dX2_firstLack_85 : decode cX2_firstLack 85 = .ok (.iadd, 1) := by decide +kernel
theorem dX2_firstLack_86 : decode cX2_firstLack 86 = .ok (.ireturn, 1) := by decide +kernel
theorem dX2_firstLack_87 : decode cX2_firstLack 87 = .ok (.iinc 5 1, 3) := by decide +kernel
theorem dX2_firstLack_90 : decode cX2_firstLack 90 = .ok (.goto (-50), 3) := by decide +kernel
theorem dX2_firstLack_93 : decode cX2_firstLack 93 = .ok (.iconst 0, 1) := by decide +kernel
theorem dX2_firstLack_94 : decode cX2_firstLack 94 = .ok (.ireturn, 1) := by decide +kernel
theorem dX2_lackAt_0 : decode cX2_lackAt 0 = .ok (.aload_n 0, 1) := by decide +kernel
theorem dX2_lackAt_1 : decode cX2_lackAt 1 = .ok (.getfield 31, 3) := by decide +kernel
theorem dX2_lackAt_4 : decode cX2_lackAt 4 = .ok (.iconst 1, 1) := by decide +kernel
theorem dX2_lackAt_5 : decode cX2_lackAt 5 = .ok (.laload, 1) := by decide +kernel
theorem dX2_lackAt_6 : decode cX2_lackAt 6 = .ok (.lload_n 1, 1) := by decide +kernel
theorem dX2_lackAt_7 : decode cX2_lackAt 7 = .ok (.land, 1) := by decide +kernel
theorem dX2_lackAt_8 : decode cX2_lackAt 8 = .ok (.lconst 0, 1) := by decide +kernel
theorem dX2_lackAt_9 : decode cX2_lackAt 9 = .ok (.lcmp, 1) := by decide +kernel
theorem dX2_lackAt_10 : decode cX2_lackAt 10 = .ok (.ifCond .eq 5, 3) := by decide +kernel
theorem dX2_lackAt_13 : decode cX2_lackAt 13 = .ok (.iconst 1, 1) := by decide +kernel
theorem dX2_lackAt_14 : decode cX2_lackAt 14 = .ok (.ireturn, 1) := by decide +kernel
theorem dX2_lackAt_15 : decode cX2_lackAt 15 = .ok (.aload_n 0, 1) := by decide +kernel
theorem dX2_lackAt_16 : decode cX2_lackAt 16 = .ok (.getfield 31, 3) := by decide +kernel
theorem dX2_lackAt_19 : decode cX2_lackAt 19 = .ok (.iconst 0, 1) := by decide +kernel
theorem dX2_lackAt_20 : decode cX2_lackAt 20 = .ok (.laload, 1) := by decide +kernel
theorem dX2_lackAt_21 : decode cX2_lackAt 21 = .ok (.lload_n 1, 1) := by decide +kernel
theorem dX2_lackAt_22 : decode cX2_lackAt 22 = .ok (.land, 1) := by decide +kernel
theorem dX2_lackAt_23 : decode cX2_lackAt 23 = .ok (.lconst 0, 1) := by decide +kernel
theorem dX2_lackAt_24 : decode cX2_lackAt 24 = .ok (.lcmp, 1) := by decide +kernel
theorem dX2_lackAt_25 : decode cX2_lackAt 25 = .ok (.ifCond .eq 5, 3) := by decide +kernel
theorem dX2_lackAt_28 : decode cX2_lackAt 28 = .ok (.iconst 2, 1) := by decide +kernel
theorem dX2_lackAt_29 : decode cX2_lackAt 29 = .ok (.ireturn, 1) := by decide +kernel
theorem dX2_lackAt_30 : decode cX2_lackAt 30 = .ok (.aload_n 0, 1) := by decide +kernel
theorem dX2_lackAt_31 : decode cX2_lackAt 31 = .ok (.getfield 31, 3) := by decide +kernel
theorem dX2_lackAt_34 : decode cX2_lackAt 34 = .ok (.iconst 2, 1) := by decide +kernel
theorem dX2_lackAt_35 : decode cX2_lackAt 35 = .ok (.laload, 1) := by decide +kernel
theorem dX2_lackAt_36 : decode cX2_lackAt 36 = .ok (.lload_n 1, 1) := by decide +kernel
theorem dX2_lackAt_37 : decode cX2_lackAt 37 = .ok (.land, 1) := by decide +kernel
theorem dX2_lackAt_38 : decode cX2_lackAt 38 = .ok (.lconst 0, 1) := by decide +kernel
theorem dX2_lackAt_39 : decode cX2_lackAt 39 = .ok (.lcmp, 1) := by decide +kernel
theorem dX2_lackAt_40 : decode cX2_lackAt 40 = .ok (.ifCond .eq 5, 3) := by decide +kernel
theorem dX2_lackAt_43 : decode cX2_lackAt 43 = .ok (.iconst 3, 1) := by decide +kernel
theorem dX2_lackAt_44 : decode cX2_lackAt 44 = .ok (.ireturn, 1) := by decide +kernel
theorem dX2_lackAt_45 : decode cX2_lackAt 45 = .ok (.iload_n 3, 1) := by decide +kernel
theorem dX2_lackAt_46 : decode cX2_lackAt 46 = .ok (.ifCond .eq 5, 3) := by decide +kernel
theorem dX2_lackAt_49 : decode cX2_lackAt 49 = .ok (.iconst 4, 1) := by decide +kernel
theorem dX2_lackAt_50 : decode cX2_lackAt 50 = .ok (.ireturn, 1) := by decide +kernel
theorem dX2_lackAt_51 : decode cX2_lackAt 51 = .ok (.aload_n 0, 1) := by decide +kernel
theorem dX2_lackAt_52 : decode cX2_lackAt 52 = .ok (.getfield 31, 3) := by decide +kernel
theorem dX2_lackAt_55 : decode cX2_lackAt 55 = .ok (.iconst 3, 1) := by decide +kernel
theorem dX2_lackAt_56 : decode cX2_lackAt 56 = .ok (.laload, 1) := by decide +kernel
theorem dX2_lackAt_57 : decode cX2_lackAt 57 = .ok (.lload_n 1, 1) := by decide +kernel
theorem dX2_lackAt_58 : decode cX2_lackAt 58 = .ok (.land, 1) := by decide +kernel
theorem dX2_lackAt_59 : decode cX2_lackAt 59 = .ok (.lconst 0, 1) := by decide +kernel
theorem dX2_lackAt_60 : decode cX2_lackAt 60 = .ok (.lcmp, 1) := by decide +kernel
theorem dX2_lackAt_61 : decode cX2_lackAt 61 = .ok (.ifCond .eq 5, 3) := by decide +kernel
theorem dX2_lackAt_64 : decode cX2_lackAt 64 = .ok (.iconst 5, 1) := by decide +kernel
theorem dX2_lackAt_65 : decode cX2_lackAt 65 = .ok (.ireturn, 1) := by decide +kernel
theorem dX2_lackAt_66 : decode cX2_lackAt 66 = .ok (.aload_n 0, 1) := by decide +kernel
theorem dX2_lackAt_67 : decode cX2_lackAt 67 = .ok (.getfield 31, 3) := by decide +kernel
theorem dX2_lackAt_70 : decode cX2_lackAt 70 = .ok (.iconst 4, 1) := by decide +kernel
theorem dX2_lackAt_71 : decode cX2_lackAt 71 = .ok (.laload, 1) := by decide +kernel
theorem dX2_lackAt_72 : decode cX2_lackAt 72 = .ok (.lload_n 1, 1) := by decide +kernel
theorem dX2_lackAt_73 : decode cX2_lackAt 73 = .ok (.land, 1) := by decide +kernel
theorem dX2_lackAt_74 : decode cX2_lackAt 74 = .ok (.lconst 0, 1) := by decide +kernel
theorem dX2_lackAt_75 : decode cX2_lackAt 75 = .ok (.lcmp, 1) := by decide +kernel
theorem dX2_lackAt_76 : decode cX2_lackAt 76 = .ok (.ifCond .eq 8, 3) := by decide +kernel
theorem dX2_lackAt_79 : decode cX2_lackAt 79 = .ok (.bipush 6, 2) := by decide +kernel
theorem dX2_lackAt_81 : decode cX2_lackAt 81 = .ok (.goto 4, 3) := by decide +kernel
theorem dX2_lackAt_84 : decode cX2_lackAt 84 = .ok (.iconst 0, 1) := by decide +kernel
theorem dX2_lackAt_85 : decode cX2_lackAt 85 = .ok (.ireturn, 1) := by decide +kernel
theorem dX2_lay_0 : decode cX2_lay 0 = .ok (.aload_n 0, 1) := by decide +kernel
theorem dX2_lay_1 : decode cX2_lay 1 = .ok (.getfield 31, 3) := by decide +kernel
theorem dX2_lay_4 : decode cX2_lay 4 = .ok (.lconst 0, 1) := by decide +kernel
theorem dX2_lay_5 : decode cX2_lay 5 = .ok (.invokestatic 99, 3) := by decide +kernel
theorem dX2_lay_8 : decode cX2_lay 8 = .ok (.aload_n 0, 1) := by decide +kernel
theorem dX2_lay_9 : decode cX2_lay 9 = .ok (.getfield 27, 3) := by decide +kernel
theorem dX2_lay_12 : decode cX2_lay 12 = .ok (.aload_n 2, 1) := by decide +kernel
theorem dX2_lay_13 : decode cX2_lay 13 = .ok (.invokevirtual 105, 3) := by decide +kernel
theorem dX2_lay_16 : decode cX2_lay 16 = .ok (.iconst 0, 1) := by decide +kernel
theorem dX2_lay_17 : decode cX2_lay 17 = .ok (.istore 4, 2) := by decide +kernel
theorem dX2_lay_19 : decode cX2_lay 19 = .ok (.iload 4, 2) := by decide +kernel
theorem dX2_lay_21 : decode cX2_lay 21 = .ok (.aload_n 3, 1) := by decide +kernel
theorem dX2_lay_22 : decode cX2_lay 22 = .ok (.getfield 36, 3) := by decide +kernel
theorem dX2_lay_25 : decode cX2_lay 25 = .ok (.if_icmp .ge 166, 3) := by decide +kernel
theorem dX2_lay_28 : decode cX2_lay 28 = .ok (.aload_n 0, 1) := by decide +kernel
theorem dX2_lay_29 : decode cX2_lay 29 = .ok (.getfield 20, 3) := by decide +kernel
theorem dX2_lay_32 : decode cX2_lay 32 = .ok (.aload_n 3, 1) := by decide +kernel
theorem dX2_lay_33 : decode cX2_lay 33 = .ok (.getfield 65, 3) := by decide +kernel
theorem dX2_lay_36 : decode cX2_lay 36 = .ok (.iload 4, 2) := by decide +kernel
theorem dX2_lay_38 : decode cX2_lay 38 = .ok (.iaload, 1) := by decide +kernel
theorem dX2_lay_39 : decode cX2_lay 39 = .ok (.aaload, 1) := by decide +kernel
theorem dX2_lay_40 : decode cX2_lay 40 = .ok (.astore 5, 2) := by decide +kernel
theorem dX2_lay_42 : decode cX2_lay 42 = .ok (.aload 5, 2) := by decide +kernel
theorem dX2_lay_44 : decode cX2_lay 44 = .ok (.aload_n 3, 1) := by decide +kernel
theorem dX2_lay_45 : decode cX2_lay 45 = .ok (.getfield 62, 3) := by decide +kernel
theorem dX2_lay_48 : decode cX2_lay 48 = .ok (.aload_n 3, 1) := by decide +kernel
theorem dX2_lay_49 : decode cX2_lay 49 = .ok (.getfield 65, 3) := by decide +kernel
theorem dX2_lay_52 : decode cX2_lay 52 = .ok (.iload 4, 2) := by decide +kernel
theorem dX2_lay_54 : decode cX2_lay 54 = .ok (.iaload, 1) := by decide +kernel
theorem dX2_lay_55 : decode cX2_lay 55 = .ok (.iaload, 1) := by decide +kernel
theorem dX2_lay_56 : decode cX2_lay 56 = .ok (.putfield 109, 3) := by decide +kernel
theorem dX2_lay_59 : decode cX2_lay 59 = .ok (.aload_n 3, 1) := by decide +kernel
theorem dX2_lay_60 : decode cX2_lay 60 = .ok (.getfield 78, 3) := by decide +kernel
theorem dX2_lay_63 : decode cX2_lay 63 = .ok (.iload 4, 2) := by decide +kernel
theorem dX2_lay_65 : decode cX2_lay 65 = .ok (.iaload, 1) := by decide +kernel
theorem dX2_lay_66 : decode cX2_lay 66 = .ok (.aload_n 1, 1) := by decide +kernel
theorem dX2_lay_67 : decode cX2_lay 67 = .ok (.getfield 111, 3) := by decide +kernel
theorem dX2_lay_70 : decode cX2_lay 70 = .ok (.aload 5, 2) := by decide +kernel
theorem dX2_lay_72 : decode cX2_lay 72 = .ok (.getfield 109, 3) := by decide +kernel
theorem dX2_lay_75 : decode cX2_lay 75 = .ok (.iaload, 1) := by decide +kernel
theorem dX2_lay_76 : decode cX2_lay 76 = .ok (.isub, 1) := by decide +kernel
theorem dX2_lay_77 : decode cX2_lay 77 = .ok (.istore 6, 2) := by decide +kernel
theorem dX2_lay_79 : decode cX2_lay 79 = .ok (.aload 5, 2) := by decide +kernel
theorem dX2_lay_81 : decode cX2_lay 81 = .ok (.getfield 114, 3) := by decide +kernel
theorem dX2_lay_84 : decode cX2_lay 84 = .ok (.iload 6, 2) := by decide +kernel
theorem dX2_lay_86 : decode cX2_lay 86 = .ok (.aload_n 3, 1) := by decide +kernel
theorem dX2_lay_87 : decode cX2_lay 87 = .ok (.getfield 42, 3) := by decide +kernel
theorem dX2_lay_90 : decode cX2_lay 90 = .ok (.iload 4, 2) := by decide +kernel
theorem dX2_lay_92 : decode cX2_lay 92 = .ok (.iaload, 1) := by decide +kernel
theorem dX2_lay_93 : decode cX2_lay 93 = .ok (.iastore, 1) := by decide +kernel
theorem dX2_lay_94 : decode cX2_lay 94 = .ok (.aload 5, 2) := by decide +kernel
theorem dX2_lay_96 : decode cX2_lay 96 = .ok (.getfield 115, 3) := by decide +kernel
theorem dX2_lay_99 : decode cX2_lay 99 = .ok (.iload 6, 2) := by decide +kernel
theorem dX2_lay_101 : decode cX2_lay 101 = .ok (.aload_n 3, 1) := by decide +kernel
theorem dX2_lay_102 : decode cX2_lay 102 = .ok (.getfield 46, 3) := by decide +kernel
theorem dX2_lay_105 : decode cX2_lay 105 = .ok (.iload 4, 2) := by decide +kernel
theorem dX2_lay_107 : decode cX2_lay 107 = .ok (.iaload, 1) := by decide +kernel
theorem dX2_lay_108 : decode cX2_lay 108 = .ok (.iastore, 1) := by decide +kernel
theorem dX2_lay_109 : decode cX2_lay 109 = .ok (.aload_n 3, 1) := by decide +kernel
theorem dX2_lay_110 : decode cX2_lay 110 = .ok (.iload 4, 2) := by decide +kernel
theorem dX2_lay_112 : decode cX2_lay 112 = .ok (.invokevirtual 68, 3) := by decide +kernel
theorem dX2_lay_115 : decode cX2_lay 115 = .ok (.ifCond .eq 70, 3) := by decide +kernel
theorem dX2_lay_118 : decode cX2_lay 118 = .ok (.aload 5, 2) := by decide +kernel
theorem dX2_lay_120 : decode cX2_lay 120 = .ok (.aload_n 1, 1) := by decide +kernel
theorem dX2_lay_121 : decode cX2_lay 121 = .ok (.invokevirtual 116, 3) := by decide +kernel
theorem dX2_lay_124 : decode cX2_lay 124 = .ok (.iconst 0, 1) := by decide +kernel
theorem dX2_lay_125 : decode cX2_lay 125 = .ok (.istore 7, 2) := by decide +kernel
theorem dX2_lay_127 : decode cX2_lay 127 = .ok (.iload 7, 2) := by decide +kernel
theorem dX2_lay_129 : decode cX2_lay 129 = .ok (.iconst 5, 1) := by decide +kernel
theorem dX2_lay_130 : decode cX2_lay 130 = .ok (.if_icmp .ge 38, 3) := by decide +kernel
theorem dX2_lay_133 : decode cX2_lay 133 = .ok (.aload_n 0, 1) := by decide +kernel
theorem dX2_lay_134 : decode cX2_lay 134 = .ok (.getfield 31, 3) := by decide +kernel
theorem dX2_lay_137 : decode cX2_lay 137 = .ok (.iload 7, 2) := by decide +kernel
theorem dX2_lay_139 : decode cX2_lay 139 = .ok (.dup2, 1) := by decide +kernel
theorem dX2_lay_140 : decode cX2_lay 140 = .ok (.laload, 1) := by decide +kernel
theorem dX2_lay_141 : decode cX2_lay 141 = .ok (.aload_n 0, 1) := by decide +kernel
theorem dX2_lay_142 : decode cX2_lay 142 = .ok (.getfield 27, 3) := by decide +kernel
theorem dX2_lay_145 : decode cX2_lay 145 = .ok (.getfield 119, 3) := by decide +kernel
theorem dX2_lay_148 : decode cX2_lay 148 = .ok (.iload 7, 2) := by decide +kernel
theorem dX2_lay_150 : decode cX2_lay 150 = .ok (.laload, 1) := by decide +kernel
theorem dX2_lay_151 : decode cX2_lay 151 = .ok (.aload 5, 2) := by decide +kernel
theorem dX2_lay_153 : decode cX2_lay 153 = .ok (.getfield 122, 3) := by decide +kernel
theorem dX2_lay_156 : decode cX2_lay 156 = .ok (.iload 7, 2) := by decide +kernel
theorem dX2_lay_158 : decode cX2_lay 158 = .ok (.laload, 1) := by decide +kernel
theorem dX2_lay_159 : decode cX2_lay 159 = .ok (.land, 1) := by decide +kernel
theorem dX2_lay_160 : decode cX2_lay 160 = .ok (.lor, 1) := by decide +kernel
theorem dX2_lay_161 : decode cX2_lay 161 = .ok (.lastore, 1) := by decide +kernel
theorem dX2_lay_162 : decode cX2_lay 162 = .ok (.iinc 7 1, 3) := by decide +kernel
theorem dX2_lay_165 : decode cX2_lay 165 = .ok (.goto (-38), 3) := by decide +kernel
theorem dX2_lay_168 : decode cX2_lay 168 = .ok (.aload_n 0, 1) := by decide +kernel
theorem dX2_lay_169 : decode cX2_lay 169 = .ok (.getfield 27, 3) := by decide +kernel
theorem dX2_lay_172 : decode cX2_lay 172 = .ok (.aload_n 0, 1) := by decide +kernel
theorem dX2_lay_173 : decode cX2_lay 173 = .ok (.getfield 27, 3) := by decide +kernel
theorem dX2_lay_176 : decode cX2_lay 176 = .ok (.aload 5, 2) := by decide +kernel
theorem dX2_lay_178 : decode cX2_lay 178 = .ok (.getfield 122, 3) := by decide +kernel
theorem dX2_lay_181 : decode cX2_lay 181 = .ok (.aload_n 2, 1) := by decide +kernel
theorem dX2_lay_182 : decode cX2_lay 182 = .ok (.invokevirtual 125, 3) := by decide +kernel
theorem dX2_lay_185 : decode cX2_lay 185 = .ok (.iinc 4 1, 3) := by decide +kernel
theorem dX2_lay_188 : decode cX2_lay 188 = .ok (.goto (-169), 3) := by decide +kernel
theorem dX2_lay_191 : decode cX2_lay 191 = .ok (.return_, 1) := by decide +kernel
theorem dX2_wantedAt_0 : decode cX2_wantedAt 0 = .ok (.iconst 0, 1) := by decide +kernel
theorem dX2_wantedAt_1 : decode cX2_wantedAt 1 = .ok (.istore 4, 2) := by decide +kernel
theorem dX2_wantedAt_3 : decode cX2_wantedAt 3 = .ok (.iconst 0, 1) := by decide +kernel
theorem dX2_wantedAt_4 : decode cX2_wantedAt 4 = .ok (.istore 5, 2) := by decide +kernel
theorem dX2_wantedAt_6 : decode cX2_wantedAt 6 = .ok (.iload 5, 2) := by decide +kernel
theorem dX2_wantedAt_8 : decode cX2_wantedAt 8 = .ok (.aload_n 1, 1) := by decide +kernel
theorem dX2_wantedAt_9 : decode cX2_wantedAt 9 = .ok (.getfield 129, 3) := by decide +kernel
theorem dX2_wantedAt_12 : decode cX2_wantedAt 12 = .ok (.if_icmp .ge 33, 3) := by decide +kernel
theorem dX2_wantedAt_15 : decode cX2_wantedAt 15 = .ok (.aload_n 0, 1) := by decide +kernel
theorem dX2_wantedAt_16 : decode cX2_wantedAt 16 = .ok (.getfield 20, 3) := by decide +kernel
theorem dX2_wantedAt_19 : decode cX2_wantedAt 19 = .ok (.iload 5, 2) := by decide +kernel
theorem dX2_wantedAt_21 : decode cX2_wantedAt 21 = .ok (.aaload, 1) := by decide +kernel
theorem dX2_wantedAt_22 : decode cX2_wantedAt 22 = .ok (.getfield 122, 3) := by decide +kernel
theorem dX2_wantedAt_25 : decode cX2_wantedAt 25 = .ok (.iload_n 3, 1) := by decide +kernel
theorem dX2_wantedAt_26 : decode cX2_wantedAt 26 = .ok (.laload, 1) := by decide +kernel
theorem dX2_wantedAt_27 : decode cX2_wantedAt 27 = .ok (.iload_n 2, 1) := by decide +kernel
theorem dX2_wantedAt_28 : decode cX2_wantedAt 28 = .ok (.lshr, 1) := by decide +kernel
theorem dX2_wantedAt_29 : decode cX2_wantedAt 29 = .ok (.lconst 1, 1) := by decide +kernel
theorem dX2_wantedAt_30 : decode cX2_wantedAt 30 = .ok (.land, 1) := by decide +kernel
theorem dX2_wantedAt_31 : decode cX2_wantedAt 31 = .ok (.lconst 0, 1) := by decide +kernel
theorem dX2_wantedAt_32 : decode cX2_wantedAt 32 = .ok (.lcmp, 1) := by decide +kernel
theorem dX2_wantedAt_33 : decode cX2_wantedAt 33 = .ok (.ifCond .eq 6, 3) := by decide +kernel
theorem dX2_wantedAt_36 : decode cX2_wantedAt 36 = .ok (.iinc 4 1, 3) := by decide +kernel
theorem dX2_wantedAt_39 : decode cX2_wantedAt 39 = .ok (.iinc 5 1, 3) := by decide +kernel
theorem dX2_wantedAt_42 : decode cX2_wantedAt 42 = .ok (.goto (-36), 3) := by decide +kernel
theorem dX2_wantedAt_45 : decode cX2_wantedAt 45 = .ok (.iload 4, 2) := by decide +kernel
theorem dX2_wantedAt_47 : decode cX2_wantedAt 47 = .ok (.ireturn, 1) := by decide +kernel
theorem dX3_init_0 : decode cX3_init 0 = .ok (.aload_n 0, 1) := by decide +kernel
theorem dX3_init_1 : decode cX3_init 1 = .ok (.invokespecial 3, 3) := by decide +kernel
theorem dX3_init_4 : decode cX3_init 4 = .ok (.aload_n 0, 1) := by decide +kernel
theorem dX3_init_5 : decode cX3_init 5 = .ok (.bipush 25, 2) := by decide +kernel
theorem dX3_init_7 : decode cX3_init 7 = .ok (.newarray .long, 2) := by decide +kernel
theorem dX3_init_9 : decode cX3_init 9 = .ok (.putfield 11, 3) := by decide +kernel
theorem dX3_init_12 : decode cX3_init 12 = .ok (.return_, 1) := by decide +kernel
theorem dX3_fewerThan_0 : decode cX3_fewerThan 0 = .ok (.aload_n 0, 1) := by decide +kernel
theorem dX3_fewerThan_1 : decode cX3_fewerThan 1 = .ok (.getfield 11, 3) := by decide +kernel
theorem dX3_fewerThan_4 : decode cX3_fewerThan 4 = .ok (.iload_n 1, 1) := by decide +kernel
theorem dX3_fewerThan_5 : decode cX3_fewerThan 5 = .ok (.iconst 5, 1) := by decide +kernel
theorem dX3_fewerThan_6 : decode cX3_fewerThan 6 = .ok (.imul, 1) := by decide +kernel
theorem dX3_fewerThan_7 : decode cX3_fewerThan 7 = .ok (.iload_n 2, 1) := by decide +kernel
theorem dX3_fewerThan_8 : decode cX3_fewerThan 8 = .ok (.iadd, 1) := by decide +kernel
theorem dX3_fewerThan_9 : decode cX3_fewerThan 9 = .ok (.iconst 1, 1) := by decide +kernel
theorem dX3_fewerThan_10 : decode cX3_fewerThan 10 = .ok (.isub, 1) := by decide +kernel
theorem dX3_fewerThan_11 : decode cX3_fewerThan 11 = .ok (.laload, 1) := by decide +kernel
theorem dX3_fewerThan_12 : decode cX3_fewerThan 12 = .ok (.lreturn, 1) := by decide +kernel
theorem dX3_giveAll_0 : decode cX3_giveAll 0 = .ok (.aload_n 1, 1) := by decide +kernel
theorem dX3_giveAll_1 : decode cX3_giveAll 1 = .ok (.getfield 15, 3) := by decide +kernel
theorem dX3_giveAll_4 : decode cX3_giveAll 4 = .ok (.astore_n 3, 1) := by decide +kernel
theorem dX3_giveAll_5 : decode cX3_giveAll 5 = .ok (.aload_n 0, 1) := by decide +kernel
theorem dX3_giveAll_6 : decode cX3_giveAll 6 = .ok (.iconst 0, 1) := by decide +kernel
theorem dX3_giveAll_7 : decode cX3_giveAll 7 = .ok (.aload_n 3, 1) := by decide +kernel
theorem dX3_giveAll_8 : decode cX3_giveAll 8 = .ok (.iconst 0, 1) := by decide +kernel
theorem dX3_giveAll_9 : decode cX3_giveAll 9 = .ok (.iaload, 1) := by decide +kernel
theorem dX3_giveAll_10 : decode cX3_giveAll 10 = .ok (.aload_n 3, 1) := by decide +kernel
theorem dX3_giveAll_11 : decode cX3_giveAll 11 = .ok (.iconst 1, 1) := by decide +kernel
theorem dX3_giveAll_12 : decode cX3_giveAll 12 = .ok (.iaload, 1) := by decide +kernel
theorem dX3_giveAll_13 : decode cX3_giveAll 13 = .ok (.iadd, 1) := by decide +kernel
theorem dX3_giveAll_14 : decode cX3_giveAll 14 = .ok (.invokevirtual 21, 3) := by decide +kernel
theorem dX3_giveAll_17 : decode cX3_giveAll 17 = .ok (.aload_n 0, 1) := by decide +kernel
theorem dX3_giveAll_18 : decode cX3_giveAll 18 = .ok (.iconst 1, 1) := by decide +kernel
theorem dX3_giveAll_19 : decode cX3_giveAll 19 = .ok (.aload_n 3, 1) := by decide +kernel
theorem dX3_giveAll_20 : decode cX3_giveAll 20 = .ok (.iconst 1, 1) := by decide +kernel
theorem dX3_giveAll_21 : decode cX3_giveAll 21 = .ok (.iaload, 1) := by decide +kernel
theorem dX3_giveAll_22 : decode cX3_giveAll 22 = .ok (.invokevirtual 21, 3) := by decide +kernel
theorem dX3_giveAll_25 : decode cX3_giveAll 25 = .ok (.aload_n 0, 1) := by decide +kernel
theorem dX3_giveAll_26 : decode cX3_giveAll 26 = .ok (.iconst 2, 1) := by decide +kernel
theorem dX3_giveAll_27 : decode cX3_giveAll 27 = .ok (.aload_n 3, 1) := by decide +kernel
theorem dX3_giveAll_28 : decode cX3_giveAll 28 = .ok (.iconst 2, 1) := by decide +kernel
theorem dX3_giveAll_29 : decode cX3_giveAll 29 = .ok (.iaload, 1) := by decide +kernel
theorem dX3_giveAll_30 : decode cX3_giveAll 30 = .ok (.invokevirtual 21, 3) := by decide +kernel
theorem dX3_giveAll_33 : decode cX3_giveAll 33 = .ok (.aload_n 0, 1) := by decide +kernel
theorem dX3_giveAll_34 : decode cX3_giveAll 34 = .ok (.iconst 3, 1) := by decide +kernel
theorem dX3_giveAll_35 : decode cX3_giveAll 35 = .ok (.iload_n 2, 1) := by decide +kernel
theorem dX3_giveAll_36 : decode cX3_giveAll 36 = .ok (.invokevirtual 21, 3) := by decide +kernel
theorem dX3_giveAll_39 : decode cX3_giveAll 39 = .ok (.aload_n 0, 1) := by decide +kernel
theorem dX3_giveAll_40 : decode cX3_giveAll 40 = .ok (.iconst 4, 1) := by decide +kernel
theorem dX3_giveAll_41 : decode cX3_giveAll 41 = .ok (.aload_n 3, 1) := by decide +kernel
theorem dX3_giveAll_42 : decode cX3_giveAll 42 = .ok (.bipush 6, 2) := by decide +kernel
theorem dX3_giveAll_44 : decode cX3_giveAll 44 = .ok (.iaload, 1) := by decide +kernel
theorem dX3_giveAll_45 : decode cX3_giveAll 45 = .ok (.invokevirtual 21, 3) := by decide +kernel
theorem dX3_giveAll_48 : decode cX3_giveAll 48 = .ok (.return_, 1) := by decide +kernel
theorem dX3_fit_0 : decode cX3_fit 0 = .ok (.aload_n 0, 1) := by decide +kernel
theorem dX3_fit_1 : decode cX3_fit 1 = .ok (.aload_n 1, 1) := by decide +kernel
theorem dX3_fit_2 : decode cX3_fit 2 = .ok (.iload_n 2, 1) := by decide +kernel
theorem dX3_fit_3 : decode cX3_fit 3 = .ok (.invokevirtual 25, 3) := by decide +kernel
theorem dX3_fit_6 : decode cX3_fit 6 = .ok (.iload_n 3, 1) := by decide +kernel
theorem dX3_fit_7 : decode cX3_fit 7 = .ok (.bipush 60, 2) := by decide +kernel
theorem dX3_fit_9 : decode cX3_fit 9 = .ok (.iload_n 3, 1) := by decide +kernel
theorem dX3_fit_10 : decode cX3_fit 10 = .ok (.isub, 1) := by decide +kernel
theorem dX3_fit_11 : decode cX3_fit 11 = .ok (.invokestatic 29, 3) := by decide +kernel
theorem dX3_fit_14 : decode cX3_fit 14 = .ok (.lstore 4, 2) := by decide +kernel
theorem dX3_fit_16 : decode cX3_fit 16 = .ok (.aload_n 0, 1) := by decide +kernel
theorem dX3_fit_17 : decode cX3_fit 17 = .ok (.iconst 0, 1) := by decide +kernel
theorem dX3_fit_18 : decode cX3_fit 18 = .ok (.lload 4, 2) := by decide +kernel
theorem dX3_fit_20 : decode cX3_fit 20 = .ok (.invokevirtual 33, 3) := by decide +kernel
theorem dX3_fit_23 : decode cX3_fit 23 = .ok (.aload_n 0, 1) := by decide +kernel
theorem dX3_fit_24 : decode cX3_fit 24 = .ok (.iconst 1, 1) := by decide +kernel
theorem dX3_fit_25 : decode cX3_fit 25 = .ok (.lload 4, 2) := by decide +kernel
theorem dX3_fit_27 : decode cX3_fit 27 = .ok (.invokevirtual 33, 3) := by decide +kernel
theorem dX3_fit_30 : decode cX3_fit 30 = .ok (.iconst 0, 1) := by decide +kernel
theorem dX3_fit_31 : decode cX3_fit 31 = .ok (.istore 6, 2) := by decide +kernel
theorem dX3_fit_33 : decode cX3_fit 33 = .ok (.iload 6, 2) := by decide +kernel
theorem dX3_fit_35 : decode cX3_fit 35 = .ok (.aload_n 1, 1) := by decide +kernel
theorem dX3_fit_36 : decode cX3_fit 36 = .ok (.getfield 37, 3) := by decide +kernel
theorem dX3_fit_39 : decode cX3_fit 39 = .ok (.if_icmp .ge 41, 3) := by decide +kernel
theorem dX3_fit_42 : decode cX3_fit 42 = .ok (.aload_n 0, 1) := by decide +kernel
theorem dX3_fit_43 : decode cX3_fit 43 = .ok (.iconst 3, 1) := by decide +kernel
theorem dX3_fit_44 : decode cX3_fit 44 = .ok (.aload_n 1, 1) := by decide +kernel
theorem dX3_fit_45 : decode cX3_fit 45 = .ok (.getfield 41, 3) := by decide +kernel
theorem dX3_fit_48 : decode cX3_fit 48 = .ok (.iload 6, 2) := by decide +kernel
theorem dX3_fit_50 : decode cX3_fit 50 = .ok (.iaload, 1) := by decide +kernel
theorem dX3_fit_51 : decode cX3_fit 51 = .ok (.aload_n 1, 1) := by decide +kernel
theorem dX3_fit_52 : decode cX3_fit 52 = .ok (.getfield 44, 3) := by decide +kernel
theorem dX3_fit_55 : decode cX3_fit 55 = .ok (.iload 6, 2) := by decide +kernel
theorem dX3_fit_57 : decode cX3_fit 57 = .ok (.iaload, 1) := by decide +kernel
theorem dX3_fit_58 : decode cX3_fit 58 = .ok (.aload_n 1, 1) := by decide +kernel
theorem dX3_fit_59 : decode cX3_fit 59 = .ok (.getfield 41, 3) := by decide +kernel
theorem dX3_fit_62 : decode cX3_fit 62 = .ok (.iload 6, 2) := by decide +kernel
theorem dX3_fit_64 : decode cX3_fit 64 = .ok (.iaload, 1) := by decide +kernel
theorem dX3_fit_65 : decode cX3_fit 65 = .ok (.isub, 1) := by decide +kernel
theorem dX3_fit_66 : decode cX3_fit 66 = .ok (.iconst 1, 1) := by decide +kernel
theorem dX3_fit_67 : decode cX3_fit 67 = .ok (.iadd, 1) := by decide +kernel
theorem dX3_fit_68 : decode cX3_fit 68 = .ok (.invokestatic 29, 3) := by decide +kernel
theorem dX3_fit_71 : decode cX3_fit 71 = .ok (.invokevirtual 33, 3) := by decide +kernel
theorem dX3_fit_74 : decode cX3_fit 74 = .ok (.iinc 6 1, 3) := by decide +kernel
theorem dX3_fit_77 : decode cX3_fit 77 = .ok (.goto (-44), 3) := by decide +kernel
theorem dX3_fit_80 : decode cX3_fit 80 = .ok (.return_, 1) := by decide +kernel
theorem dX3_give_0 : decode cX3_give 0 = .ok (.iconst 1, 1) := by decide +kernel
theorem dX3_give_1 : decode cX3_give 1 = .ok (.istore_n 3, 1) := by decide +kernel
theorem dX3_give_2 : decode cX3_give 2 = .ok (.iload_n 3, 1) := by decide +kernel
theorem dX3_give_3 : decode cX3_give 3 = .ok (.iconst 5, 1) := by decide +kernel
theorem dX3_give_4 : decode cX3_give 4 = .ok (.if_icmp .gt 33, 3) := by decide +kernel
theorem dX3_give_7 : decode cX3_give 7 = .ok (.aload_n 0, 1) := by decide +kernel
theorem dX3_give_8 : decode cX3_give 8 = .ok (.getfield 11, 3) := by decide +kernel
theorem dX3_give_11 : decode cX3_give 11 = .ok (.iload_n 1, 1) := by decide +kernel
theorem dX3_give_12 : decode cX3_give 12 = .ok (.iconst 5, 1) := by decide +kernel
theorem dX3_give_13 : decode cX3_give 13 = .ok (.imul, 1) := by decide +kernel
theorem dX3_give_14 : decode cX3_give 14 = .ok (.iload_n 3, 1) := by decide +kernel
theorem dX3_give_15 : decode cX3_give 15 = .ok (.iadd, 1) := by decide +kernel
theorem dX3_give_16 : decode cX3_give 16 = .ok (.iconst 1, 1) := by decide +kernel
theorem dX3_give_17 : decode cX3_give 17 = .ok (.isub, 1) := by decide +kernel
theorem dX3_give_18 : decode cX3_give 18 = .ok (.iload_n 2, 1) := by decide +kernel
theorem dX3_give_19 : decode cX3_give 19 = .ok (.iload_n 3, 1) := by decide +kernel
theorem dX3_give_20 : decode cX3_give 20 = .ok (.if_icmp .ge 9, 3) := by decide +kernel
theorem dX3_give_23 : decode cX3_give 23 = .ok (.ldc2_w 47, 3) := by decide +kernel
theorem dX3_give_26 : decode cX3_give 26 = .ok (.goto 4, 3) := by decide +kernel
theorem dX3_give_29 : decode cX3_give 29 = .ok (.lconst 0, 1) := by decide +kernel
theorem dX3_give_30 : decode cX3_give 30 = .ok (.lastore, 1) := by decide +kernel
theorem dX3_give_31 : decode cX3_give 31 = .ok (.iinc 3 1, 3) := by decide +kernel
theorem dX3_give_34 : decode cX3_give 34 = .ok (.goto (-32), 3) := by decide +kernel
theorem dX3_give_37 : decode cX3_give 37 = .ok (.return_, 1) := by decide +kernel
theorem dX3_giveOneLess_0 : decode cX3_giveOneLess 0 = .ok (.iload_n 1, 1) := by decide +kernel
theorem dX3_giveOneLess_1 : decode cX3_giveOneLess 1 = .ok (.iconst 5, 1) := by decide +kernel
theorem dX3_giveOneLess_2 : decode cX3_giveOneLess 2 = .ok (.imul, 1) := by decide +kernel
theorem dX3_giveOneLess_3 : decode cX3_giveOneLess 3 = .ok (.istore 4, 2) := by decide +kernel
theorem dX3_giveOneLess_5 : decode cX3_giveOneLess 5 = .ok (.iconst 1, 1) := by decide +kernel
theorem dX3_giveOneLess_6 : decode cX3_giveOneLess 6 = .ok (.istore 5, 2) := by decide +kernel
theorem dX3_giveOneLess_8 : decode cX3_giveOneLess 8 = .ok (.iload 5, 2) := by decide +kernel
theorem dX3_giveOneLess_10 : decode cX3_giveOneLess 10 = .ok (.iconst 5, 1) := by decide +kernel
theorem dX3_giveOneLess_11 : decode cX3_giveOneLess 11 = .ok (.if_icmp .ge 36, 3) := by decide +kernel
theorem dX3_giveOneLess_14 : decode cX3_giveOneLess 14 = .ok (.aload_n 0, 1) := by decide +kernel
theorem dX3_giveOneLess_15 : decode cX3_giveOneLess 15 = .ok (.getfield 11, 3) := by decide +kernel
theorem dX3_giveOneLess_18 : decode cX3_giveOneLess 18 = .ok (.iload 4, 2) := by decide +kernel
theorem dX3_giveOneLess_20 : decode cX3_giveOneLess 20 = .ok (.iload 5, 2) := by decide +kernel
theorem dX3_giveOneLess_22 : decode cX3_giveOneLess 22 = .ok (.iadd, 1) := by decide +kernel
theorem dX3_giveOneLess_23 : decode cX3_giveOneLess 23 = .ok (.iconst 1, 1) := by decide +kernel
theorem dX3_giveOneLess_24 : decode cX3_giveOneLess 24 = .ok (.isub, 1) := by decide +kernel
theorem dX3_giveOneLess_25 : decode cX3_giveOneLess 25 = .ok (.dup2, 1) := by decide +kernel
theorem dX3_giveOneLess_26 : decode cX3_giveOneLess 26 = .ok (.laload, 1) := by decide +kernel
theorem dX3_giveOneLess_27 : decode cX3_giveOneLess 27 = .ok (.lload_n 2, 1) := by decide +kernel
theorem dX3_giveOneLess_28 : decode cX3_giveOneLess 28 = .ok (.aload_n 0, 1) := by decide +kernel
theorem dX3_giveOneLess_29 : decode cX3_giveOneLess 29 = .ok (.getfield 11, 3) := by decide +kernel
theorem dX3_giveOneLess_32 : decode cX3_giveOneLess 32 = .ok (.iload 4, 2) := by decide +kernel
theorem dX3_giveOneLess_34 : decode cX3_giveOneLess 34 = .ok (.iload 5, 2) := by decide +kernel
theorem dX3_giveOneLess_36 : decode cX3_giveOneLess 36 = .ok (.iadd, 1) := by decide +kernel
theorem dX3_giveOneLess_37 : decode cX3_giveOneLess 37 = .ok (.laload, 1) := by decide +kernel
theorem dX3_giveOneLess_38 : decode cX3_giveOneLess 38 = .ok (.land, 1) := by decide +kernel
theorem dX3_giveOneLess_39 : decode cX3_giveOneLess 39 = .ok (.lor, 1) := by decide +kernel
theorem dX3_giveOneLess_40 : decode cX3_giveOneLess 40 = .ok (.lastore, 1) := by decide +kernel
theorem dX3_giveOneLess_41 : decode cX3_giveOneLess 41 = .ok (.iinc 5 1, 3) := by decide +kernel
theorem dX3_giveOneLess_44 : decode cX3_giveOneLess 44 = .ok (.goto (-36), 3) := by decide +kernel
theorem dX3_giveOneLess_47 : decode cX3_giveOneLess 47 = .ok (.return_, 1) := by decide +kernel
theorem dX4_init_0 : decode cX4_init 0 = .ok (.aload_n 0, 1) := by decide +kernel
theorem dX4_init_1 : decode cX4_init 1 = .ok (.invokespecial 3, 3) := by decide +kernel
theorem dX4_init_4 : decode cX4_init 4 = .ok (.aload_n 0, 1) := by decide +kernel
theorem dX4_init_5 : decode cX4_init 5 = .ok (.bipush 60, 2) := by decide +kernel
theorem dX4_init_7 : decode cX4_init 7 = .ok (.newarray .int, 2) := by decide +kernel
theorem dX4_init_9 : decode cX4_init 9 = .ok (.putfield 9, 3) := by decide +kernel
theorem dX4_init_12 : decode cX4_init 12 = .ok (.aload_n 0, 1) := by decide +kernel
theorem dX4_init_13 : decode cX4_init 13 = .ok (.bipush 60, 2) := by decide +kernel
theorem dX4_init_15 : decode cX4_init 15 = .ok (.newarray .int, 2) := by decide +kernel
theorem dX4_init_17 : decode cX4_init 17 = .ok (.putfield 15, 3) := by decide +kernel
theorem dX4_init_20 : decode cX4_init 20 = .ok (.aload_n 0, 1) := by decide +kernel
theorem dX4_init_21 : decode cX4_init 21 = .ok (.bipush 60, 2) := by decide +kernel
theorem dX4_init_23 : decode cX4_init 23 = .ok (.newarray .int, 2) := by decide +kernel
theorem dX4_init_25 : decode cX4_init 25 = .ok (.putfield 18, 3) := by decide +kernel
theorem dX4_init_28 : decode cX4_init 28 = .ok (.return_, 1) := by decide +kernel
theorem dX4_want_0 : decode cX4_want 0 = .ok (.aload_n 0, 1) := by decide +kernel
theorem dX4_want_1 : decode cX4_want 1 = .ok (.getfield 9, 3) := by decide +kernel
theorem dX4_want_4 : decode cX4_want 4 = .ok (.iconst 0, 1) := by decide +kernel
theorem dX4_want_5 : decode cX4_want 5 = .ok (.invokestatic 21, 3) := by decide +kernel
theorem dX4_want_8 : decode cX4_want 8 = .ok (.aload_n 0, 1) := by decide +kernel
theorem dX4_want_9 : decode cX4_want 9 = .ok (.getfield 15, 3) := by decide +kernel
theorem dX4_want_12 : decode cX4_want 12 = .ok (.bipush 9, 2) := by decide +kernel
theorem dX4_want_14 : decode cX4_want 14 = .ok (.invokestatic 21, 3) := by decide +kernel
theorem dX4_want_17 : decode cX4_want 17 = .ok (.iconst 0, 1) := by decide +kernel
theorem dX4_want_18 : decode cX4_want 18 = .ok (.istore_n 3, 1) := by decide +kernel
theorem dX4_want_19 : decode cX4_want 19 = .ok (.iload_n 3, 1) := by decide +kernel
theorem dX4_want_20 : decode cX4_want 20 = .ok (.aload_n 2, 1) := by decide +kernel
theorem dX4_want_21 : decode cX4_want 21 = .ok (.getfield 27, 3) := by decide +kernel
theorem dX4_want_24 : decode cX4_want 24 = .ok (.if_icmp .ge 121, 3) := by decide +kernel
theorem dX4_want_27 : decode cX4_want 27 = .ok (.aload_n 2, 1) := by decide +kernel
theorem dX4_want_28 : decode cX4_want 28 = .ok (.getfield 33, 3) := by decide +kernel
theorem dX4_want_31 : decode cX4_want 31 = .ok (.iload_n 3, 1) := by decide +kernel
theorem dX4_want_32 : decode cX4_want 32 = .ok (.iaload, 1) := by decide +kernel
theorem dX4_want_33 : decode cX4_want 33 = .ok (.istore 4, 2) := by decide +kernel
theorem dX4_want_35 : decode cX4_want 35 = .ok (.aload_n 1, 1) := by decide +kernel
theorem dX4_want_36 : decode cX4_want 36 = .ok (.getfield 36, 3) := by decide +kernel
theorem dX4_want_39 : decode cX4_want 39 = .ok (.iload 4, 2) := by decide +kernel
theorem dX4_want_41 : decode cX4_want 41 = .ok (.iaload, 1) := by decide +kernel
theorem dX4_want_42 : decode cX4_want 42 = .ok (.iconst 1, 1) := by decide +kernel
theorem dX4_want_43 : decode cX4_want 43 = .ok (.if_icmp .ne 96, 3) := by decide +kernel
theorem dX4_want_46 : decode cX4_want 46 = .ok (.bipush 60, 2) := by decide +kernel
theorem dX4_want_48 : decode cX4_want 48 = .ok (.aload_n 2, 1) := by decide +kernel
theorem dX4_want_49 : decode cX4_want 49 = .ok (.getfield 41, 3) := by decide +kernel
theorem dX4_want_52 : decode cX4_want 52 = .ok (.iload_n 3, 1) := by decide +kernel
theorem dX4_want_53 : decode cX4_want 53 = .ok (.iaload, 1) := by decide +kernel
theorem dX4_want_54 : decode cX4_want 54 = .ok (.aload_n 2, 1) := by decide +kernel
theorem dX4_want_55 : decode cX4_want 55 = .ok (.getfield 44, 3) := by decide +kernel
theorem dX4_want_58 : decode cX4_want 58 = .ok (.iload_n 3, 1) := by decide +kernel
theorem dX4_want_59 : decode cX4_want 59 = .ok (.iaload, 1) := by decide +kernel
theorem dX4_want_60 : decode cX4_want 60 = .ok (.iadd, 1) := by decide +kernel
theorem dX4_want_61 : decode cX4_want 61 = .ok (.invokestatic 47, 3) := by decide +kernel
theorem dX4_want_64 : decode cX4_want 64 = .ok (.istore 5, 2) := by decide +kernel
theorem dX4_want_66 : decode cX4_want 66 = .ok (.iconst 0, 1) := by decide +kernel
theorem dX4_want_67 : decode cX4_want 67 = .ok (.aload_n 2, 1) := by decide +kernel
theorem dX4_want_68 : decode cX4_want 68 = .ok (.getfield 41, 3) := by decide +kernel
theorem dX4_want_71 : decode cX4_want 71 = .ok (.iload_n 3, 1) := by decide +kernel
theorem dX4_want_72 : decode cX4_want 72 = .ok (.iaload, 1) := by decide +kernel
theorem dX4_want_73 : decode cX4_want 73 = .ok (.invokestatic 53, 3) := by decide +kernel
theorem dX4_want_76 : decode cX4_want 76 = .ok (.istore 6, 2) := by decide +kernel
theorem dX4_want_78 : decode cX4_want 78 = .ok (.iload 6, 2) := by decide +kernel
theorem dX4_want_80 : decode cX4_want 80 = .ok (.iload 5, 2) := by decide +kernel
theorem dX4_want_82 : decode cX4_want 82 = .ok (.if_icmp .ge 57, 3) := by decide +kernel
theorem dX4_want_85 : decode cX4_want 85 = .ok (.aload_n 0, 1) := by decide +kernel
theorem dX4_want_86 : decode cX4_want 86 = .ok (.getfield 9, 3) := by decide +kernel
theorem dX4_want_89 : decode cX4_want 89 = .ok (.iload 6, 2) := by decide +kernel
theorem dX4_want_91 : decode cX4_want 91 = .ok (.aload_n 0, 1) := by decide +kernel
theorem dX4_want_92 : decode cX4_want 92 = .ok (.getfield 9, 3) := by decide +kernel
theorem dX4_want_95 : decode cX4_want 95 = .ok (.iload 6, 2) := by decide +kernel
theorem dX4_want_97 : decode cX4_want 97 = .ok (.iaload, 1) := by decide +kernel
theorem dX4_want_98 : decode cX4_want 98 = .ok (.aload_n 1, 1) := by decide +kernel
theorem dX4_want_99 : decode cX4_want 99 = .ok (.getfield 56, 3) := by decide +kernel
theorem dX4_want_102 : decode cX4_want 102 = .ok (.iload 4, 2) := by decide +kernel
theorem dX4_want_104 : decode cX4_want 104 = .ok (.iaload, 1) := by decide +kernel
theorem dX4_want_105 : decode cX4_want 105 = .ok (.invokestatic 53, 3) := by decide +kernel
theorem dX4_want_108 : decode cX4_want 108 = .ok (.iastore, 1) := by decide +kernel
theorem dX4_want_109 : decode cX4_want 109 = .ok (.aload_n 0, 1) := by decide +kernel
theorem dX4_want_110 : decode cX4_want 110 = .ok (.getfield 15, 3) := by decide +kernel
theorem dX4_want_113 : decode cX4_want 113 = .ok (.iload 6, 2) := by decide +kernel
theorem dX4_want_115 : decode cX4_want 115 = .ok (.aload_n 0, 1) := by decide +kernel
theorem dX4_want_116 : decode cX4_want 116 = .ok (.getfield 15, 3) := by decide +kernel
theorem dX4_want_119 : decode cX4_want 119 = .ok (.iload 6, 2) := by decide +kernel
theorem dX4_want_121 : decode cX4_want 121 = .ok (.iaload, 1) := by decide +kernel
theorem dX4_want_122 : decode cX4_want 122 = .ok (.aload_n 1, 1) := by decide +kernel
theorem dX4_want_123 : decode cX4_want 123 = .ok (.getfield 57, 3) := by decide +kernel
theorem dX4_want_126 : decode cX4_want 126 = .ok (.iload 4, 2) := by decide +kernel
theorem dX4_want_128 : decode cX4_want 128 = .ok (.iaload, 1) := by decide +kernel
theorem dX4_want_129 : decode cX4_want 129 = .ok (.invokestatic 47, 3) := by decide +kernel
theorem dX4_want_132 : decode cX4_want 132 = .ok (.iastore, 1) := by decide +kernel
theorem dX4_want_133 : decode cX4_want 133 = .ok (.iinc 6 1, 3) := by decide +kernel
theorem dX4_want_136 : decode cX4_want 136 = .ok (.goto (-58), 3) := by decide +kernel
theorem dX4_want_139 : decode cX4_want 139 = .ok (.iinc 3 1, 3) := by decide +kernel
theorem dX4_want_142 : decode cX4_want 142 = .ok (.goto (-123), 3) := by decide +kernel
theorem dX4_want_145 : decode cX4_want 145 = .ok (.return_, 1) := by decide +kernel
theorem dX4_firstLack_0 : decode cX4_firstLack 0 = .ok (.iconst 0, 1) := by decide +kernel
theorem dX4_firstLack_1 : decode cX4_firstLack 1 = .ok (.istore_n 3, 1) := by decide +kernel
theorem dX4_firstLack_2 : decode cX4_firstLack 2 = .ok (.iconst 0, 1) := by decide +kernel
theorem dX4_firstLack_3 : decode cX4_firstLack 3 = .ok (.istore 4, 2) := by decide +kernel
theorem dX4_firstLack_5 : decode cX4_firstLack 5 = .ok (.iconst 0, 1) := by decide +kernel
theorem dX4_firstLack_6 : decode cX4_firstLack 6 = .ok (.istore 5, 2) := by decide +kernel
theorem dX4_firstLack_8 : decode cX4_firstLack 8 = .ok (.iload 5, 2) := by decide +kernel
theorem dX4_firstLack_10 : decode cX4_firstLack 10 = .ok (.bipush 60, 2) := by decide +kernel
theorem dX4_firstLack_12 : decode cX4_firstLack 12 = .ok (.if_icmp .ge 48, 3) := by decide +kernel
theorem dX4_firstLack_15 : decode cX4_firstLack 15 = .ok (.aload_n 0, 1) := by decide +kernel
theorem dX4_firstLack_16 : decode cX4_firstLack 16 = .ok (.getfield 9, 3) := by decide +kernel
theorem dX4_firstLack_19 : decode cX4_firstLack 19 = .ok (.iload 5, 2) := by decide +kernel
theorem dX4_firstLack_21 : decode cX4_firstLack 21 = .ok (.iaload, 1) := by decide +kernel
theorem dX4_firstLack_22 : decode cX4_firstLack 22 = .ok (.iload_n 3, 1) := by decide +kernel
theorem dX4_firstLack_23 : decode cX4_firstLack 23 = .ok (.iload_n 2, 1) := by decide +kernel
theorem dX4_firstLack_24 : decode cX4_firstLack 24 = .ok (.isub, 1) := by decide +kernel
theorem dX4_firstLack_25 : decode cX4_firstLack 25 = .ok (.invokestatic 53, 3) := by decide +kernel
theorem dX4_firstLack_28 : decode cX4_firstLack 28 = .ok (.istore_n 3, 1) := by decide +kernel
theorem dX4_firstLack_29 : decode cX4_firstLack 29 = .ok (.aload_n 0, 1) := by decide +kernel
theorem dX4_firstLack_30 : decode cX4_firstLack 30 = .ok (.getfield 15, 3) := by decide +kernel
theorem dX4_firstLack_33 : decode cX4_firstLack 33 = .ok (.iload 5, 2) := by decide +kernel
theorem dX4_firstLack_35 : decode cX4_firstLack 35 = .ok (.iaload, 1) := by decide +kernel
theorem dX4_firstLack_36 : decode cX4_firstLack 36 = .ok (.iload 4, 2) := by decide +kernel
theorem dX4_firstLack_38 : decode cX4_firstLack 38 = .ok (.iload_n 1, 1) := by decide +kernel
theorem dX4_firstLack_39 : decode cX4_firstLack 39 = .ok (.iadd, 1) := by decide +kernel
theorem dX4_firstLack_40 : decode cX4_firstLack 40 = .ok (.invokestatic 47, 3) := by decide +kernel
theorem dX4_firstLack_43 : decode cX4_firstLack 43 = .ok (.istore 4, 2) := by decide +kernel
theorem dX4_firstLack_45 : decode cX4_firstLack 45 = .ok (.iload_n 3, 1) := by decide +kernel
theorem dX4_firstLack_46 : decode cX4_firstLack 46 = .ok (.iload 4, 2) := by decide +kernel
theorem dX4_firstLack_48 : decode cX4_firstLack 48 = .ok (.if_icmp .le 6, 3) := by decide +kernel
theorem dX4_firstLack_51 : decode cX4_firstLack 51 = .ok (.iload 5, 2) := by decide +kernel
theorem dX4_firstLack_53 : decode cX4_firstLack 53 = .ok (.ireturn, 1) := by decide +kernel
theorem dX4_firstLack_54 : decode cX4_firstLack 54 = .ok (.iinc 5 1, 3) := by decide +kernel
theorem dX4_firstLack_57 : decode cX4_firstLack 57 = .ok (.goto (-49), 3) := by decide +kernel
theorem dX4_firstLack_60 : decode cX4_firstLack 60 = .ok (.bipush 60, 2) := by decide +kernel
theorem dX4_firstLack_62 : decode cX4_firstLack 62 = .ok (.ireturn, 1) := by decide +kernel
theorem dX4_settle_0 : decode cX4_settle 0 = .ok (.bipush 58, 2) := by decide +kernel
theorem dX4_settle_2 : decode cX4_settle 2 = .ok (.istore_n 3, 1) := by decide +kernel
theorem dX4_settle_3 : decode cX4_settle 3 = .ok (.iload_n 3, 1) := by decide +kernel
theorem dX4_settle_4 : decode cX4_settle 4 = .ok (.ifCond .lt 34, 3) := by decide +kernel
theorem dX4_settle_7 : decode cX4_settle 7 = .ok (.aload_n 0, 1) := by decide +kernel
theorem dX4_settle_8 : decode cX4_settle 8 = .ok (.getfield 9, 3) := by decide +kernel
theorem dX4_settle_11 : decode cX4_settle 11 = .ok (.iload_n 3, 1) := by decide +kernel
theorem dX4_settle_12 : decode cX4_settle 12 = .ok (.aload_n 0, 1) := by decide +kernel
theorem dX4_settle_13 : decode cX4_settle 13 = .ok (.getfield 9, 3) := by decide +kernel
theorem dX4_settle_16 : decode cX4_settle 16 = .ok (.iload_n 3, 1) := by decide +kernel
theorem dX4_settle_17 : decode cX4_settle 17 = .ok (.iaload, 1) := by decide +kernel
theorem dX4_settle_18 : decode cX4_settle 18 = .ok (.aload_n 0, 1) := by decide +kernel
theorem dX4_settle_19 : decode cX4_settle 19 = .ok (.getfield 9, 3) := by decide +kernel
theorem dX4_settle_22 : decode cX4_settle 22 = .ok (.iload_n 3, 1) := by decide +kernel
theorem dX4_settle_23 : decode cX4_settle 23 = .ok (.iconst 1, 1) := by decide +kernel
theorem dX4_settle_24 : decode cX4_settle 24 = .ok (.iadd, 1) := by decide +kernel
theorem dX4_settle_25 : decode cX4_settle 25 = .ok (.iaload, 1) := by decide +kernel
theorem dX4_settle_26 : decode cX4_settle 26 = .ok (.iload_n 1, 1) := by decide +kernel
theorem dX4_settle_27 : decode cX4_settle 27 = .ok (.isub, 1) := by decide +kernel
theorem dX4_settle_28 : decode cX4_settle 28 = .ok (.invokestatic 53, 3) := by decide +kernel
theorem dX4_settle_31 : decode cX4_settle 31 = .ok (.iastore, 1) := by decide +kernel
theorem dX4_settle_32 : decode cX4_settle 32 = .ok (.iinc 3 (-1), 3) := by decide +kernel
theorem dX4_settle_35 : decode cX4_settle 35 = .ok (.goto (-32), 3) := by decide +kernel
theorem dX4_settle_38 : decode cX4_settle 38 = .ok (.iconst 0, 1) := by decide +kernel
theorem dX4_settle_39 : decode cX4_settle 39 = .ok (.istore_n 3, 1) := by decide +kernel
theorem dX4_settle_40 : decode cX4_settle 40 = .ok (.iconst 0, 1) := by decide +kernel
theorem dX4_settle_41 : decode cX4_settle 41 = .ok (.istore 4, 2) := by decide +kernel
theorem dX4_settle_43 : decode cX4_settle 43 = .ok (.iload 4, 2) := by decide +kernel
theorem dX4_settle_45 : decode cX4_settle 45 = .ok (.bipush 60, 2) := by decide +kernel
theorem dX4_settle_47 : decode cX4_settle 47 = .ok (.if_icmp .ge 31, 3) := by decide +kernel
theorem dX4_settle_50 : decode cX4_settle 50 = .ok (.aload_n 0, 1) := by decide +kernel
theorem dX4_settle_51 : decode cX4_settle 51 = .ok (.getfield 9, 3) := by decide +kernel
theorem dX4_settle_54 : decode cX4_settle 54 = .ok (.iload 4, 2) := by decide +kernel
theorem dX4_settle_56 : decode cX4_settle 56 = .ok (.iaload, 1) := by decide +kernel
theorem dX4_settle_57 : decode cX4_settle 57 = .ok (.iload_n 3, 1) := by decide +kernel
theorem dX4_settle_58 : decode cX4_settle 58 = .ok (.iload_n 2, 1) := by decide +kernel
theorem dX4_settle_59 : decode cX4_settle 59 = .ok (.isub, 1) := by decide +kernel
theorem dX4_settle_60 : decode cX4_settle 60 = .ok (.invokestatic 53, 3) := by decide +kernel
theorem dX4_settle_63 : decode cX4_settle 63 = .ok (.istore_n 3, 1) := by decide +kernel
theorem dX4_settle_64 : decode cX4_settle 64 = .ok (.aload_n 0, 1) := by decide +kernel
theorem dX4_settle_65 : decode cX4_settle 65 = .ok (.getfield 18, 3) := by decide +kernel
theorem dX4_settle_68 : decode cX4_settle 68 = .ok (.iload 4, 2) := by decide +kernel
theorem dX4_settle_70 : decode cX4_settle 70 = .ok (.iload_n 3, 1) := by decide +kernel
theorem dX4_settle_71 : decode cX4_settle 71 = .ok (.iastore, 1) := by decide +kernel
theorem dX4_settle_72 : decode cX4_settle 72 = .ok (.iinc 4 1, 3) := by decide +kernel
theorem dX4_settle_75 : decode cX4_settle 75 = .ok (.goto (-32), 3) := by decide +kernel
theorem dX4_settle_78 : decode cX4_settle 78 = .ok (.return_, 1) := by decide +kernel
theorem dX5_init_0 : decode cX5_init 0 = .ok (.aload_n 0, 1) := by decide +kernel
theorem dX5_init_1 : decode cX5_init 1 = .ok (.invokespecial 3, 3) := by decide +kernel
theorem dX5_init_4 : decode cX5_init 4 = .ok (.aload_n 0, 1) := by decide +kernel
theorem dX5_init_5 : decode cX5_init 5 = .ok (.bipush 96, 2) := by decide +kernel
theorem dX5_init_7 : decode cX5_init 7 = .ok (.anewarray 9, 3) := by decide +kernel
theorem dX5_init_10 : decode cX5_init 10 = .ok (.putfield 11, 3) := by decide +kernel
theorem dX5_init_13 : decode cX5_init 13 = .ok (.aload_n 0, 1) := by decide +kernel
theorem dX5_init_14 : decode cX5_init 14 = .ok (.bipush 8, 2) := by decide +kernel
theorem dX5_init_16 : decode cX5_init 16 = .ok (.newarray .int, 2) := by decide +kernel
theorem dX5_init_18 : decode cX5_init 18 = .ok (.putfield 17, 3) := by decide +kernel
theorem dX5_init_21 : decode cX5_init 21 = .ok (.aload_n 0, 1) := by decide +kernel
theorem dX5_init_22 : decode cX5_init 22 = .ok (.bipush 8, 2) := by decide +kernel
theorem dX5_init_24 : decode cX5_init 24 = .ok (.newarray .int, 2) := by decide +kernel
theorem dX5_init_26 : decode cX5_init 26 = .ok (.putfield 21, 3) := by decide +kernel
theorem dX5_init_29 : decode cX5_init 29 = .ok (.aload_n 0, 1) := by decide +kernel
theorem dX5_init_30 : decode cX5_init 30 = .ok (.bipush 8, 2) := by decide +kernel
theorem dX5_init_32 : decode cX5_init 32 = .ok (.iconst 5, 1) := by decide +kernel
theorem dX5_init_33 : decode cX5_init 33 = .ok (.multianewarray 24 2, 4) := by decide +kernel
theorem dX5_init_37 : decode cX5_init 37 = .ok (.putfield 26, 3) := by decide +kernel
theorem dX5_init_40 : decode cX5_init 40 = .ok (.aload_n 0, 1) := by decide +kernel
theorem dX5_init_41 : decode cX5_init 41 = .ok (.iconst 4, 1) := by decide +kernel
theorem dX5_init_42 : decode cX5_init 42 = .ok (.anewarray 29, 3) := by decide +kernel
theorem dX5_init_45 : decode cX5_init 45 = .ok (.putfield 31, 3) := by decide +kernel
theorem dX5_init_48 : decode cX5_init 48 = .ok (.aload_n 0, 1) := by decide +kernel
theorem dX5_init_49 : decode cX5_init 49 = .ok (.iconst 4, 1) := by decide +kernel
theorem dX5_init_50 : decode cX5_init 50 = .ok (.newarray .int, 2) := by decide +kernel
theorem dX5_init_52 : decode cX5_init 52 = .ok (.putfield 35, 3) := by decide +kernel
theorem dX5_init_55 : decode cX5_init 55 = .ok (.aload_n 0, 1) := by decide +kernel
theorem dX5_init_56 : decode cX5_init 56 = .ok (.iconst 4, 1) := by decide +kernel
theorem dX5_init_57 : decode cX5_init 57 = .ok (.newarray .int, 2) := by decide +kernel
theorem dX5_init_59 : decode cX5_init 59 = .ok (.putfield 38, 3) := by decide +kernel
theorem dX5_init_62 : decode cX5_init 62 = .ok (.aload_n 0, 1) := by decide +kernel
theorem dX5_init_63 : decode cX5_init 63 = .ok (.iconst 4, 1) := by decide +kernel
theorem dX5_init_64 : decode cX5_init 64 = .ok (.newarray .int, 2) := by decide +kernel
theorem dX5_init_66 : decode cX5_init 66 = .ok (.putfield 41, 3) := by decide +kernel
theorem dX5_init_69 : decode cX5_init 69 = .ok (.aload_n 0, 1) := by decide +kernel
theorem dX5_init_70 : decode cX5_init 70 = .ok (.iconst 5, 1) := by decide +kernel
theorem dX5_init_71 : decode cX5_init 71 = .ok (.newarray .int, 2) := by decide +kernel
theorem dX5_init_73 : decode cX5_init 73 = .ok (.putfield 44, 3) := by decide +kernel
theorem dX5_init_76 : decode cX5_init 76 = .ok (.aload_n 0, 1) := by decide +kernel
theorem dX5_init_77 : decode cX5_init 77 = .ok (.sipush 768, 3) := by decide +kernel
theorem dX5_init_80 : decode cX5_init 80 = .ok (.newarray .int, 2) := by decide +kernel
theorem dX5_init_82 : decode cX5_init 82 = .ok (.putfield 47, 3) := by decide +kernel
theorem dX5_init_85 : decode cX5_init 85 = .ok (.aload_n 0, 1) := by decide +kernel
theorem dX5_init_86 : decode cX5_init 86 = .ok (.iconst 5, 1) := by decide +kernel
theorem dX5_init_87 : decode cX5_init 87 = .ok (.iconst 4, 1) := by decide +kernel
theorem dX5_init_88 : decode cX5_init 88 = .ok (.multianewarray 50 2, 4) := by decide +kernel
theorem dX5_init_92 : decode cX5_init 92 = .ok (.putfield 52, 3) := by decide +kernel
theorem dX5_init_95 : decode cX5_init 95 = .ok (.aload_n 0, 1) := by decide +kernel
theorem dX5_init_96 : decode cX5_init 96 = .ok (.sipush 256, 3) := by decide +kernel
theorem dX5_init_99 : decode cX5_init 99 = .ok (.newarray .boolean, 2) := by decide +kernel
theorem dX5_init_101 : decode cX5_init 101 = .ok (.putfield 55, 3) := by decide +kernel
theorem dX5_init_104 : decode cX5_init 104 = .ok (.aload_n 0, 1) := by decide +kernel
theorem dX5_init_105 : decode cX5_init 105 = .ok (.new 59, 3) := by decide +kernel
theorem dX5_init_108 : decode cX5_init 108 = .ok (.dup, 1) := by decide +kernel
theorem dX5_init_109 : decode cX5_init 109 = .ok (.invokespecial 61, 3) := by decide +kernel
theorem dX5_init_112 : decode cX5_init 112 = .ok (.putfield 62, 3) := by decide +kernel
theorem dX5_init_115 : decode cX5_init 115 = .ok (.aload_n 0, 1) := by decide +kernel
theorem dX5_init_116 : decode cX5_init 116 = .ok (.new 66, 3) := by decide +kernel
theorem dX5_init_119 : decode cX5_init 119 = .ok (.dup, 1) := by decide +kernel
theorem dX5_init_120 : decode cX5_init 120 = .ok (.invokespecial 68, 3) := by decide +kernel
theorem dX5_init_123 : decode cX5_init 123 = .ok (.putfield 69, 3) := by decide +kernel
theorem dX5_init_126 : decode cX5_init 126 = .ok (.iconst 0, 1) := by decide +kernel
theorem dX5_init_127 : decode cX5_init 127 = .ok (.istore_n 1, 1) := by decide +kernel
theorem dX5_init_128 : decode cX5_init 128 = .ok (.iload_n 1, 1) := by decide +kernel
theorem dX5_init_129 : decode cX5_init 129 = .ok (.aload_n 0, 1) := by decide +kernel
theorem dX5_init_130 : decode cX5_init 130 = .ok (.getfield 11, 3) := by decide +kernel
theorem dX5_init_133 : decode cX5_init 133 = .ok (.arraylength, 1) := by decide +kernel
theorem dX5_init_134 : decode cX5_init 134 = .ok (.if_icmp .ge 22, 3) := by decide +kernel
theorem dX5_init_137 : decode cX5_init 137 = .ok (.aload_n 0, 1) := by decide +kernel
theorem dX5_init_138 : decode cX5_init 138 = .ok (.getfield 11, 3) := by decide +kernel
theorem dX5_init_141 : decode cX5_init 141 = .ok (.iload_n 1, 1) := by decide +kernel
theorem dX5_init_142 : decode cX5_init 142 = .ok (.new 9, 3) := by decide +kernel
theorem dX5_init_145 : decode cX5_init 145 = .ok (.dup, 1) := by decide +kernel
theorem dX5_init_146 : decode cX5_init 146 = .ok (.invokespecial 73, 3) := by decide +kernel
theorem dX5_init_149 : decode cX5_init 149 = .ok (.aastore, 1) := by decide +kernel
theorem dX5_init_150 : decode cX5_init 150 = .ok (.iinc 1 1, 3) := by decide +kernel
theorem dX5_init_153 : decode cX5_init 153 = .ok (.goto (-25), 3) := by decide +kernel
theorem dX5_init_156 : decode cX5_init 156 = .ok (.iconst 0, 1) := by decide +kernel
theorem dX5_init_157 : decode cX5_init 157 = .ok (.istore_n 1, 1) := by decide +kernel
theorem dX5_init_158 : decode cX5_init 158 = .ok (.iload_n 1, 1) := by decide +kernel
theorem dX5_init_159 : decode cX5_init 159 = .ok (.aload_n 0, 1) := by decide +kernel
theorem dX5_init_160 : decode cX5_init 160 = .ok (.getfield 31, 3) := by decide +kernel
theorem dX5_init_163 : decode cX5_init 163 = .ok (.arraylength, 1) := by decide +kernel
theorem dX5_init_164 : decode cX5_init 164 = .ok (.if_icmp .ge 22, 3) := by decide +kernel
theorem dX5_init_167 : decode cX5_init 167 = .ok (.aload_n 0, 1) := by decide +kernel
theorem dX5_init_168 : decode cX5_init 168 = .ok (.getfield 31, 3) := by decide +kernel
theorem dX5_init_171 : decode cX5_init 171 = .ok (.iload_n 1, 1) := by decide +kernel
theorem dX5_init_172 : decode cX5_init 172 = .ok (.new 29, 3) := by decide +kernel
theorem dX5_init_175 : decode cX5_init 175 = .ok (.dup, 1) := by decide +kernel
theorem dX5_init_176 : decode cX5_init 176 = .ok (.invokespecial 74, 3) := by decide +kernel
theorem dX5_init_179 : decode cX5_init 179 = .ok (.aastore, 1) := by decide +kernel
theorem dX5_init_180 : decode cX5_init 180 = .ok (.iinc 1 1, 3) := by decide +kernel
theorem dX5_init_183 : decode cX5_init 183 = .ok (.goto (-25), 3) := by decide +kernel
theorem dX5_init_186 : decode cX5_init 186 = .ok (.return_, 1) := by decide +kernel
theorem dX5_lay_0 : decode cX5_lay 0 = .ok (.aload_n 0, 1) := by decide +kernel
theorem dX5_lay_1 : decode cX5_lay 1 = .ok (.aload_n 1, 1) := by decide +kernel
theorem dX5_lay_2 : decode cX5_lay 2 = .ok (.putfield 62, 3) := by decide +kernel
theorem dX5_lay_5 : decode cX5_lay 5 = .ok (.aload_n 0, 1) := by decide +kernel
theorem dX5_lay_6 : decode cX5_lay 6 = .ok (.aload_n 2, 1) := by decide +kernel
theorem dX5_lay_7 : decode cX5_lay 7 = .ok (.putfield 69, 3) := by decide +kernel
theorem dX5_lay_10 : decode cX5_lay 10 = .ok (.aload_n 0, 1) := by decide +kernel
theorem dX5_lay_11 : decode cX5_lay 11 = .ok (.getfield 31, 3) := by decide +kernel
theorem dX5_lay_14 : decode cX5_lay 14 = .ok (.iconst 0, 1) := by decide +kernel
theorem dX5_lay_15 : decode cX5_lay 15 = .ok (.aaload, 1) := by decide +kernel
theorem dX5_lay_16 : decode cX5_lay 16 = .ok (.aload_n 0, 1) := by decide +kernel
theorem dX5_lay_17 : decode cX5_lay 17 = .ok (.getfield 69, 3) := by decide +kernel
theorem dX5_lay_20 : decode cX5_lay 20 = .ok (.invokevirtual 75, 3) := by decide +kernel
theorem dX5_lay_23 : decode cX5_lay 23 = .ok (.iconst 0, 1) := by decide +kernel
theorem dX5_lay_24 : decode cX5_lay 24 = .ok (.istore 5, 2) := by decide +kernel
theorem dX5_lay_26 : decode cX5_lay 26 = .ok (.iload 5, 2) := by decide +kernel
theorem dX5_lay_28 : decode cX5_lay 28 = .ok (.aload_n 0, 1) := by decide +kernel
theorem dX5_lay_29 : decode cX5_lay 29 = .ok (.getfield 62, 3) := by decide +kernel
theorem dX5_lay_32 : decode cX5_lay 32 = .ok (.getfield 78, 3) := by decide +kernel
theorem dX5_lay_35 : decode cX5_lay 35 = .ok (.if_icmp .ge 26, 3) := by decide +kernel
theorem dX5_lay_38 : decode cX5_lay 38 = .ok (.iload_n 3, 1) := by decide +kernel
theorem dX5_lay_39 : decode cX5_lay 39 = .ok (.iload 5, 2) := by decide +kernel
theorem dX5_lay_41 : decode cX5_lay 41 = .ok (.ishr, 1) := by decide +kernel
theorem dX5_lay_42 : decode cX5_lay 42 = .ok (.iconst 1, 1) := by decide +kernel
theorem dX5_lay_43 : decode cX5_lay 43 = .ok (.iand, 1) := by decide +kernel
theorem dX5_lay_44 : decode cX5_lay 44 = .ok (.ifCond .eq 11, 3) := by decide +kernel
theorem dX5_lay_47 : decode cX5_lay 47 = .ok (.aload_n 0, 1) := by decide +kernel
theorem dX5_lay_48 : decode cX5_lay 48 = .ok (.iload 5, 2) := by decide +kernel
theorem dX5_lay_50 : decode cX5_lay 50 = .ok (.iload 4, 2) := by decide +kernel
theorem dX5_lay_52 : decode cX5_lay 52 = .ok (.invokevirtual 82, 3) := by decide +kernel
theorem dX5_lay_55 : decode cX5_lay 55 = .ok (.iinc 5 1, 3) := by decide +kernel
theorem dX5_lay_58 : decode cX5_lay 58 = .ok (.goto (-32), 3) := by decide +kernel
theorem dX5_lay_61 : decode cX5_lay 61 = .ok (.return_, 1) := by decide +kernel
theorem dX5_layDish_0 : decode cX5_layDish 0 = .ok (.iconst 0, 1) := by decide +kernel
theorem dX5_layDish_1 : decode cX5_layDish 1 = .ok (.istore_n 3, 1) := by decide +kernel
theorem dX5_layDish_2 : decode cX5_layDish 2 = .ok (.iconst 0, 1) := by decide +kernel
theorem dX5_layDish_3 : decode cX5_layDish 3 = .ok (.istore 4, 2) := by decide +kernel
theorem dX5_layDish_5 : decode cX5_layDish 5 = .ok (.iload 4, 2) := by decide +kernel
theorem dX5_layDish_7 : decode cX5_layDish 7 = .ok (.aload_n 0, 1) := by decide +kernel
theorem dX5_layDish_8 : decode cX5_layDish 8 = .ok (.getfield 62, 3) := by decide +kernel
theorem dX5_layDish_11 : decode cX5_layDish 11 = .ok (.iload_n 1, 1) := by decide +kernel
theorem dX5_layDish_12 : decode cX5_layDish 12 = .ok (.iconst 1, 1) := by decide +kernel
theorem dX5_layDish_13 : decode cX5_layDish 13 = .ok (.invokevirtual 86, 3) := by decide +kernel
theorem dX5_layDish_16 : decode cX5_layDish 16 = .ok (.if_icmp .gt 155, 3) := by decide +kernel
theorem dX5_layDish_19 : decode cX5_layDish 19 = .ok (.iconst 0, 1) := by decide +kernel
theorem dX5_layDish_20 : decode cX5_layDish 20 = .ok (.istore 5, 2) := by decide +kernel
theorem dX5_layDish_22 : decode cX5_layDish 22 = .ok (.iload 5, 2) := by decide +kernel
theorem dX5_layDish_24 : decode cX5_layDish 24 = .ok (.aload_n 0, 1) := by decide +kernel
theorem dX5_layDish_25 : decode cX5_layDish 25 = .ok (.getfield 62, 3) := by decide +kernel
theorem dX5_layDish_28 : decode cX5_layDish 28 = .ok (.iload_n 1, 1) := by decide +kernel
theorem dX5_layDish_29 : decode cX5_layDish 29 = .ok (.iconst 0, 1) := by decide +kernel
theorem dX5_layDish_30 : decode cX5_layDish 30 = .ok (.invokevirtual 86, 3) := by decide +kernel
theorem dX5_layDish_33 : decode cX5_layDish 33 = .ok (.if_icmp .gt 132, 3) := by decide +kernel
theorem dX5_layDish_36 : decode cX5_layDish 36 = .ok (.iconst 0, 1) := by decide +kernel
theorem dX5_layDish_37 : decode cX5_layDish 37 = .ok (.istore 6, 2) := by decide +kernel
theorem dX5_layDish_39 : decode cX5_layDish 39 = .ok (.iload 6, 2) := by decide +kernel
theorem dX5_layDish_41 : decode cX5_layDish 41 = .ok (.aload_n 0, 1) := by decide +kernel
theorem dX5_layDish_42 : decode cX5_layDish 42 = .ok (.getfield 62, 3) := by decide +kernel
theorem dX5_layDish_45 : decode cX5_layDish 45 = .ok (.getfield 90, 3) := by decide +kernel
theorem dX5_layDish_48 : decode cX5_layDish 48 = .ok (.iload_n 1, 1) := by decide +kernel
theorem dX5_layDish_49 : decode cX5_layDish 49 = .ok (.iaload, 1) := by decide +kernel
theorem dX5_layDish_50 : decode cX5_layDish 50 = .ok (.if_icmp .gt 109, 3) := by decide +kernel
theorem dX5_layDish_53 : decode cX5_layDish 53 = .ok (.iload_n 3, 1) := by decide +kernel
theorem dX5_layDish_54 : decode cX5_layDish 54 = .ok (.bipush 12, 2) := by decide +kernel
theorem dX5_layDish_56 : decode cX5_layDish 56 = .ok (.if_icmp .ge 103, 3) := by decide +kernel
theorem dX5_layDish_59 : decode cX5_layDish 59 = .ok (.aload_n 0, 1) := by decide +kernel
theorem dX5_layDish_60 : decode cX5_layDish 60 = .ok (.getfield 11, 3) := by decide +kernel
theorem dX5_layDish_63 : decode cX5_layDish 63 = .ok (.iload_n 1, 1) := by decide +kernel
theorem dX5_layDish_64 : decode cX5_layDish 64 = .ok (.bipush 12, 2) := by decide +kernel
theorem dX5_layDish_66 : decode cX5_layDish 66 = .ok (.imul, 1) := by decide +kernel
theorem dX5_layDish_67 : decode cX5_layDish 67 = .ok (.iload_n 3, 1) := by decide +kernel
theorem dX5_layDish_68 : decode cX5_layDish 68 = .ok (.iadd, 1) := by decide +kernel
theorem dX5_layDish_69 : decode cX5_layDish 69 = .ok (.aaload, 1) := by decide +kernel
theorem dX5_layDish_70 : decode cX5_layDish 70 = .ok (.astore 7, 2) := by decide +kernel
theorem dX5_layDish_72 : decode cX5_layDish 72 = .ok (.aload 7, 2) := by decide +kernel
theorem dX5_layDish_74 : decode cX5_layDish 74 = .ok (.aload_n 0, 1) := by decide +kernel
theorem dX5_layDish_75 : decode cX5_layDish 75 = .ok (.getfield 62, 3) := by decide +kernel
theorem dX5_layDish_78 : decode cX5_layDish 78 = .ok (.iload_n 1, 1) := by decide +kernel
theorem dX5_layDish_79 : decode cX5_layDish 79 = .ok (.iload_n 2, 1) := by decide +kernel
theorem dX5_layDish_80 : decode cX5_layDish 80 = .ok (.iload 6, 2) := by decide +kernel
theorem dX5_layDish_82 : decode cX5_layDish 82 = .ok (.isub, 1) := by decide +kernel
theorem dX5_layDish_83 : decode cX5_layDish 83 = .ok (.iload 5, 2) := by decide +kernel
theorem dX5_layDish_85 : decode cX5_layDish 85 = .ok (.iload 4, 2) := by decide +kernel
theorem dX5_layDish_87 : decode cX5_layDish 87 = .ok (.invokevirtual 93, 3) := by decide +kernel
theorem dX5_layDish_90 : decode cX5_layDish 90 = .ok (.aload 7, 2) := by decide +kernel
theorem dX5_layDish_92 : decode cX5_layDish 92 = .ok (.iload 6, 2) := by decide +kernel
theorem dX5_layDish_94 : decode cX5_layDish 94 = .ok (.putfield 97, 3) := by decide +kernel
theorem dX5_layDish_97 : decode cX5_layDish 97 = .ok (.aload 7, 2) := by decide +kernel
theorem dX5_layDish_99 : decode cX5_layDish 99 = .ok (.dup, 1) := by decide +kernel
theorem dX5_layDish_100 : decode cX5_layDish 100 = .ok (.getfield 100, 3) := by decide +kernel
theorem dX5_layDish_103 : decode cX5_layDish 103 = .ok (.iload 6, 2) := by decide +kernel
theorem dX5_layDish_105 : decode cX5_layDish 105 = .ok (.aload_n 0, 1) := by decide +kernel
theorem dX5_layDish_106 : decode cX5_layDish 106 = .ok (.getfield 62, 3) := by decide +kernel
theorem dX5_layDish_109 : decode cX5_layDish 109 = .ok (.getfield 103, 3) := by decide +kernel
theorem dX5_layDish_112 : decode cX5_layDish 112 = .ok (.iload_n 1, 1) := by decide +kernel
theorem dX5_layDish_113 : decode cX5_layDish 113 = .ok (.iaload, 1) := by decide +kernel
theorem dX5_layDish_114 : decode cX5_layDish 114 = .ok (.imul, 1) := by decide +kernel
theorem dX5_layDish_115 : decode cX5_layDish 115 = .ok (.iadd, 1) := by decide +kernel
theorem dX5_layDish_116 : decode cX5_layDish 116 = .ok (.putfield 100, 3) := by decide +kernel
theorem dX5_layDish_119 : decode cX5_layDish 119 = .ok (.aload 7, 2) := by decide +kernel
theorem dX5_layDish_121 : decode cX5_layDish 121 = .ok (.getfield 106, 3) := by decide +kernel
theorem dX5_layDish_124 : decode cX5_layDish 124 = .ok (.ifCond .eq 26, 3) := by decide +kernel
theorem dX5_layDish_127 : decode cX5_layDish 127 = .ok (.aload_n 0, 1) := by decide +kernel
theorem dX5_layDish_128 : decode cX5_layDish 128 = .ok (.getfield 31, 3) := by decide +kernel
theorem dX5_layDish_131 : decode cX5_layDish 131 = .ok (.iconst 0, 1) := by decide +kernel
theorem dX5_layDish_132 : decode cX5_layDish 132 = .ok (.aaload, 1) := by decide +kernel
theorem dX5_layDish_133 : decode cX5_layDish 133 = .ok (.aload 7, 2) := by decide +kernel
theorem dX5_layDish_135 : decode cX5_layDish 135 = .ok (.getfield 110, 3) := by decide +kernel
theorem dX5_layDish_138 : decode cX5_layDish 138 = .ok (.invokevirtual 114, 3) := by decide +kernel
theorem dX5_layDish_141 : decode cX5_layDish 141 = .ok (.ifCond .ne 9, 3) := by decide +kernel
theorem dX5_layDish_144 : decode cX5_layDish 144 = .ok (.aload 7, 2) := by decide +kernel
theorem dX5_layDish_146 : decode cX5_layDish 146 = .ok (.iconst 0, 1) := by decide +kernel
theorem dX5_layDish_147 : decode cX5_layDish 147 = .ok (.putfield 106, 3) := by decide +kernel
theorem dX5_layDish_150 : decode cX5_layDish 150 = .ok (.iinc 3 1, 3) := by decide +kernel
theorem dX5_layDish_153 : decode cX5_layDish 153 = .ok (.iinc 6 1, 3) := by decide +kernel
theorem dX5_layDish_156 : decode cX5_layDish 156 = .ok (.goto (-117), 3) := by decide +kernel
theorem dX5_layDish_159 : decode cX5_layDish 159 = .ok (.iinc 5 1, 3) := by decide +kernel
theorem dX5_layDish_162 : decode cX5_layDish 162 = .ok (.goto (-140), 3) := by decide +kernel
theorem dX5_layDish_165 : decode cX5_layDish 165 = .ok (.iinc 4 1, 3) := by decide +kernel
theorem dX5_layDish_168 : decode cX5_layDish 168 = .ok (.goto (-163), 3) := by decide +kernel
theorem dX5_layDish_171 : decode cX5_layDish 171 = .ok (.aload_n 0, 1) := by decide +kernel
theorem dX5_layDish_172 : decode cX5_layDish 172 = .ok (.getfield 17, 3) := by decide +kernel
theorem dX5_layDish_175 : decode cX5_layDish 175 = .ok (.iload_n 1, 1) := by decide +kernel
theorem dX5_layDish_176 : decode cX5_layDish 176 = .ok (.iload_n 3, 1) := by decide +kernel
theorem dX5_layDish_177 : decode cX5_layDish 177 = .ok (.iastore, 1) := by decide +kernel
theorem dX5_layDish_178 : decode cX5_layDish 178 = .ok (.return_, 1) := by decide +kernel
theorem dX5_strikeEarly_0 : decode cX5_strikeEarly 0 = .ok (.iconst 0, 1) := by decide +kernel
theorem dX5_strikeEarly_1 : decode cX5_strikeEarly 1 = .ok (.istore_n 1, 1) := by decide +kernel
theorem dX5_strikeEarly_2 : decode cX5_strikeEarly 2 = .ok (.iload_n 1, 1) := by decide +kernel
theorem dX5_strikeEarly_3 : decode cX5_strikeEarly 3 = .ok (.aload_n 0, 1) := by decide +kernel
theorem dX5_strikeEarly_4 : decode cX5_strikeEarly 4 = .ok (.getfield 11, 3) := by decide +kernel
theorem dX5_strikeEarly_7 : decode cX5_strikeEarly 7 = .ok (.arraylength, 1) := by decide +kernel
theorem dX5_strikeEarly_8 : decode cX5_strikeEarly 8 = .ok (.if_icmp .ge 31, 3) := by decide +kernel
theorem dX5_strikeEarly_11 : decode cX5_strikeEarly 11 = .ok (.aload_n 0, 1) := by decide +kernel
theorem dX5_strikeEarly_12 : decode cX5_strikeEarly 12 = .ok (.getfield 11, 3) := by decide +kernel
theorem dX5_strikeEarly_15 : decode cX5_strikeEarly 15 = .ok (.iload_n 1, 1) := by decide +kernel
theorem dX5_strikeEarly_16 : decode cX5_strikeEarly 16 = .ok (.aaload, 1) := by decide +kernel
theorem dX5_strikeEarly_17 : decode cX5_strikeEarly 17 = .ok (.getfield 97, 3) := by decide +kernel
theorem dX5_strikeEarly_20 : decode cX5_strikeEarly 20 = .ok (.ifCond .le 13, 3) := by decide +kernel
theorem dX5_strikeEarly_23 : decode cX5_strikeEarly 23 = .ok (.aload_n 0, 1) := by decide +kernel
theorem dX5_strikeEarly_24 : decode cX5_strikeEarly 24 = .ok (.getfield 11, 3) := by decide +kernel
theorem dX5_strikeEarly_27 : decode cX5_strikeEarly 27 = .ok (.iload_n 1, 1) := by decide +kernel
theorem dX5_strikeEarly_28 : decode cX5_strikeEarly 28 = .ok (.aaload, 1) := by decide +kernel
theorem dX5_strikeEarly_29 : decode cX5_strikeEarly 29 = .ok (.iconst 0, 1) := by decide +kernel
theorem dX5_strikeEarly_30 : decode cX5_strikeEarly 30 = .ok (.putfield 106, 3) := by decide +kernel
theorem dX5_strikeEarly_33 : decode cX5_strikeEarly 33 = .ok (.iinc 1 1, 3) := by decide +kernel
theorem dX5_strikeEarly_36 : decode cX5_strikeEarly 36 = .ok (.goto (-34), 3) := by decide +kernel
theorem dX5_strikeEarly_39 : decode cX5_strikeEarly 39 = .ok (.return_, 1) := by decide +kernel
theorem dX5_strikeUnlike_0 : decode cX5_strikeUnlike 0 = .ok (.iconst 0, 1) := by decide +kernel
theorem dX5_strikeUnlike_1 : decode cX5_strikeUnlike 1 = .ok (.istore_n 3, 1) := by decide +kernel
theorem dX5_strikeUnlike_2 : decode cX5_strikeUnlike 2 = .ok (.iload_n 3, 1) := by decide +kernel
theorem dX5_strikeUnlike_3 : decode cX5_strikeUnlike 3 = .ok (.aload_n 1, 1) := by decide +kernel
theorem dX5_strikeUnlike_4 : decode cX5_strikeUnlike 4 = .ok (.getfield 118, 3) := by decide +kernel
theorem dX5_strikeUnlike_7 : decode cX5_strikeUnlike 7 = .ok (.if_icmp .ge 140, 3) := by decide +kernel
theorem dX5_strikeUnlike_10 : decode cX5_strikeUnlike 10 = .ok (.aload_n 1, 1) := by decide +kernel
theorem dX5_strikeUnlike_11 : decode cX5_strikeUnlike 11 = .ok (.getfield 123, 3) := by decide +kernel
theorem dX5_strikeUnlike_14 : decode cX5_strikeUnlike 14 = .ok (.aload_n 1, 1) := by decide +kernel
theorem dX5_strikeUnlike_15 : decode cX5_strikeUnlike 15 = .ok (.getfield 126, 3) := by decide +kernel
theorem dX5_strikeUnlike_18 : decode cX5_strikeUnlike 18 = .ok (.iload_n 3, 1) := by decide +kernel
theorem dX5_strikeUnlike_19 : decode cX5_strikeUnlike 19 = .ok (.iaload, 1) := by decide +kernel
theorem dX5_strikeUnlike_20 : decode cX5_strikeUnlike 20 = .ok (.iaload, 1) := by decide +kernel
theorem dX5_strikeUnlike_21 : decode cX5_strikeUnlike 21 = .ok (.istore 4, 2) := by decide +kernel
theorem dX5_strikeUnlike_23 : decode cX5_strikeUnlike 23 = .ok (.aload_n 1, 1) := by decide +kernel
theorem dX5_strikeUnlike_24 : decode cX5_strikeUnlike 24 = .ok (.getfield 129, 3) := by decide +kernel
theorem dX5_strikeUnlike_27 : decode cX5_strikeUnlike 27 = .ok (.iload_n 3, 1) := by decide +kernel
theorem dX5_strikeUnlike_28 : decode cX5_strikeUnlike 28 = .ok (.iaload, 1) := by decide +kernel
theorem dX5_strikeUnlike_29 : decode cX5_strikeUnlike 29 = .ok (.aload_n 0, 1) := by decide +kernel
theorem dX5_strikeUnlike_30 : decode cX5_strikeUnlike 30 = .ok (.getfield 62, 3) := by decide +kernel
theorem dX5_strikeUnlike_33 : decode cX5_strikeUnlike 33 = .ok (.getfield 132, 3) := by decide +kernel
theorem dX5_strikeUnlike_36 : decode cX5_strikeUnlike 36 = .ok (.iload 4, 2) := by decide +kernel
theorem dX5_strikeUnlike_38 : decode cX5_strikeUnlike 38 = .ok (.iaload, 1) := by decide +kernel
theorem dX5_strikeUnlike_39 : decode cX5_strikeUnlike 39 = .ok (.isub, 1) := by decide +kernel
theorem dX5_strikeUnlike_40 : decode cX5_strikeUnlike 40 = .ok (.istore 5, 2) := by decide +kernel
theorem dX5_strikeUnlike_42 : decode cX5_strikeUnlike 42 = .ok (.iconst 0, 1) := by decide +kernel
theorem dX5_strikeUnlike_43 : decode cX5_strikeUnlike 43 = .ok (.istore 6, 2) := by decide +kernel
theorem dX5_strikeUnlike_45 : decode cX5_strikeUnlike 45 = .ok (.iload 6, 2) := by decide +kernel
theorem dX5_strikeUnlike_47 : decode cX5_strikeUnlike 47 = .ok (.aload_n 0, 1) := by decide +kernel
theorem dX5_strikeUnlike_48 : decode cX5_strikeUnlike 48 = .ok (.getfield 17, 3) := by decide +kernel
theorem dX5_strikeUnlike_51 : decode cX5_strikeUnlike 51 = .ok (.iload 4, 2) := by decide +kernel
theorem dX5_strikeUnlike_53 : decode cX5_strikeUnlike 53 = .ok (.iaload, 1) := by decide +kernel
theorem dX5_strikeUnlike_54 : decode cX5_strikeUnlike 54 = .ok (.if_icmp .ge 87, 3) := by decide +kernel
theorem dX5_strikeUnlike_57 : decode cX5_strikeUnlike 57 = .ok (.aload_n 0, 1) := by decide +kernel
theorem dX5_strikeUnlike_58 : decode cX5_strikeUnlike 58 = .ok (.getfield 11, 3) := by decide +kernel
theorem dX5_strikeUnlike_61 : decode cX5_strikeUnlike 61 = .ok (.iload 4, 2) := by decide +kernel
theorem dX5_strikeUnlike_63 : decode cX5_strikeUnlike 63 = .ok (.bipush 12, 2) := by decide +kernel
theorem dX5_strikeUnlike_65 : decode cX5_strikeUnlike 65 = .ok (.imul, 1) := by decide +kernel
theorem dX5_strikeUnlike_66 : decode cX5_strikeUnlike 66 = .ok (.iload 6, 2) := by decide +kernel
theorem dX5_strikeUnlike_68 : decode cX5_strikeUnlike 68 = .ok (.iadd, 1) := by decide +kernel
theorem dX5_strikeUnlike_69 : decode cX5_strikeUnlike 69 = .ok (.aaload, 1) := by decide +kernel
theorem dX5_strikeUnlike_70 : decode cX5_strikeUnlike 70 = .ok (.astore 7, 2) := by decide +kernel
theorem dX5_strikeUnlike_72 : decode cX5_strikeUnlike 72 = .ok (.aload 7, 2) := by decide +kernel
theorem dX5_strikeUnlike_74 : decode cX5_strikeUnlike 74 = .ok (.getfield 135, 3) := by decide +kernel
theorem dX5_strikeUnlike_77 : decode cX5_strikeUnlike 77 = .ok (.iload 5, 2) := by decide +kernel
theorem dX5_strikeUnlike_79 : decode cX5_strikeUnlike 79 = .ok (.iaload, 1) := by decide +kernel
theorem dX5_strikeUnlike_80 : decode cX5_strikeUnlike 80 = .ok (.istore 8, 2) := by decide +kernel
theorem dX5_strikeUnlike_82 : decode cX5_strikeUnlike 82 = .ok (.aload_n 1, 1) := by decide +kernel
theorem dX5_strikeUnlike_83 : decode cX5_strikeUnlike 83 = .ok (.getfield 138, 3) := by decide +kernel
theorem dX5_strikeUnlike_86 : decode cX5_strikeUnlike 86 = .ok (.iload_n 3, 1) := by decide +kernel
theorem dX5_strikeUnlike_87 : decode cX5_strikeUnlike 87 = .ok (.iaload, 1) := by decide +kernel
theorem dX5_strikeUnlike_88 : decode cX5_strikeUnlike 88 = .ok (.iload_n 2, 1) := by decide +kernel
theorem dX5_strikeUnlike_89 : decode cX5_strikeUnlike 89 = .ok (.if_icmp .ge 22, 3) := by decide +kernel
theorem dX5_strikeUnlike_92 : decode cX5_strikeUnlike 92 = .ok (.iload 8, 2) := by decide +kernel
theorem dX5_strikeUnlike_94 : decode cX5_strikeUnlike 94 = .ok (.aload_n 1, 1) := by decide +kernel
theorem dX5_strikeUnlike_95 : decode cX5_strikeUnlike 95 = .ok (.getfield 138, 3) := by decide +kernel
theorem dX5_strikeUnlike_98 : decode cX5_strikeUnlike 98 = .ok (.iload_n 3, 1) := by decide +kernel
theorem dX5_strikeUnlike_99 : decode cX5_strikeUnlike 99 = .ok (.iaload, 1) := by decide +kernel
theorem dX5_strikeUnlike_100 : decode cX5_strikeUnlike 100 = .ok (.if_icmp .ne 7, 3) := by decide +kernel
theorem dX5_strikeUnlike_103 : decode cX5_strikeUnlike 103 = .ok (.iconst 1, 1) := by decide +kernel
theorem dX5_strikeUnlike_104 : decode cX5_strikeUnlike 104 = .ok (.goto 18, 3) := by decide +kernel
theorem dX5_strikeUnlike_107 : decode cX5_strikeUnlike 107 = .ok (.iconst 0, 1) := by decide +kernel
theorem dX5_strikeUnlike_108 : decode cX5_strikeUnlike 108 = .ok (.goto 14, 3) := by decide +kernel
theorem dX5_strikeUnlike_111 : decode cX5_strikeUnlike 111 = .ok (.iload 8, 2) := by decide +kernel
theorem dX5_strikeUnlike_113 : decode cX5_strikeUnlike 113 = .ok (.iload_n 2, 1) := by decide +kernel
theorem dX5_strikeUnlike_114 : decode cX5_strikeUnlike 114 = .ok (.if_icmp .lt 7, 3) := by decide +kernel
theorem dX5_strikeUnlike_117 : decode cX5_strikeUnlike 117 = .ok (.iconst 1, 1) := by decide +kernel
theorem dX5_strikeUnlike_118 : decode cX5_strikeUnlike 118 = .ok (.goto 4, 3) := by decide +kernel
theorem dX5_strikeUnlike_121 : decode cX5_strikeUnlike 121 = .ok (.iconst 0, 1) := by decide +kernel
theorem dX5_strikeUnlike_122 : decode cX5_strikeUnlike 122 = .ok (.istore 9, 2) := by decide +kernel
theorem dX5_strikeUnlike_124 : decode cX5_strikeUnlike 124 = .ok (.iload 9, 2) := by decide +kernel
theorem dX5_strikeUnlike_126 : decode cX5_strikeUnlike 126 = .ok (.ifCond .ne 9, 3) := by decide +kernel
theorem dX5_strikeUnlike_129 : decode cX5_strikeUnlike 129 = .ok (.aload 7, 2) := by decide +kernel
theorem dX5_strikeUnlike_131 : decode cX5_strikeUnlike 131 = .ok (.iconst 0, 1) := by decide +kernel
theorem dX5_strikeUnlike_132 : decode cX5_strikeUnlike 132 = .ok (.putfield 106, 3) := by decide +kernel
theorem dX5_strikeUnlike_135 : decode cX5_strikeUnlike 135 = .ok (.iinc 6 1, 3) := by decide +kernel
theorem dX5_strikeUnlike_138 : decode cX5_strikeUnlike 138 = .ok (.goto (-93), 3) := by decide +kernel
theorem dX5_strikeUnlike_141 : decode cX5_strikeUnlike 141 = .ok (.iinc 3 1, 3) := by decide +kernel
theorem dX5_strikeUnlike_144 : decode cX5_strikeUnlike 144 = .ok (.goto (-142), 3) := by decide +kernel
theorem dX5_strikeUnlike_147 : decode cX5_strikeUnlike 147 = .ok (.return_, 1) := by decide +kernel
theorem dX5_settle_0 : decode cX5_settle 0 = .ok (.iconst 0, 1) := by decide +kernel
theorem dX5_settle_1 : decode cX5_settle 1 = .ok (.istore_n 2, 1) := by decide +kernel
theorem dX5_settle_2 : decode cX5_settle 2 = .ok (.iload_n 2, 1) := by decide +kernel
theorem dX5_settle_3 : decode cX5_settle 3 = .ok (.aload_n 0, 1) := by decide +kernel
theorem dX5_settle_4 : decode cX5_settle 4 = .ok (.getfield 62, 3) := by decide +kernel
theorem dX5_settle_7 : decode cX5_settle 7 = .ok (.getfield 78, 3) := by decide +kernel
theorem dX5_settle_10 : decode cX5_settle 10 = .ok (.if_icmp .ge 22, 3) := by decide +kernel
theorem dX5_settle_13 : decode cX5_settle 13 = .ok (.iload_n 1, 1) := by decide +kernel
theorem dX5_settle_14 : decode cX5_settle 14 = .ok (.iload_n 2, 1) := by decide +kernel
theorem dX5_settle_15 : decode cX5_settle 15 = .ok (.ishr, 1) := by decide +kernel
theorem dX5_settle_16 : decode cX5_settle 16 = .ok (.iconst 1, 1) := by decide +kernel
theorem dX5_settle_17 : decode cX5_settle 17 = .ok (.iand, 1) := by decide +kernel
theorem dX5_settle_18 : decode cX5_settle 18 = .ok (.ifCond .eq 8, 3) := by decide +kernel
theorem dX5_settle_21 : decode cX5_settle 21 = .ok (.aload_n 0, 1) := by decide +kernel
theorem dX5_settle_22 : decode cX5_settle 22 = .ok (.iload_n 2, 1) := by decide +kernel
theorem dX5_settle_23 : decode cX5_settle 23 = .ok (.invokevirtual 139, 3) := by decide +kernel
theorem dX5_settle_26 : decode cX5_settle 26 = .ok (.iinc 2 1, 3) := by decide +kernel
theorem dX5_settle_29 : decode cX5_settle 29 = .ok (.goto (-27), 3) := by decide +kernel
theorem dX5_settle_32 : decode cX5_settle 32 = .ok (.return_, 1) := by decide +kernel
theorem dX5_settleDish_0 : decode cX5_settleDish 0 = .ok (.aload_n 0, 1) := by decide +kernel
theorem dX5_settleDish_1 : decode cX5_settleDish 1 = .ok (.getfield 26, 3) := by decide +kernel
theorem dX5_settleDish_4 : decode cX5_settleDish 4 = .ok (.iload_n 1, 1) := by decide +kernel
theorem dX5_settleDish_5 : decode cX5_settleDish 5 = .ok (.aaload, 1) := by decide +kernel
theorem dX5_settleDish_6 : decode cX5_settleDish 6 = .ok (.astore_n 2, 1) := by decide +kernel
theorem dX5_settleDish_7 : decode cX5_settleDish 7 = .ok (.aload_n 2, 1) := by decide +kernel
theorem dX5_settleDish_8 : decode cX5_settleDish 8 = .ok (.ldc2_w 143, 3) := by decide +kernel
theorem dX5_settleDish_11 : decode cX5_settleDish 11 = .ok (.invokestatic 145, 3) := by decide +kernel
theorem dX5_settleDish_14 : decode cX5_settleDish 14 = .ok (.aload_n 0, 1) := by decide +kernel
theorem dX5_settleDish_15 : decode cX5_settleDish 15 = .ok (.getfield 21, 3) := by decide +kernel
theorem dX5_settleDish_18 : decode cX5_settleDish 18 = .ok (.iload_n 1, 1) := by decide +kernel
theorem dX5_settleDish_19 : decode cX5_settleDish 19 = .ok (.ldc 151, 2) := by decide +kernel
theorem dX5_settleDish_21 : decode cX5_settleDish 21 = .ok (.iastore, 1) := by decide +kernel
