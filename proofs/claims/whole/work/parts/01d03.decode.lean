theorem dX5_settleDish_22 : decode cX5_settleDish 22 = .ok (.iload_n 1, 1) := by decide +kernel
theorem dX5_settleDish_23 : decode cX5_settleDish 23 = .ok (.bipush 12, 2) := by decide +kernel
theorem dX5_settleDish_25 : decode cX5_settleDish 25 = .ok (.imul, 1) := by decide +kernel
theorem dX5_settleDish_26 : decode cX5_settleDish 26 = .ok (.istore_n 3, 1) := by decide +kernel
theorem dX5_settleDish_27 : decode cX5_settleDish 27 = .ok (.iload_n 3, 1) := by decide +kernel
theorem dX5_settleDish_28 : decode cX5_settleDish 28 = .ok (.istore 4, 2) := by decide +kernel
theorem dX5_settleDish_30 : decode cX5_settleDish 30 = .ok (.iload 4, 2) := by decide +kernel
theorem dX5_settleDish_32 : decode cX5_settleDish 32 = .ok (.iload_n 3, 1) := by decide +kernel
theorem dX5_settleDish_33 : decode cX5_settleDish 33 = .ok (.aload_n 0, 1) := by decide +kernel
theorem dX5_settleDish_34 : decode cX5_settleDish 34 = .ok (.getfield 17, 3) := by decide +kernel
theorem dX5_settleDish_37 : decode cX5_settleDish 37 = .ok (.iload_n 1, 1) := by decide +kernel
theorem dX5_settleDish_38 : decode cX5_settleDish 38 = .ok (.iaload, 1) := by decide +kernel
theorem dX5_settleDish_39 : decode cX5_settleDish 39 = .ok (.iadd, 1) := by decide +kernel
theorem dX5_settleDish_40 : decode cX5_settleDish 40 = .ok (.if_icmp .ge 82, 3) := by decide +kernel
theorem dX5_settleDish_43 : decode cX5_settleDish 43 = .ok (.aload_n 0, 1) := by decide +kernel
theorem dX5_settleDish_44 : decode cX5_settleDish 44 = .ok (.getfield 11, 3) := by decide +kernel
theorem dX5_settleDish_47 : decode cX5_settleDish 47 = .ok (.iload 4, 2) := by decide +kernel
theorem dX5_settleDish_49 : decode cX5_settleDish 49 = .ok (.aaload, 1) := by decide +kernel
theorem dX5_settleDish_50 : decode cX5_settleDish 50 = .ok (.getfield 106, 3) := by decide +kernel
theorem dX5_settleDish_53 : decode cX5_settleDish 53 = .ok (.ifCond .eq 63, 3) := by decide +kernel
theorem dX5_settleDish_56 : decode cX5_settleDish 56 = .ok (.aload_n 0, 1) := by decide +kernel
theorem dX5_settleDish_57 : decode cX5_settleDish 57 = .ok (.getfield 21, 3) := by decide +kernel
theorem dX5_settleDish_60 : decode cX5_settleDish 60 = .ok (.iload_n 1, 1) := by decide +kernel
theorem dX5_settleDish_61 : decode cX5_settleDish 61 = .ok (.aload_n 0, 1) := by decide +kernel
theorem dX5_settleDish_62 : decode cX5_settleDish 62 = .ok (.getfield 21, 3) := by decide +kernel
theorem dX5_settleDish_65 : decode cX5_settleDish 65 = .ok (.iload_n 1, 1) := by decide +kernel
theorem dX5_settleDish_66 : decode cX5_settleDish 66 = .ok (.iaload, 1) := by decide +kernel
theorem dX5_settleDish_67 : decode cX5_settleDish 67 = .ok (.aload_n 0, 1) := by decide +kernel
theorem dX5_settleDish_68 : decode cX5_settleDish 68 = .ok (.getfield 11, 3) := by decide +kernel
theorem dX5_settleDish_71 : decode cX5_settleDish 71 = .ok (.iload 4, 2) := by decide +kernel
theorem dX5_settleDish_73 : decode cX5_settleDish 73 = .ok (.aaload, 1) := by decide +kernel
theorem dX5_settleDish_74 : decode cX5_settleDish 74 = .ok (.getfield 100, 3) := by decide +kernel
theorem dX5_settleDish_77 : decode cX5_settleDish 77 = .ok (.invokestatic 152, 3) := by decide +kernel
theorem dX5_settleDish_80 : decode cX5_settleDish 80 = .ok (.iastore, 1) := by decide +kernel
theorem dX5_settleDish_81 : decode cX5_settleDish 81 = .ok (.iconst 0, 1) := by decide +kernel
theorem dX5_settleDish_82 : decode cX5_settleDish 82 = .ok (.istore 5, 2) := by decide +kernel
theorem dX5_settleDish_84 : decode cX5_settleDish 84 = .ok (.iload 5, 2) := by decide +kernel
theorem dX5_settleDish_86 : decode cX5_settleDish 86 = .ok (.iconst 5, 1) := by decide +kernel
theorem dX5_settleDish_87 : decode cX5_settleDish 87 = .ok (.if_icmp .ge 29, 3) := by decide +kernel
theorem dX5_settleDish_90 : decode cX5_settleDish 90 = .ok (.aload_n 2, 1) := by decide +kernel
theorem dX5_settleDish_91 : decode cX5_settleDish 91 = .ok (.iload 5, 2) := by decide +kernel
theorem dX5_settleDish_93 : decode cX5_settleDish 93 = .ok (.dup2, 1) := by decide +kernel
theorem dX5_settleDish_94 : decode cX5_settleDish 94 = .ok (.laload, 1) := by decide +kernel
theorem dX5_settleDish_95 : decode cX5_settleDish 95 = .ok (.aload_n 0, 1) := by decide +kernel
theorem dX5_settleDish_96 : decode cX5_settleDish 96 = .ok (.getfield 11, 3) := by decide +kernel
theorem dX5_settleDish_99 : decode cX5_settleDish 99 = .ok (.iload 4, 2) := by decide +kernel
theorem dX5_settleDish_101 : decode cX5_settleDish 101 = .ok (.aaload, 1) := by decide +kernel
theorem dX5_settleDish_102 : decode cX5_settleDish 102 = .ok (.getfield 110, 3) := by decide +kernel
theorem dX5_settleDish_105 : decode cX5_settleDish 105 = .ok (.iload 5, 2) := by decide +kernel
theorem dX5_settleDish_107 : decode cX5_settleDish 107 = .ok (.laload, 1) := by decide +kernel
theorem dX5_settleDish_108 : decode cX5_settleDish 108 = .ok (.land, 1) := by decide +kernel
theorem dX5_settleDish_109 : decode cX5_settleDish 109 = .ok (.lastore, 1) := by decide +kernel
theorem dX5_settleDish_110 : decode cX5_settleDish 110 = .ok (.iinc 5 1, 3) := by decide +kernel
theorem dX5_settleDish_113 : decode cX5_settleDish 113 = .ok (.goto (-29), 3) := by decide +kernel
theorem dX5_settleDish_116 : decode cX5_settleDish 116 = .ok (.iinc 4 1, 3) := by decide +kernel
theorem dX5_settleDish_119 : decode cX5_settleDish 119 = .ok (.goto (-89), 3) := by decide +kernel
theorem dX5_settleDish_122 : decode cX5_settleDish 122 = .ok (.iload_n 3, 1) := by decide +kernel
theorem dX5_settleDish_123 : decode cX5_settleDish 123 = .ok (.istore 4, 2) := by decide +kernel
theorem dX5_settleDish_125 : decode cX5_settleDish 125 = .ok (.iload 4, 2) := by decide +kernel
theorem dX5_settleDish_127 : decode cX5_settleDish 127 = .ok (.iload_n 3, 1) := by decide +kernel
theorem dX5_settleDish_128 : decode cX5_settleDish 128 = .ok (.aload_n 0, 1) := by decide +kernel
theorem dX5_settleDish_129 : decode cX5_settleDish 129 = .ok (.getfield 17, 3) := by decide +kernel
theorem dX5_settleDish_132 : decode cX5_settleDish 132 = .ok (.iload_n 1, 1) := by decide +kernel
theorem dX5_settleDish_133 : decode cX5_settleDish 133 = .ok (.iaload, 1) := by decide +kernel
theorem dX5_settleDish_134 : decode cX5_settleDish 134 = .ok (.iadd, 1) := by decide +kernel
theorem dX5_settleDish_135 : decode cX5_settleDish 135 = .ok (.if_icmp .ge 61, 3) := by decide +kernel
theorem dX5_settleDish_138 : decode cX5_settleDish 138 = .ok (.aload_n 0, 1) := by decide +kernel
theorem dX5_settleDish_139 : decode cX5_settleDish 139 = .ok (.getfield 11, 3) := by decide +kernel
theorem dX5_settleDish_142 : decode cX5_settleDish 142 = .ok (.iload 4, 2) := by decide +kernel
theorem dX5_settleDish_144 : decode cX5_settleDish 144 = .ok (.aaload, 1) := by decide +kernel
theorem dX5_settleDish_145 : decode cX5_settleDish 145 = .ok (.getfield 106, 3) := by decide +kernel
theorem dX5_settleDish_148 : decode cX5_settleDish 148 = .ok (.ifCond .eq 42, 3) := by decide +kernel
theorem dX5_settleDish_151 : decode cX5_settleDish 151 = .ok (.iconst 0, 1) := by decide +kernel
theorem dX5_settleDish_152 : decode cX5_settleDish 152 = .ok (.istore 5, 2) := by decide +kernel
theorem dX5_settleDish_154 : decode cX5_settleDish 154 = .ok (.iload 5, 2) := by decide +kernel
theorem dX5_settleDish_156 : decode cX5_settleDish 156 = .ok (.iconst 5, 1) := by decide +kernel
theorem dX5_settleDish_157 : decode cX5_settleDish 157 = .ok (.if_icmp .ge 33, 3) := by decide +kernel
theorem dX5_settleDish_160 : decode cX5_settleDish 160 = .ok (.aload_n 0, 1) := by decide +kernel
theorem dX5_settleDish_161 : decode cX5_settleDish 161 = .ok (.getfield 11, 3) := by decide +kernel
theorem dX5_settleDish_164 : decode cX5_settleDish 164 = .ok (.iload 4, 2) := by decide +kernel
theorem dX5_settleDish_166 : decode cX5_settleDish 166 = .ok (.aaload, 1) := by decide +kernel
theorem dX5_settleDish_167 : decode cX5_settleDish 167 = .ok (.getfield 110, 3) := by decide +kernel
theorem dX5_settleDish_170 : decode cX5_settleDish 170 = .ok (.iload 5, 2) := by decide +kernel
theorem dX5_settleDish_172 : decode cX5_settleDish 172 = .ok (.dup2, 1) := by decide +kernel
theorem dX5_settleDish_173 : decode cX5_settleDish 173 = .ok (.laload, 1) := by decide +kernel
theorem dX5_settleDish_174 : decode cX5_settleDish 174 = .ok (.aload_n 2, 1) := by decide +kernel
theorem dX5_settleDish_175 : decode cX5_settleDish 175 = .ok (.iload 5, 2) := by decide +kernel
theorem dX5_settleDish_177 : decode cX5_settleDish 177 = .ok (.laload, 1) := by decide +kernel
theorem dX5_settleDish_178 : decode cX5_settleDish 178 = .ok (.ldc2_w 143, 3) := by decide +kernel
theorem dX5_settleDish_181 : decode cX5_settleDish 181 = .ok (.lxor, 1) := by decide +kernel
theorem dX5_settleDish_182 : decode cX5_settleDish 182 = .ok (.land, 1) := by decide +kernel
theorem dX5_settleDish_183 : decode cX5_settleDish 183 = .ok (.lastore, 1) := by decide +kernel
theorem dX5_settleDish_184 : decode cX5_settleDish 184 = .ok (.iinc 5 1, 3) := by decide +kernel
theorem dX5_settleDish_187 : decode cX5_settleDish 187 = .ok (.goto (-33), 3) := by decide +kernel
theorem dX5_settleDish_190 : decode cX5_settleDish 190 = .ok (.iinc 4 1, 3) := by decide +kernel
theorem dX5_settleDish_193 : decode cX5_settleDish 193 = .ok (.goto (-68), 3) := by decide +kernel
theorem dX5_settleDish_196 : decode cX5_settleDish 196 = .ok (.iload_n 3, 1) := by decide +kernel
theorem dX5_settleDish_197 : decode cX5_settleDish 197 = .ok (.bipush 8, 2) := by decide +kernel
theorem dX5_settleDish_199 : decode cX5_settleDish 199 = .ok (.imul, 1) := by decide +kernel
theorem dX5_settleDish_200 : decode cX5_settleDish 200 = .ok (.istore 4, 2) := by decide +kernel
theorem dX5_settleDish_202 : decode cX5_settleDish 202 = .ok (.iload 4, 2) := by decide +kernel
theorem dX5_settleDish_204 : decode cX5_settleDish 204 = .ok (.iload_n 3, 1) := by decide +kernel
theorem dX5_settleDish_205 : decode cX5_settleDish 205 = .ok (.bipush 12, 2) := by decide +kernel
theorem dX5_settleDish_207 : decode cX5_settleDish 207 = .ok (.iadd, 1) := by decide +kernel
theorem dX5_settleDish_208 : decode cX5_settleDish 208 = .ok (.bipush 8, 2) := by decide +kernel
theorem dX5_settleDish_210 : decode cX5_settleDish 210 = .ok (.imul, 1) := by decide +kernel
theorem dX5_settleDish_211 : decode cX5_settleDish 211 = .ok (.if_icmp .ge 17, 3) := by decide +kernel
theorem dX5_settleDish_214 : decode cX5_settleDish 214 = .ok (.aload_n 0, 1) := by decide +kernel
theorem dX5_settleDish_215 : decode cX5_settleDish 215 = .ok (.getfield 47, 3) := by decide +kernel
theorem dX5_settleDish_218 : decode cX5_settleDish 218 = .ok (.iload 4, 2) := by decide +kernel
theorem dX5_settleDish_220 : decode cX5_settleDish 220 = .ok (.iconst (-1), 1) := by decide +kernel
theorem dX5_settleDish_221 : decode cX5_settleDish 221 = .ok (.iastore, 1) := by decide +kernel
theorem dX5_settleDish_222 : decode cX5_settleDish 222 = .ok (.iinc 4 1, 3) := by decide +kernel
theorem dX5_settleDish_225 : decode cX5_settleDish 225 = .ok (.goto (-23), 3) := by decide +kernel
theorem dX5_settleDish_228 : decode cX5_settleDish 228 = .ok (.return_, 1) := by decide +kernel
theorem dX5_finds_0 : decode cX5_finds 0 = .ok (.aload_n 0, 1) := by decide +kernel
theorem dX5_finds_1 : decode cX5_finds 1 = .ok (.iload_n 2, 1) := by decide +kernel
theorem dX5_finds_2 : decode cX5_finds 2 = .ok (.putfield 157, 3) := by decide +kernel
theorem dX5_finds_5 : decode cX5_finds 5 = .ok (.aload_n 0, 1) := by decide +kernel
theorem dX5_finds_6 : decode cX5_finds 6 = .ok (.ldc 151, 2) := by decide +kernel
theorem dX5_finds_8 : decode cX5_finds 8 = .ok (.putfield 160, 3) := by decide +kernel
theorem dX5_finds_11 : decode cX5_finds 11 = .ok (.aload_n 0, 1) := by decide +kernel
theorem dX5_finds_12 : decode cX5_finds 12 = .ok (.ldc 163, 2) := by decide +kernel
theorem dX5_finds_14 : decode cX5_finds 14 = .ok (.putfield 164, 3) := by decide +kernel
theorem dX5_finds_17 : decode cX5_finds 17 = .ok (.aload_n 0, 1) := by decide +kernel
theorem dX5_finds_18 : decode cX5_finds 18 = .ok (.iload_n 1, 1) := by decide +kernel
theorem dX5_finds_19 : decode cX5_finds 19 = .ok (.invokevirtual 165, 3) := by decide +kernel
theorem dX5_finds_22 : decode cX5_finds 22 = .ok (.ifCond .eq 9, 3) := by decide +kernel
theorem dX5_finds_25 : decode cX5_finds 25 = .ok (.aload_n 0, 1) := by decide +kernel
theorem dX5_finds_26 : decode cX5_finds 26 = .ok (.iconst 0, 1) := by decide +kernel
theorem dX5_finds_27 : decode cX5_finds 27 = .ok (.iconst 0, 1) := by decide +kernel
theorem dX5_finds_28 : decode cX5_finds 28 = .ok (.invokevirtual 169, 3) := by decide +kernel
theorem dX5_finds_31 : decode cX5_finds 31 = .ok (.aload_n 0, 1) := by decide +kernel
theorem dX5_finds_32 : decode cX5_finds 32 = .ok (.getfield 164, 3) := by decide +kernel
theorem dX5_finds_35 : decode cX5_finds 35 = .ok (.ldc 163, 2) := by decide +kernel
theorem dX5_finds_37 : decode cX5_finds 37 = .ok (.if_icmp .eq 7, 3) := by decide +kernel
theorem dX5_finds_40 : decode cX5_finds 40 = .ok (.iconst 1, 1) := by decide +kernel
theorem dX5_finds_41 : decode cX5_finds 41 = .ok (.goto 4, 3) := by decide +kernel
theorem dX5_finds_44 : decode cX5_finds 44 = .ok (.iconst 0, 1) := by decide +kernel
theorem dX5_finds_45 : decode cX5_finds 45 = .ok (.ireturn, 1) := by decide +kernel
theorem dX5_seatAll_0 : decode cX5_seatAll 0 = .ok (.aload_n 0, 1) := by decide +kernel
theorem dX5_seatAll_1 : decode cX5_seatAll 1 = .ok (.iconst 0, 1) := by decide +kernel
theorem dX5_seatAll_2 : decode cX5_seatAll 2 = .ok (.putfield 172, 3) := by decide +kernel
theorem dX5_seatAll_5 : decode cX5_seatAll 5 = .ok (.iconst 0, 1) := by decide +kernel
theorem dX5_seatAll_6 : decode cX5_seatAll 6 = .ok (.istore_n 2, 1) := by decide +kernel
theorem dX5_seatAll_7 : decode cX5_seatAll 7 = .ok (.iload_n 2, 1) := by decide +kernel
theorem dX5_seatAll_8 : decode cX5_seatAll 8 = .ok (.aload_n 0, 1) := by decide +kernel
theorem dX5_seatAll_9 : decode cX5_seatAll 9 = .ok (.getfield 62, 3) := by decide +kernel
theorem dX5_seatAll_12 : decode cX5_seatAll 12 = .ok (.getfield 78, 3) := by decide +kernel
theorem dX5_seatAll_15 : decode cX5_seatAll 15 = .ok (.if_icmp .ge 74, 3) := by decide +kernel
theorem dX5_seatAll_18 : decode cX5_seatAll 18 = .ok (.aload_n 0, 1) := by decide +kernel
theorem dX5_seatAll_19 : decode cX5_seatAll 19 = .ok (.getfield 172, 3) := by decide +kernel
theorem dX5_seatAll_22 : decode cX5_seatAll 22 = .ok (.iconst 4, 1) := by decide +kernel
theorem dX5_seatAll_23 : decode cX5_seatAll 23 = .ok (.if_icmp .ge 66, 3) := by decide +kernel
theorem dX5_seatAll_26 : decode cX5_seatAll 26 = .ok (.iload_n 1, 1) := by decide +kernel
theorem dX5_seatAll_27 : decode cX5_seatAll 27 = .ok (.iload_n 2, 1) := by decide +kernel
theorem dX5_seatAll_28 : decode cX5_seatAll 28 = .ok (.ishr, 1) := by decide +kernel
theorem dX5_seatAll_29 : decode cX5_seatAll 29 = .ok (.iconst 1, 1) := by decide +kernel
theorem dX5_seatAll_30 : decode cX5_seatAll 30 = .ok (.iand, 1) := by decide +kernel
theorem dX5_seatAll_31 : decode cX5_seatAll 31 = .ok (.ifCond .eq 52, 3) := by decide +kernel
theorem dX5_seatAll_34 : decode cX5_seatAll 34 = .ok (.aload_n 0, 1) := by decide +kernel
theorem dX5_seatAll_35 : decode cX5_seatAll 35 = .ok (.getfield 21, 3) := by decide +kernel
theorem dX5_seatAll_38 : decode cX5_seatAll 38 = .ok (.iload_n 2, 1) := by decide +kernel
theorem dX5_seatAll_39 : decode cX5_seatAll 39 = .ok (.iaload, 1) := by decide +kernel
theorem dX5_seatAll_40 : decode cX5_seatAll 40 = .ok (.ldc 151, 2) := by decide +kernel
theorem dX5_seatAll_42 : decode cX5_seatAll 42 = .ok (.if_icmp .ne 5, 3) := by decide +kernel
theorem dX5_seatAll_45 : decode cX5_seatAll 45 = .ok (.iconst 0, 1) := by decide +kernel
theorem dX5_seatAll_46 : decode cX5_seatAll 46 = .ok (.ireturn, 1) := by decide +kernel
theorem dX5_seatAll_47 : decode cX5_seatAll 47 = .ok (.aload_n 0, 1) := by decide +kernel
theorem dX5_seatAll_48 : decode cX5_seatAll 48 = .ok (.getfield 35, 3) := by decide +kernel
theorem dX5_seatAll_51 : decode cX5_seatAll 51 = .ok (.aload_n 0, 1) := by decide +kernel
theorem dX5_seatAll_52 : decode cX5_seatAll 52 = .ok (.getfield 172, 3) := by decide +kernel
theorem dX5_seatAll_55 : decode cX5_seatAll 55 = .ok (.iload_n 2, 1) := by decide +kernel
theorem dX5_seatAll_56 : decode cX5_seatAll 56 = .ok (.iastore, 1) := by decide +kernel
theorem dX5_seatAll_57 : decode cX5_seatAll 57 = .ok (.aload_n 0, 1) := by decide +kernel
theorem dX5_seatAll_58 : decode cX5_seatAll 58 = .ok (.getfield 52, 3) := by decide +kernel
theorem dX5_seatAll_61 : decode cX5_seatAll 61 = .ok (.iconst 0, 1) := by decide +kernel
theorem dX5_seatAll_62 : decode cX5_seatAll 62 = .ok (.aaload, 1) := by decide +kernel
theorem dX5_seatAll_63 : decode cX5_seatAll 63 = .ok (.aload_n 0, 1) := by decide +kernel
theorem dX5_seatAll_64 : decode cX5_seatAll 64 = .ok (.getfield 172, 3) := by decide +kernel
theorem dX5_seatAll_67 : decode cX5_seatAll 67 = .ok (.aload_n 0, 1) := by decide +kernel
theorem dX5_seatAll_68 : decode cX5_seatAll 68 = .ok (.iload_n 2, 1) := by decide +kernel
theorem dX5_seatAll_69 : decode cX5_seatAll 69 = .ok (.invokevirtual 175, 3) := by decide +kernel
theorem dX5_seatAll_72 : decode cX5_seatAll 72 = .ok (.iastore, 1) := by decide +kernel
theorem dX5_seatAll_73 : decode cX5_seatAll 73 = .ok (.aload_n 0, 1) := by decide +kernel
theorem dX5_seatAll_74 : decode cX5_seatAll 74 = .ok (.dup, 1) := by decide +kernel
theorem dX5_seatAll_75 : decode cX5_seatAll 75 = .ok (.getfield 172, 3) := by decide +kernel
theorem dX5_seatAll_78 : decode cX5_seatAll 78 = .ok (.iconst 1, 1) := by decide +kernel
theorem dX5_seatAll_79 : decode cX5_seatAll 79 = .ok (.iadd, 1) := by decide +kernel
theorem dX5_seatAll_80 : decode cX5_seatAll 80 = .ok (.putfield 172, 3) := by decide +kernel
theorem dX5_seatAll_83 : decode cX5_seatAll 83 = .ok (.iinc 2 1, 3) := by decide +kernel
theorem dX5_seatAll_86 : decode cX5_seatAll 86 = .ok (.goto (-79), 3) := by decide +kernel
theorem dX5_seatAll_89 : decode cX5_seatAll 89 = .ok (.aload_n 0, 1) := by decide +kernel
theorem dX5_seatAll_90 : decode cX5_seatAll 90 = .ok (.getfield 44, 3) := by decide +kernel
theorem dX5_seatAll_93 : decode cX5_seatAll 93 = .ok (.aload_n 0, 1) := by decide +kernel
theorem dX5_seatAll_94 : decode cX5_seatAll 94 = .ok (.getfield 172, 3) := by decide +kernel
theorem dX5_seatAll_97 : decode cX5_seatAll 97 = .ok (.iconst 0, 1) := by decide +kernel
theorem dX5_seatAll_98 : decode cX5_seatAll 98 = .ok (.iastore, 1) := by decide +kernel
theorem dX5_seatAll_99 : decode cX5_seatAll 99 = .ok (.aload_n 0, 1) := by decide +kernel
theorem dX5_seatAll_100 : decode cX5_seatAll 100 = .ok (.getfield 31, 3) := by decide +kernel
theorem dX5_seatAll_103 : decode cX5_seatAll 103 = .ok (.iconst 0, 1) := by decide +kernel
theorem dX5_seatAll_104 : decode cX5_seatAll 104 = .ok (.aaload, 1) := by decide +kernel
theorem dX5_seatAll_105 : decode cX5_seatAll 105 = .ok (.aload_n 0, 1) := by decide +kernel
theorem dX5_seatAll_106 : decode cX5_seatAll 106 = .ok (.getfield 69, 3) := by decide +kernel
theorem dX5_seatAll_109 : decode cX5_seatAll 109 = .ok (.invokevirtual 75, 3) := by decide +kernel
theorem dX5_seatAll_112 : decode cX5_seatAll 112 = .ok (.aload_n 0, 1) := by decide +kernel
theorem dX5_seatAll_113 : decode cX5_seatAll 113 = .ok (.getfield 172, 3) := by decide +kernel
theorem dX5_seatAll_116 : decode cX5_seatAll 116 = .ok (.iconst 1, 1) := by decide +kernel
theorem dX5_seatAll_117 : decode cX5_seatAll 117 = .ok (.isub, 1) := by decide +kernel
theorem dX5_seatAll_118 : decode cX5_seatAll 118 = .ok (.istore_n 2, 1) := by decide +kernel
theorem dX5_seatAll_119 : decode cX5_seatAll 119 = .ok (.iload_n 2, 1) := by decide +kernel
theorem dX5_seatAll_120 : decode cX5_seatAll 120 = .ok (.ifCond .lt 82, 3) := by decide +kernel
theorem dX5_seatAll_123 : decode cX5_seatAll 123 = .ok (.aload_n 0, 1) := by decide +kernel
theorem dX5_seatAll_124 : decode cX5_seatAll 124 = .ok (.getfield 26, 3) := by decide +kernel
theorem dX5_seatAll_127 : decode cX5_seatAll 127 = .ok (.aload_n 0, 1) := by decide +kernel
theorem dX5_seatAll_128 : decode cX5_seatAll 128 = .ok (.getfield 35, 3) := by decide +kernel
theorem dX5_seatAll_131 : decode cX5_seatAll 131 = .ok (.iload_n 2, 1) := by decide +kernel
theorem dX5_seatAll_132 : decode cX5_seatAll 132 = .ok (.iaload, 1) := by decide +kernel
theorem dX5_seatAll_133 : decode cX5_seatAll 133 = .ok (.aaload, 1) := by decide +kernel
theorem dX5_seatAll_134 : decode cX5_seatAll 134 = .ok (.astore_n 3, 1) := by decide +kernel
theorem dX5_seatAll_135 : decode cX5_seatAll 135 = .ok (.aload_n 0, 1) := by decide +kernel
theorem dX5_seatAll_136 : decode cX5_seatAll 136 = .ok (.getfield 31, 3) := by decide +kernel
theorem dX5_seatAll_139 : decode cX5_seatAll 139 = .ok (.iconst 0, 1) := by decide +kernel
theorem dX5_seatAll_140 : decode cX5_seatAll 140 = .ok (.aaload, 1) := by decide +kernel
theorem dX5_seatAll_141 : decode cX5_seatAll 141 = .ok (.aload_n 3, 1) := by decide +kernel
theorem dX5_seatAll_142 : decode cX5_seatAll 142 = .ok (.invokevirtual 114, 3) := by decide +kernel
theorem dX5_seatAll_145 : decode cX5_seatAll 145 = .ok (.ifCond .ne 5, 3) := by decide +kernel
theorem dX5_seatAll_148 : decode cX5_seatAll 148 = .ok (.iconst 0, 1) := by decide +kernel
theorem dX5_seatAll_149 : decode cX5_seatAll 149 = .ok (.ireturn, 1) := by decide +kernel
theorem dX5_seatAll_150 : decode cX5_seatAll 150 = .ok (.aload_n 0, 1) := by decide +kernel
theorem dX5_seatAll_151 : decode cX5_seatAll 151 = .ok (.getfield 31, 3) := by decide +kernel
theorem dX5_seatAll_154 : decode cX5_seatAll 154 = .ok (.iconst 0, 1) := by decide +kernel
theorem dX5_seatAll_155 : decode cX5_seatAll 155 = .ok (.aaload, 1) := by decide +kernel
theorem dX5_seatAll_156 : decode cX5_seatAll 156 = .ok (.aload_n 0, 1) := by decide +kernel
theorem dX5_seatAll_157 : decode cX5_seatAll 157 = .ok (.getfield 31, 3) := by decide +kernel
theorem dX5_seatAll_160 : decode cX5_seatAll 160 = .ok (.iconst 0, 1) := by decide +kernel
theorem dX5_seatAll_161 : decode cX5_seatAll 161 = .ok (.aaload, 1) := by decide +kernel
theorem dX5_seatAll_162 : decode cX5_seatAll 162 = .ok (.aload_n 3, 1) := by decide +kernel
theorem dX5_seatAll_163 : decode cX5_seatAll 163 = .ok (.aload_n 0, 1) := by decide +kernel
theorem dX5_seatAll_164 : decode cX5_seatAll 164 = .ok (.getfield 69, 3) := by decide +kernel
theorem dX5_seatAll_167 : decode cX5_seatAll 167 = .ok (.invokevirtual 179, 3) := by decide +kernel
theorem dX5_seatAll_170 : decode cX5_seatAll 170 = .ok (.aload_n 0, 1) := by decide +kernel
theorem dX5_seatAll_171 : decode cX5_seatAll 171 = .ok (.getfield 44, 3) := by decide +kernel
theorem dX5_seatAll_174 : decode cX5_seatAll 174 = .ok (.iload_n 2, 1) := by decide +kernel
theorem dX5_seatAll_175 : decode cX5_seatAll 175 = .ok (.aload_n 0, 1) := by decide +kernel
theorem dX5_seatAll_176 : decode cX5_seatAll 176 = .ok (.getfield 44, 3) := by decide +kernel
theorem dX5_seatAll_179 : decode cX5_seatAll 179 = .ok (.iload_n 2, 1) := by decide +kernel
theorem dX5_seatAll_180 : decode cX5_seatAll 180 = .ok (.iconst 1, 1) := by decide +kernel
theorem dX5_seatAll_181 : decode cX5_seatAll 181 = .ok (.iadd, 1) := by decide +kernel
theorem dX5_seatAll_182 : decode cX5_seatAll 182 = .ok (.iaload, 1) := by decide +kernel
theorem dX5_seatAll_183 : decode cX5_seatAll 183 = .ok (.aload_n 0, 1) := by decide +kernel
theorem dX5_seatAll_184 : decode cX5_seatAll 184 = .ok (.getfield 21, 3) := by decide +kernel
theorem dX5_seatAll_187 : decode cX5_seatAll 187 = .ok (.aload_n 0, 1) := by decide +kernel
theorem dX5_seatAll_188 : decode cX5_seatAll 188 = .ok (.getfield 35, 3) := by decide +kernel
theorem dX5_seatAll_191 : decode cX5_seatAll 191 = .ok (.iload_n 2, 1) := by decide +kernel
theorem dX5_seatAll_192 : decode cX5_seatAll 192 = .ok (.iaload, 1) := by decide +kernel
theorem dX5_seatAll_193 : decode cX5_seatAll 193 = .ok (.iaload, 1) := by decide +kernel
theorem dX5_seatAll_194 : decode cX5_seatAll 194 = .ok (.iadd, 1) := by decide +kernel
theorem dX5_seatAll_195 : decode cX5_seatAll 195 = .ok (.iastore, 1) := by decide +kernel
theorem dX5_seatAll_196 : decode cX5_seatAll 196 = .ok (.iinc 2 (-1), 3) := by decide +kernel
theorem dX5_seatAll_199 : decode cX5_seatAll 199 = .ok (.goto (-80), 3) := by decide +kernel
theorem dX5_seatAll_202 : decode cX5_seatAll 202 = .ok (.iconst 1, 1) := by decide +kernel
theorem dX5_seatAll_203 : decode cX5_seatAll 203 = .ok (.ireturn, 1) := by decide +kernel
theorem dX5_choicesThatCan_0 : decode cX5_choicesThatCan 0 = .ok (.iconst 0, 1) := by decide +kernel
theorem dX5_choicesThatCan_1 : decode cX5_choicesThatCan 1 = .ok (.istore_n 2, 1) := by decide +kernel
theorem dX5_choicesThatCan_2 : decode cX5_choicesThatCan 2 = .ok (.iconst 0, 1) := by decide +kernel
theorem dX5_choicesThatCan_3 : decode cX5_choicesThatCan 3 = .ok (.istore_n 3, 1) := by decide +kernel
theorem dX5_choicesThatCan_4 : decode cX5_choicesThatCan 4 = .ok (.iload_n 3, 1) := by decide +kernel
theorem dX5_choicesThatCan_5 : decode cX5_choicesThatCan 5 = .ok (.aload_n 0, 1) := by decide +kernel
theorem dX5_choicesThatCan_6 : decode cX5_choicesThatCan 6 = .ok (.getfield 17, 3) := by decide +kernel
theorem dX5_choicesThatCan_9 : decode cX5_choicesThatCan 9 = .ok (.iload_n 1, 1) := by decide +kernel
theorem dX5_choicesThatCan_10 : decode cX5_choicesThatCan 10 = .ok (.iaload, 1) := by decide +kernel
theorem dX5_choicesThatCan_11 : decode cX5_choicesThatCan 11 = .ok (.if_icmp .ge 32, 3) := by decide +kernel
theorem dX5_choicesThatCan_14 : decode cX5_choicesThatCan 14 = .ok (.aload_n 0, 1) := by decide +kernel
theorem dX5_choicesThatCan_15 : decode cX5_choicesThatCan 15 = .ok (.getfield 11, 3) := by decide +kernel
theorem dX5_choicesThatCan_18 : decode cX5_choicesThatCan 18 = .ok (.iload_n 1, 1) := by decide +kernel
theorem dX5_choicesThatCan_19 : decode cX5_choicesThatCan 19 = .ok (.bipush 12, 2) := by decide +kernel
theorem dX5_choicesThatCan_21 : decode cX5_choicesThatCan 21 = .ok (.imul, 1) := by decide +kernel
theorem dX5_choicesThatCan_22 : decode cX5_choicesThatCan 22 = .ok (.iload_n 3, 1) := by decide +kernel
theorem dX5_choicesThatCan_23 : decode cX5_choicesThatCan 23 = .ok (.iadd, 1) := by decide +kernel
theorem dX5_choicesThatCan_24 : decode cX5_choicesThatCan 24 = .ok (.aaload, 1) := by decide +kernel
theorem dX5_choicesThatCan_25 : decode cX5_choicesThatCan 25 = .ok (.getfield 106, 3) := by decide +kernel
theorem dX5_choicesThatCan_28 : decode cX5_choicesThatCan 28 = .ok (.ifCond .eq 9, 3) := by decide +kernel
theorem dX5_choicesThatCan_31 : decode cX5_choicesThatCan 31 = .ok (.iload_n 2, 1) := by decide +kernel
theorem dX5_choicesThatCan_32 : decode cX5_choicesThatCan 32 = .ok (.iconst 1, 1) := by decide +kernel
theorem dX5_choicesThatCan_33 : decode cX5_choicesThatCan 33 = .ok (.iload_n 3, 1) := by decide +kernel
theorem dX5_choicesThatCan_34 : decode cX5_choicesThatCan 34 = .ok (.ishl, 1) := by decide +kernel
theorem dX5_choicesThatCan_35 : decode cX5_choicesThatCan 35 = .ok (.ior, 1) := by decide +kernel
theorem dX5_choicesThatCan_36 : decode cX5_choicesThatCan 36 = .ok (.istore_n 2, 1) := by decide +kernel
theorem dX5_choicesThatCan_37 : decode cX5_choicesThatCan 37 = .ok (.iinc 3 1, 3) := by decide +kernel
theorem dX5_choicesThatCan_40 : decode cX5_choicesThatCan 40 = .ok (.goto (-36), 3) := by decide +kernel
theorem dX5_choicesThatCan_43 : decode cX5_choicesThatCan 43 = .ok (.iload_n 2, 1) := by decide +kernel
theorem dX5_choicesThatCan_44 : decode cX5_choicesThatCan 44 = .ok (.ireturn, 1) := by decide +kernel
theorem dX5_seek_0 : decode cX5_seek 0 = .ok (.iload_n 1, 1) := by decide +kernel
theorem dX5_seek_1 : decode cX5_seek 1 = .ok (.aload_n 0, 1) := by decide +kernel
theorem dX5_seek_2 : decode cX5_seek 2 = .ok (.getfield 172, 3) := by decide +kernel
theorem dX5_seek_5 : decode cX5_seek 5 = .ok (.if_icmp .lt 9, 3) := by decide +kernel
theorem dX5_seek_8 : decode cX5_seek 8 = .ok (.aload_n 0, 1) := by decide +kernel
theorem dX5_seek_9 : decode cX5_seek 9 = .ok (.iload_n 2, 1) := by decide +kernel
theorem dX5_seek_10 : decode cX5_seek 10 = .ok (.invokevirtual 183, 3) := by decide +kernel
theorem dX5_seek_13 : decode cX5_seek 13 = .ok (.return_, 1) := by decide +kernel
theorem dX5_seek_14 : decode cX5_seek 14 = .ok (.aload_n 0, 1) := by decide +kernel
theorem dX5_seek_15 : decode cX5_seek 15 = .ok (.getfield 35, 3) := by decide +kernel
theorem dX5_seek_18 : decode cX5_seek 18 = .ok (.iload_n 1, 1) := by decide +kernel
theorem dX5_seek_19 : decode cX5_seek 19 = .ok (.iaload, 1) := by decide +kernel
theorem dX5_seek_20 : decode cX5_seek 20 = .ok (.bipush 12, 2) := by decide +kernel
theorem dX5_seek_22 : decode cX5_seek 22 = .ok (.imul, 1) := by decide +kernel
theorem dX5_seek_23 : decode cX5_seek 23 = .ok (.istore_n 3, 1) := by decide +kernel
theorem dX5_seek_24 : decode cX5_seek 24 = .ok (.iconst 0, 1) := by decide +kernel
theorem dX5_seek_25 : decode cX5_seek 25 = .ok (.istore 4, 2) := by decide +kernel
theorem dX5_seek_27 : decode cX5_seek 27 = .ok (.iload 4, 2) := by decide +kernel
theorem dX5_seek_29 : decode cX5_seek 29 = .ok (.aload_n 0, 1) := by decide +kernel
theorem dX5_seek_30 : decode cX5_seek 30 = .ok (.getfield 17, 3) := by decide +kernel
theorem dX5_seek_33 : decode cX5_seek 33 = .ok (.aload_n 0, 1) := by decide +kernel
theorem dX5_seek_34 : decode cX5_seek 34 = .ok (.getfield 35, 3) := by decide +kernel
theorem dX5_seek_37 : decode cX5_seek 37 = .ok (.iload_n 1, 1) := by decide +kernel
theorem dX5_seek_38 : decode cX5_seek 38 = .ok (.iaload, 1) := by decide +kernel
theorem dX5_seek_39 : decode cX5_seek 39 = .ok (.iaload, 1) := by decide +kernel
theorem dX5_seek_40 : decode cX5_seek 40 = .ok (.if_icmp .ge 151, 3) := by decide +kernel
theorem dX5_seek_43 : decode cX5_seek 43 = .ok (.aload_n 0, 1) := by decide +kernel
theorem dX5_seek_44 : decode cX5_seek 44 = .ok (.getfield 52, 3) := by decide +kernel
theorem dX5_seek_47 : decode cX5_seek 47 = .ok (.iload_n 1, 1) := by decide +kernel
theorem dX5_seek_48 : decode cX5_seek 48 = .ok (.aaload, 1) := by decide +kernel
theorem dX5_seek_49 : decode cX5_seek 49 = .ok (.iload_n 1, 1) := by decide +kernel
theorem dX5_seek_50 : decode cX5_seek 50 = .ok (.iaload, 1) := by decide +kernel
theorem dX5_seek_51 : decode cX5_seek 51 = .ok (.iload 4, 2) := by decide +kernel
theorem dX5_seek_53 : decode cX5_seek 53 = .ok (.ishr, 1) := by decide +kernel
theorem dX5_seek_54 : decode cX5_seek 54 = .ok (.iconst 1, 1) := by decide +kernel
theorem dX5_seek_55 : decode cX5_seek 55 = .ok (.iand, 1) := by decide +kernel
theorem dX5_seek_56 : decode cX5_seek 56 = .ok (.ifCond .ne 6, 3) := by decide +kernel
theorem dX5_seek_59 : decode cX5_seek 59 = .ok (.goto 126, 3) := by decide +kernel
theorem dX5_seek_62 : decode cX5_seek 62 = .ok (.aload_n 0, 1) := by decide +kernel
theorem dX5_seek_63 : decode cX5_seek 63 = .ok (.getfield 11, 3) := by decide +kernel
theorem dX5_seek_66 : decode cX5_seek 66 = .ok (.iload_n 3, 1) := by decide +kernel
theorem dX5_seek_67 : decode cX5_seek 67 = .ok (.iload 4, 2) := by decide +kernel
theorem dX5_seek_69 : decode cX5_seek 69 = .ok (.iadd, 1) := by decide +kernel
theorem dX5_seek_70 : decode cX5_seek 70 = .ok (.aaload, 1) := by decide +kernel
theorem dX5_seek_71 : decode cX5_seek 71 = .ok (.astore 5, 2) := by decide +kernel
theorem dX5_seek_73 : decode cX5_seek 73 = .ok (.iload_n 2, 1) := by decide +kernel
theorem dX5_seek_74 : decode cX5_seek 74 = .ok (.aload 5, 2) := by decide +kernel
theorem dX5_seek_76 : decode cX5_seek 76 = .ok (.getfield 100, 3) := by decide +kernel
theorem dX5_seek_79 : decode cX5_seek 79 = .ok (.iadd, 1) := by decide +kernel
theorem dX5_seek_80 : decode cX5_seek 80 = .ok (.aload_n 0, 1) := by decide +kernel
theorem dX5_seek_81 : decode cX5_seek 81 = .ok (.getfield 44, 3) := by decide +kernel
theorem dX5_seek_84 : decode cX5_seek 84 = .ok (.iload_n 1, 1) := by decide +kernel
theorem dX5_seek_85 : decode cX5_seek 85 = .ok (.iconst 1, 1) := by decide +kernel
theorem dX5_seek_86 : decode cX5_seek 86 = .ok (.iadd, 1) := by decide +kernel
theorem dX5_seek_87 : decode cX5_seek 87 = .ok (.iaload, 1) := by decide +kernel
theorem dX5_seek_88 : decode cX5_seek 88 = .ok (.iadd, 1) := by decide +kernel
theorem dX5_seek_89 : decode cX5_seek 89 = .ok (.aload_n 0, 1) := by decide +kernel
theorem dX5_seek_90 : decode cX5_seek 90 = .ok (.getfield 160, 3) := by decide +kernel
theorem dX5_seek_93 : decode cX5_seek 93 = .ok (.if_icmp .ge 92, 3) := by decide +kernel
theorem dX5_seek_96 : decode cX5_seek 96 = .ok (.aload_n 0, 1) := by decide +kernel
theorem dX5_seek_97 : decode cX5_seek 97 = .ok (.getfield 31, 3) := by decide +kernel
theorem dX5_seek_100 : decode cX5_seek 100 = .ok (.iload_n 1, 1) := by decide +kernel
theorem dX5_seek_101 : decode cX5_seek 101 = .ok (.aaload, 1) := by decide +kernel
theorem dX5_seek_102 : decode cX5_seek 102 = .ok (.aload 5, 2) := by decide +kernel
theorem dX5_seek_104 : decode cX5_seek 104 = .ok (.getfield 110, 3) := by decide +kernel
theorem dX5_seek_107 : decode cX5_seek 107 = .ok (.invokevirtual 114, 3) := by decide +kernel
theorem dX5_seek_110 : decode cX5_seek 110 = .ok (.ifCond .eq 75, 3) := by decide +kernel
theorem dX5_seek_113 : decode cX5_seek 113 = .ok (.aload_n 0, 1) := by decide +kernel
theorem dX5_seek_114 : decode cX5_seek 114 = .ok (.iload_n 1, 1) := by decide +kernel
theorem dX5_seek_115 : decode cX5_seek 115 = .ok (.iload_n 3, 1) := by decide +kernel
theorem dX5_seek_116 : decode cX5_seek 116 = .ok (.iload 4, 2) := by decide +kernel
theorem dX5_seek_118 : decode cX5_seek 118 = .ok (.iadd, 1) := by decide +kernel
theorem dX5_seek_119 : decode cX5_seek 119 = .ok (.invokevirtual 186, 3) := by decide +kernel
theorem dX5_seek_122 : decode cX5_seek 122 = .ok (.ifCond .eq 63, 3) := by decide +kernel
theorem dX5_seek_125 : decode cX5_seek 125 = .ok (.aload_n 0, 1) := by decide +kernel
theorem dX5_seek_126 : decode cX5_seek 126 = .ok (.getfield 38, 3) := by decide +kernel
theorem dX5_seek_129 : decode cX5_seek 129 = .ok (.iload_n 1, 1) := by decide +kernel
theorem dX5_seek_130 : decode cX5_seek 130 = .ok (.iload_n 3, 1) := by decide +kernel
theorem dX5_seek_131 : decode cX5_seek 131 = .ok (.iload 4, 2) := by decide +kernel
theorem dX5_seek_133 : decode cX5_seek 133 = .ok (.iadd, 1) := by decide +kernel
theorem dX5_seek_134 : decode cX5_seek 134 = .ok (.iastore, 1) := by decide +kernel
theorem dX5_seek_135 : decode cX5_seek 135 = .ok (.iload_n 1, 1) := by decide +kernel
theorem dX5_seek_136 : decode cX5_seek 136 = .ok (.iconst 1, 1) := by decide +kernel
theorem dX5_seek_137 : decode cX5_seek 137 = .ok (.iadd, 1) := by decide +kernel
theorem dX5_seek_138 : decode cX5_seek 138 = .ok (.aload_n 0, 1) := by decide +kernel
theorem dX5_seek_139 : decode cX5_seek 139 = .ok (.getfield 172, 3) := by decide +kernel
theorem dX5_seek_142 : decode cX5_seek 142 = .ok (.if_icmp .ge 29, 3) := by decide +kernel
theorem dX5_seek_145 : decode cX5_seek 145 = .ok (.aload_n 0, 1) := by decide +kernel
theorem dX5_seek_146 : decode cX5_seek 146 = .ok (.getfield 31, 3) := by decide +kernel
theorem dX5_seek_149 : decode cX5_seek 149 = .ok (.iload_n 1, 1) := by decide +kernel
theorem dX5_seek_150 : decode cX5_seek 150 = .ok (.iconst 1, 1) := by decide +kernel
theorem dX5_seek_151 : decode cX5_seek 151 = .ok (.iadd, 1) := by decide +kernel
theorem dX5_seek_152 : decode cX5_seek 152 = .ok (.aaload, 1) := by decide +kernel
theorem dX5_seek_153 : decode cX5_seek 153 = .ok (.aload_n 0, 1) := by decide +kernel
theorem dX5_seek_154 : decode cX5_seek 154 = .ok (.getfield 31, 3) := by decide +kernel
theorem dX5_seek_157 : decode cX5_seek 157 = .ok (.iload_n 1, 1) := by decide +kernel
theorem dX5_seek_158 : decode cX5_seek 158 = .ok (.aaload, 1) := by decide +kernel
theorem dX5_seek_159 : decode cX5_seek 159 = .ok (.aload 5, 2) := by decide +kernel
theorem dX5_seek_161 : decode cX5_seek 161 = .ok (.getfield 110, 3) := by decide +kernel
theorem dX5_seek_164 : decode cX5_seek 164 = .ok (.aload_n 0, 1) := by decide +kernel
theorem dX5_seek_165 : decode cX5_seek 165 = .ok (.getfield 69, 3) := by decide +kernel
theorem dX5_seek_168 : decode cX5_seek 168 = .ok (.invokevirtual 179, 3) := by decide +kernel
theorem dX5_seek_171 : decode cX5_seek 171 = .ok (.aload_n 0, 1) := by decide +kernel
theorem dX5_seek_172 : decode cX5_seek 172 = .ok (.iload_n 1, 1) := by decide +kernel
theorem dX5_seek_173 : decode cX5_seek 173 = .ok (.iconst 1, 1) := by decide +kernel
theorem dX5_seek_174 : decode cX5_seek 174 = .ok (.iadd, 1) := by decide +kernel
theorem dX5_seek_175 : decode cX5_seek 175 = .ok (.iload_n 2, 1) := by decide +kernel
theorem dX5_seek_176 : decode cX5_seek 176 = .ok (.aload 5, 2) := by decide +kernel
theorem dX5_seek_178 : decode cX5_seek 178 = .ok (.getfield 100, 3) := by decide +kernel
theorem dX5_seek_181 : decode cX5_seek 181 = .ok (.iadd, 1) := by decide +kernel
theorem dX5_seek_182 : decode cX5_seek 182 = .ok (.invokevirtual 169, 3) := by decide +kernel
theorem dX5_seek_185 : decode cX5_seek 185 = .ok (.iinc 4 1, 3) := by decide +kernel
theorem dX5_seek_188 : decode cX5_seek 188 = .ok (.goto (-161), 3) := by decide +kernel
theorem dX5_seek_191 : decode cX5_seek 191 = .ok (.return_, 1) := by decide +kernel
theorem dX5_leavesOpen_0 : decode cX5_leavesOpen 0 = .ok (.iload_n 1, 1) := by decide +kernel
theorem dX5_leavesOpen_1 : decode cX5_leavesOpen 1 = .ok (.iconst 1, 1) := by decide +kernel
theorem dX5_leavesOpen_2 : decode cX5_leavesOpen 2 = .ok (.iadd, 1) := by decide +kernel
theorem dX5_leavesOpen_3 : decode cX5_leavesOpen 3 = .ok (.istore_n 3, 1) := by decide +kernel
theorem dX5_leavesOpen_4 : decode cX5_leavesOpen 4 = .ok (.iload_n 3, 1) := by decide +kernel
theorem dX5_leavesOpen_5 : decode cX5_leavesOpen 5 = .ok (.aload_n 0, 1) := by decide +kernel
theorem dX5_leavesOpen_6 : decode cX5_leavesOpen 6 = .ok (.getfield 172, 3) := by decide +kernel
theorem dX5_leavesOpen_9 : decode cX5_leavesOpen 9 = .ok (.if_icmp .ge 50, 3) := by decide +kernel
theorem dX5_leavesOpen_12 : decode cX5_leavesOpen 12 = .ok (.aload_n 0, 1) := by decide +kernel
theorem dX5_leavesOpen_13 : decode cX5_leavesOpen 13 = .ok (.getfield 52, 3) := by decide +kernel
theorem dX5_leavesOpen_16 : decode cX5_leavesOpen 16 = .ok (.iload_n 1, 1) := by decide +kernel
theorem dX5_leavesOpen_17 : decode cX5_leavesOpen 17 = .ok (.aaload, 1) := by decide +kernel
theorem dX5_leavesOpen_18 : decode cX5_leavesOpen 18 = .ok (.iload_n 3, 1) := by decide +kernel
theorem dX5_leavesOpen_19 : decode cX5_leavesOpen 19 = .ok (.iaload, 1) := by decide +kernel
theorem dX5_leavesOpen_20 : decode cX5_leavesOpen 20 = .ok (.aload_n 0, 1) := by decide +kernel
theorem dX5_leavesOpen_21 : decode cX5_leavesOpen 21 = .ok (.iload_n 2, 1) := by decide +kernel
theorem dX5_leavesOpen_22 : decode cX5_leavesOpen 22 = .ok (.aload_n 0, 1) := by decide +kernel
theorem dX5_leavesOpen_23 : decode cX5_leavesOpen 23 = .ok (.getfield 35, 3) := by decide +kernel
theorem dX5_leavesOpen_26 : decode cX5_leavesOpen 26 = .ok (.iload_n 3, 1) := by decide +kernel
theorem dX5_leavesOpen_27 : decode cX5_leavesOpen 27 = .ok (.iaload, 1) := by decide +kernel
theorem dX5_leavesOpen_28 : decode cX5_leavesOpen 28 = .ok (.invokevirtual 190, 3) := by decide +kernel
theorem dX5_leavesOpen_31 : decode cX5_leavesOpen 31 = .ok (.iand, 1) := by decide +kernel
theorem dX5_leavesOpen_32 : decode cX5_leavesOpen 32 = .ok (.istore 4, 2) := by decide +kernel
theorem dX5_leavesOpen_34 : decode cX5_leavesOpen 34 = .ok (.iload 4, 2) := by decide +kernel
theorem dX5_leavesOpen_36 : decode cX5_leavesOpen 36 = .ok (.ifCond .ne 5, 3) := by decide +kernel
theorem dX5_leavesOpen_39 : decode cX5_leavesOpen 39 = .ok (.iconst 0, 1) := by decide +kernel
theorem dX5_leavesOpen_40 : decode cX5_leavesOpen 40 = .ok (.ireturn, 1) := by decide +kernel
theorem dX5_leavesOpen_41 : decode cX5_leavesOpen 41 = .ok (.aload_n 0, 1) := by decide +kernel
theorem dX5_leavesOpen_42 : decode cX5_leavesOpen 42 = .ok (.getfield 52, 3) := by decide +kernel
theorem dX5_leavesOpen_45 : decode cX5_leavesOpen 45 = .ok (.iload_n 1, 1) := by decide +kernel
theorem dX5_leavesOpen_46 : decode cX5_leavesOpen 46 = .ok (.iconst 1, 1) := by decide +kernel
theorem dX5_leavesOpen_47 : decode cX5_leavesOpen 47 = .ok (.iadd, 1) := by decide +kernel
theorem dX5_leavesOpen_48 : decode cX5_leavesOpen 48 = .ok (.aaload, 1) := by decide +kernel
theorem dX5_leavesOpen_49 : decode cX5_leavesOpen 49 = .ok (.iload_n 3, 1) := by decide +kernel
theorem dX5_leavesOpen_50 : decode cX5_leavesOpen 50 = .ok (.iload 4, 2) := by decide +kernel
theorem dX5_leavesOpen_52 : decode cX5_leavesOpen 52 = .ok (.iastore, 1) := by decide +kernel
theorem dX5_leavesOpen_53 : decode cX5_leavesOpen 53 = .ok (.iinc 3 1, 3) := by decide +kernel
theorem dX5_leavesOpen_56 : decode cX5_leavesOpen 56 = .ok (.goto (-52), 3) := by decide +kernel
theorem dX5_leavesOpen_59 : decode cX5_leavesOpen 59 = .ok (.iconst 1, 1) := by decide +kernel
theorem dX5_leavesOpen_60 : decode cX5_leavesOpen 60 = .ok (.ireturn, 1) := by decide +kernel
theorem dX5_agreeing_0 : decode cX5_agreeing 0 = .ok (.iload_n 1, 1) := by decide +kernel
theorem dX5_agreeing_1 : decode cX5_agreeing 1 = .ok (.bipush 8, 2) := by decide +kernel
theorem dX5_agreeing_3 : decode cX5_agreeing 3 = .ok (.imul, 1) := by decide +kernel
theorem dX5_agreeing_4 : decode cX5_agreeing 4 = .ok (.iload_n 2, 1) := by decide +kernel
theorem dX5_agreeing_5 : decode cX5_agreeing 5 = .ok (.iadd, 1) := by decide +kernel
theorem dX5_agreeing_6 : decode cX5_agreeing 6 = .ok (.istore_n 3, 1) := by decide +kernel
theorem dX5_agreeing_7 : decode cX5_agreeing 7 = .ok (.aload_n 0, 1) := by decide +kernel
theorem dX5_agreeing_8 : decode cX5_agreeing 8 = .ok (.getfield 47, 3) := by decide +kernel
theorem dX5_agreeing_11 : decode cX5_agreeing 11 = .ok (.iload_n 3, 1) := by decide +kernel
theorem dX5_agreeing_12 : decode cX5_agreeing 12 = .ok (.iaload, 1) := by decide +kernel
theorem dX5_agreeing_13 : decode cX5_agreeing 13 = .ok (.iconst (-1), 1) := by decide +kernel
theorem dX5_agreeing_14 : decode cX5_agreeing 14 = .ok (.if_icmp .ne 104, 3) := by decide +kernel
theorem dX5_agreeing_17 : decode cX5_agreeing 17 = .ok (.aload_n 0, 1) := by decide +kernel
theorem dX5_agreeing_18 : decode cX5_agreeing 18 = .ok (.getfield 11, 3) := by decide +kernel
theorem dX5_agreeing_21 : decode cX5_agreeing 21 = .ok (.iload_n 1, 1) := by decide +kernel
theorem dX5_agreeing_22 : decode cX5_agreeing 22 = .ok (.aaload, 1) := by decide +kernel
theorem dX5_agreeing_23 : decode cX5_agreeing 23 = .ok (.astore 4, 2) := by decide +kernel
theorem dX5_agreeing_25 : decode cX5_agreeing 25 = .ok (.iconst 0, 1) := by decide +kernel
theorem dX5_agreeing_26 : decode cX5_agreeing 26 = .ok (.istore 5, 2) := by decide +kernel
theorem dX5_agreeing_28 : decode cX5_agreeing 28 = .ok (.iconst 0, 1) := by decide +kernel
theorem dX5_agreeing_29 : decode cX5_agreeing 29 = .ok (.istore 6, 2) := by decide +kernel
theorem dX5_agreeing_31 : decode cX5_agreeing 31 = .ok (.iload 6, 2) := by decide +kernel
theorem dX5_agreeing_33 : decode cX5_agreeing 33 = .ok (.aload_n 0, 1) := by decide +kernel
theorem dX5_agreeing_34 : decode cX5_agreeing 34 = .ok (.getfield 17, 3) := by decide +kernel
theorem dX5_agreeing_37 : decode cX5_agreeing 37 = .ok (.iload_n 2, 1) := by decide +kernel
theorem dX5_agreeing_38 : decode cX5_agreeing 38 = .ok (.iaload, 1) := by decide +kernel
theorem dX5_agreeing_39 : decode cX5_agreeing 39 = .ok (.if_icmp .ge 71, 3) := by decide +kernel
theorem dX5_agreeing_42 : decode cX5_agreeing 42 = .ok (.aload_n 0, 1) := by decide +kernel
theorem dX5_agreeing_43 : decode cX5_agreeing 43 = .ok (.getfield 11, 3) := by decide +kernel
theorem dX5_agreeing_46 : decode cX5_agreeing 46 = .ok (.iload_n 2, 1) := by decide +kernel
theorem dX5_agreeing_47 : decode cX5_agreeing 47 = .ok (.bipush 12, 2) := by decide +kernel
theorem dX5_agreeing_49 : decode cX5_agreeing 49 = .ok (.imul, 1) := by decide +kernel
theorem dX5_agreeing_50 : decode cX5_agreeing 50 = .ok (.iload 6, 2) := by decide +kernel
theorem dX5_agreeing_52 : decode cX5_agreeing 52 = .ok (.iadd, 1) := by decide +kernel
theorem dX5_agreeing_53 : decode cX5_agreeing 53 = .ok (.aaload, 1) := by decide +kernel
theorem dX5_agreeing_54 : decode cX5_agreeing 54 = .ok (.astore 7, 2) := by decide +kernel
theorem dX5_agreeing_56 : decode cX5_agreeing 56 = .ok (.aload 7, 2) := by decide +kernel
theorem dX5_agreeing_58 : decode cX5_agreeing 58 = .ok (.getfield 106, 3) := by decide +kernel
theorem dX5_agreeing_61 : decode cX5_agreeing 61 = .ok (.ifCond .eq 43, 3) := by decide +kernel
theorem dX5_agreeing_64 : decode cX5_agreeing 64 = .ok (.aload_n 0, 1) := by decide +kernel
theorem dX5_agreeing_65 : decode cX5_agreeing 65 = .ok (.aload 4, 2) := by decide +kernel
theorem dX5_agreeing_67 : decode cX5_agreeing 67 = .ok (.getfield 110, 3) := by decide +kernel
theorem dX5_agreeing_70 : decode cX5_agreeing 70 = .ok (.aload 7, 2) := by decide +kernel
theorem dX5_agreeing_72 : decode cX5_agreeing 72 = .ok (.getfield 110, 3) := by decide +kernel
theorem dX5_agreeing_75 : decode cX5_agreeing 75 = .ok (.invokevirtual 193, 3) := by decide +kernel
theorem dX5_agreeing_78 : decode cX5_agreeing 78 = .ok (.ifCond .ne 26, 3) := by decide +kernel
theorem dX5_agreeing_81 : decode cX5_agreeing 81 = .ok (.aload 4, 2) := by decide +kernel
theorem dX5_agreeing_83 : decode cX5_agreeing 83 = .ok (.aload_n 0, 1) := by decide +kernel
theorem dX5_agreeing_84 : decode cX5_agreeing 84 = .ok (.getfield 62, 3) := by decide +kernel
theorem dX5_agreeing_87 : decode cX5_agreeing 87 = .ok (.aload 7, 2) := by decide +kernel
theorem dX5_agreeing_89 : decode cX5_agreeing 89 = .ok (.invokevirtual 197, 3) := by decide +kernel
theorem dX5_agreeing_92 : decode cX5_agreeing 92 = .ok (.ifCond .eq 12, 3) := by decide +kernel
theorem dX5_agreeing_95 : decode cX5_agreeing 95 = .ok (.iload 5, 2) := by decide +kernel
theorem dX5_agreeing_97 : decode cX5_agreeing 97 = .ok (.iconst 1, 1) := by decide +kernel
theorem dX5_agreeing_98 : decode cX5_agreeing 98 = .ok (.iload 6, 2) := by decide +kernel
theorem dX5_agreeing_100 : decode cX5_agreeing 100 = .ok (.ishl, 1) := by decide +kernel
theorem dX5_agreeing_101 : decode cX5_agreeing 101 = .ok (.ior, 1) := by decide +kernel
theorem dX5_agreeing_102 : decode cX5_agreeing 102 = .ok (.istore 5, 2) := by decide +kernel
theorem dX5_agreeing_104 : decode cX5_agreeing 104 = .ok (.iinc 6 1, 3) := by decide +kernel
theorem dX5_agreeing_107 : decode cX5_agreeing 107 = .ok (.goto (-76), 3) := by decide +kernel
theorem dX5_agreeing_110 : decode cX5_agreeing 110 = .ok (.aload_n 0, 1) := by decide +kernel
theorem dX5_agreeing_111 : decode cX5_agreeing 111 = .ok (.getfield 47, 3) := by decide +kernel
theorem dX5_agreeing_114 : decode cX5_agreeing 114 = .ok (.iload_n 3, 1) := by decide +kernel
theorem dX5_agreeing_115 : decode cX5_agreeing 115 = .ok (.iload 5, 2) := by decide +kernel
theorem dX5_agreeing_117 : decode cX5_agreeing 117 = .ok (.iastore, 1) := by decide +kernel
theorem dX5_agreeing_118 : decode cX5_agreeing 118 = .ok (.aload_n 0, 1) := by decide +kernel
theorem dX5_agreeing_119 : decode cX5_agreeing 119 = .ok (.getfield 47, 3) := by decide +kernel
theorem dX5_agreeing_122 : decode cX5_agreeing 122 = .ok (.iload_n 3, 1) := by decide +kernel
theorem dX5_agreeing_123 : decode cX5_agreeing 123 = .ok (.iaload, 1) := by decide +kernel
theorem dX5_agreeing_124 : decode cX5_agreeing 124 = .ok (.ireturn, 1) := by decide +kernel
theorem dX5_collide_0 : decode cX5_collide 0 = .ok (.iconst 0, 1) := by decide +kernel
theorem dX5_collide_1 : decode cX5_collide 1 = .ok (.istore_n 3, 1) := by decide +kernel
theorem dX5_collide_2 : decode cX5_collide 2 = .ok (.iload_n 3, 1) := by decide +kernel
theorem dX5_collide_3 : decode cX5_collide 3 = .ok (.iconst 5, 1) := by decide +kernel
theorem dX5_collide_4 : decode cX5_collide 4 = .ok (.if_icmp .ge 33, 3) := by decide +kernel
theorem dX5_collide_7 : decode cX5_collide 7 = .ok (.aload_n 1, 1) := by decide +kernel
theorem dX5_collide_8 : decode cX5_collide 8 = .ok (.iload_n 3, 1) := by decide +kernel
theorem dX5_collide_9 : decode cX5_collide 9 = .ok (.laload, 1) := by decide +kernel
theorem dX5_collide_10 : decode cX5_collide 10 = .ok (.aload_n 2, 1) := by decide +kernel
theorem dX5_collide_11 : decode cX5_collide 11 = .ok (.iload_n 3, 1) := by decide +kernel
theorem dX5_collide_12 : decode cX5_collide 12 = .ok (.laload, 1) := by decide +kernel
theorem dX5_collide_13 : decode cX5_collide 13 = .ok (.land, 1) := by decide +kernel
theorem dX5_collide_14 : decode cX5_collide 14 = .ok (.aload_n 0, 1) := by decide +kernel
theorem dX5_collide_15 : decode cX5_collide 15 = .ok (.getfield 69, 3) := by decide +kernel
theorem dX5_collide_18 : decode cX5_collide 18 = .ok (.iload_n 3, 1) := by decide +kernel
theorem dX5_collide_19 : decode cX5_collide 19 = .ok (.iconst 2, 1) := by decide +kernel
theorem dX5_collide_20 : decode cX5_collide 20 = .ok (.invokevirtual 201, 3) := by decide +kernel
theorem dX5_collide_23 : decode cX5_collide 23 = .ok (.land, 1) := by decide +kernel
theorem dX5_collide_24 : decode cX5_collide 24 = .ok (.lconst 0, 1) := by decide +kernel
theorem dX5_collide_25 : decode cX5_collide 25 = .ok (.lcmp, 1) := by decide +kernel
theorem dX5_collide_26 : decode cX5_collide 26 = .ok (.ifCond .eq 5, 3) := by decide +kernel
theorem dX5_collide_29 : decode cX5_collide 29 = .ok (.iconst 1, 1) := by decide +kernel
theorem dX5_collide_30 : decode cX5_collide 30 = .ok (.ireturn, 1) := by decide +kernel
theorem dX5_collide_31 : decode cX5_collide 31 = .ok (.iinc 3 1, 3) := by decide +kernel
theorem dX5_collide_34 : decode cX5_collide 34 = .ok (.goto (-32), 3) := by decide +kernel
theorem dX5_collide_37 : decode cX5_collide 37 = .ok (.iconst 0, 1) := by decide +kernel
theorem dX5_collide_38 : decode cX5_collide 38 = .ok (.ireturn, 1) := by decide +kernel
theorem dX5_keepPicked_0 : decode cX5_keepPicked 0 = .ok (.aload_n 0, 1) := by decide +kernel
theorem dX5_keepPicked_1 : decode cX5_keepPicked 1 = .ok (.iload_n 1, 1) := by decide +kernel
theorem dX5_keepPicked_2 : decode cX5_keepPicked 2 = .ok (.putfield 164, 3) := by decide +kernel
theorem dX5_keepPicked_5 : decode cX5_keepPicked 5 = .ok (.aload_n 0, 1) := by decide +kernel
theorem dX5_keepPicked_6 : decode cX5_keepPicked 6 = .ok (.aload_n 0, 1) := by decide +kernel
theorem dX5_keepPicked_7 : decode cX5_keepPicked 7 = .ok (.getfield 157, 3) := by decide +kernel
theorem dX5_keepPicked_10 : decode cX5_keepPicked 10 = .ok (.ifCond .eq 7, 3) := by decide +kernel
theorem dX5_keepPicked_13 : decode cX5_keepPicked 13 = .ok (.iconst 0, 1) := by decide +kernel
theorem dX5_keepPicked_14 : decode cX5_keepPicked 14 = .ok (.goto 4, 3) := by decide +kernel
theorem dX5_keepPicked_17 : decode cX5_keepPicked 17 = .ok (.iload_n 1, 1) := by decide +kernel
theorem dX5_keepPicked_18 : decode cX5_keepPicked 18 = .ok (.putfield 160, 3) := by decide +kernel
theorem dX5_keepPicked_21 : decode cX5_keepPicked 21 = .ok (.aload_n 0, 1) := by decide +kernel
theorem dX5_keepPicked_22 : decode cX5_keepPicked 22 = .ok (.getfield 38, 3) := by decide +kernel
theorem dX5_keepPicked_25 : decode cX5_keepPicked 25 = .ok (.iconst 0, 1) := by decide +kernel
theorem dX5_keepPicked_26 : decode cX5_keepPicked 26 = .ok (.aload_n 0, 1) := by decide +kernel
theorem dX5_keepPicked_27 : decode cX5_keepPicked 27 = .ok (.getfield 41, 3) := by decide +kernel
theorem dX5_keepPicked_30 : decode cX5_keepPicked 30 = .ok (.iconst 0, 1) := by decide +kernel
theorem dX5_keepPicked_31 : decode cX5_keepPicked 31 = .ok (.aload_n 0, 1) := by decide +kernel
theorem dX5_keepPicked_32 : decode cX5_keepPicked 32 = .ok (.getfield 172, 3) := by decide +kernel
theorem dX5_keepPicked_35 : decode cX5_keepPicked 35 = .ok (.invokestatic 205, 3) := by decide +kernel
theorem dX5_keepPicked_38 : decode cX5_keepPicked 38 = .ok (.return_, 1) := by decide +kernel
theorem dX5_tell_0 : decode cX5_tell 0 = .ok (.iconst 0, 1) := by decide +kernel
theorem dX5_tell_1 : decode cX5_tell 1 = .ok (.istore_n 2, 1) := by decide +kernel
theorem dX5_tell_2 : decode cX5_tell 2 = .ok (.iload_n 2, 1) := by decide +kernel
theorem dX5_tell_3 : decode cX5_tell 3 = .ok (.aload_n 1, 1) := by decide +kernel
theorem dX5_tell_4 : decode cX5_tell 4 = .ok (.getfield 211, 3) := by decide +kernel
theorem dX5_tell_7 : decode cX5_tell 7 = .ok (.if_icmp .ge 39, 3) := by decide +kernel
theorem dX5_tell_10 : decode cX5_tell 10 = .ok (.iload_n 2, 1) := by decide +kernel
theorem dX5_tell_11 : decode cX5_tell 11 = .ok (.aload_n 0, 1) := by decide +kernel
theorem dX5_tell_12 : decode cX5_tell 12 = .ok (.getfield 172, 3) := by decide +kernel
theorem dX5_tell_15 : decode cX5_tell 15 = .ok (.if_icmp .ge 31, 3) := by decide +kernel
theorem dX5_tell_18 : decode cX5_tell 18 = .ok (.aload_n 1, 1) := by decide +kernel
theorem dX5_tell_19 : decode cX5_tell 19 = .ok (.getfield 212, 3) := by decide +kernel
theorem dX5_tell_22 : decode cX5_tell 22 = .ok (.iload_n 2, 1) := by decide +kernel
theorem dX5_tell_23 : decode cX5_tell 23 = .ok (.aload_n 0, 1) := by decide +kernel
theorem dX5_tell_24 : decode cX5_tell 24 = .ok (.getfield 41, 3) := by decide +kernel
theorem dX5_tell_27 : decode cX5_tell 27 = .ok (.iload_n 2, 1) := by decide +kernel
theorem dX5_tell_28 : decode cX5_tell 28 = .ok (.iaload, 1) := by decide +kernel
theorem dX5_tell_29 : decode cX5_tell 29 = .ok (.aload_n 0, 1) := by decide +kernel
theorem dX5_tell_30 : decode cX5_tell 30 = .ok (.getfield 35, 3) := by decide +kernel
theorem dX5_tell_33 : decode cX5_tell 33 = .ok (.iload_n 2, 1) := by decide +kernel
theorem dX5_tell_34 : decode cX5_tell 34 = .ok (.iaload, 1) := by decide +kernel
theorem dX5_tell_35 : decode cX5_tell 35 = .ok (.bipush 12, 2) := by decide +kernel
theorem dX5_tell_37 : decode cX5_tell 37 = .ok (.imul, 1) := by decide +kernel
theorem dX5_tell_38 : decode cX5_tell 38 = .ok (.isub, 1) := by decide +kernel
theorem dX5_tell_39 : decode cX5_tell 39 = .ok (.iastore, 1) := by decide +kernel
theorem dX5_tell_40 : decode cX5_tell 40 = .ok (.iinc 2 1, 3) := by decide +kernel
theorem dX5_tell_43 : decode cX5_tell 43 = .ok (.goto (-41), 3) := by decide +kernel
theorem dX5_tell_46 : decode cX5_tell 46 = .ok (.iconst 0, 1) := by decide +kernel
theorem dX5_tell_47 : decode cX5_tell 47 = .ok (.istore_n 2, 1) := by decide +kernel
theorem dX5_tell_48 : decode cX5_tell 48 = .ok (.iload_n 2, 1) := by decide +kernel
theorem dX5_tell_49 : decode cX5_tell 49 = .ok (.aload_n 1, 1) := by decide +kernel
theorem dX5_tell_50 : decode cX5_tell 50 = .ok (.getfield 118, 3) := by decide +kernel
theorem dX5_tell_53 : decode cX5_tell 53 = .ok (.if_icmp .ge 58, 3) := by decide +kernel
theorem dX5_tell_56 : decode cX5_tell 56 = .ok (.aload_n 1, 1) := by decide +kernel
theorem dX5_tell_57 : decode cX5_tell 57 = .ok (.getfield 126, 3) := by decide +kernel
theorem dX5_tell_60 : decode cX5_tell 60 = .ok (.iload_n 2, 1) := by decide +kernel
theorem dX5_tell_61 : decode cX5_tell 61 = .ok (.iaload, 1) := by decide +kernel
theorem dX5_tell_62 : decode cX5_tell 62 = .ok (.istore_n 3, 1) := by decide +kernel
theorem dX5_tell_63 : decode cX5_tell 63 = .ok (.aload_n 1, 1) := by decide +kernel
theorem dX5_tell_64 : decode cX5_tell 64 = .ok (.getfield 138, 3) := by decide +kernel
theorem dX5_tell_67 : decode cX5_tell 67 = .ok (.iload_n 2, 1) := by decide +kernel
theorem dX5_tell_68 : decode cX5_tell 68 = .ok (.aload_n 0, 1) := by decide +kernel
theorem dX5_tell_69 : decode cX5_tell 69 = .ok (.getfield 11, 3) := by decide +kernel
theorem dX5_tell_72 : decode cX5_tell 72 = .ok (.aload_n 0, 1) := by decide +kernel
theorem dX5_tell_73 : decode cX5_tell 73 = .ok (.getfield 41, 3) := by decide +kernel
theorem dX5_tell_76 : decode cX5_tell 76 = .ok (.iload_n 3, 1) := by decide +kernel
theorem dX5_tell_77 : decode cX5_tell 77 = .ok (.iaload, 1) := by decide +kernel
theorem dX5_tell_78 : decode cX5_tell 78 = .ok (.aaload, 1) := by decide +kernel
theorem dX5_tell_79 : decode cX5_tell 79 = .ok (.getfield 135, 3) := by decide +kernel
theorem dX5_tell_82 : decode cX5_tell 82 = .ok (.aload_n 1, 1) := by decide +kernel
theorem dX5_tell_83 : decode cX5_tell 83 = .ok (.getfield 129, 3) := by decide +kernel
theorem dX5_tell_86 : decode cX5_tell 86 = .ok (.iload_n 2, 1) := by decide +kernel
theorem dX5_tell_87 : decode cX5_tell 87 = .ok (.iaload, 1) := by decide +kernel
theorem dX5_tell_88 : decode cX5_tell 88 = .ok (.aload_n 0, 1) := by decide +kernel
theorem dX5_tell_89 : decode cX5_tell 89 = .ok (.getfield 62, 3) := by decide +kernel
theorem dX5_tell_92 : decode cX5_tell 92 = .ok (.getfield 132, 3) := by decide +kernel
theorem dX5_tell_95 : decode cX5_tell 95 = .ok (.aload_n 0, 1) := by decide +kernel
theorem dX5_tell_96 : decode cX5_tell 96 = .ok (.getfield 35, 3) := by decide +kernel
theorem dX5_tell_99 : decode cX5_tell 99 = .ok (.iload_n 3, 1) := by decide +kernel
theorem dX5_tell_100 : decode cX5_tell 100 = .ok (.iaload, 1) := by decide +kernel
theorem dX5_tell_101 : decode cX5_tell 101 = .ok (.iaload, 1) := by decide +kernel
theorem dX5_tell_102 : decode cX5_tell 102 = .ok (.isub, 1) := by decide +kernel
theorem dX5_tell_103 : decode cX5_tell 103 = .ok (.iaload, 1) := by decide +kernel
theorem dX5_tell_104 : decode cX5_tell 104 = .ok (.iastore, 1) := by decide +kernel
theorem dX5_tell_105 : decode cX5_tell 105 = .ok (.iinc 2 1, 3) := by decide +kernel
theorem dX5_tell_108 : decode cX5_tell 108 = .ok (.goto (-60), 3) := by decide +kernel
theorem dX5_tell_111 : decode cX5_tell 111 = .ok (.return_, 1) := by decide +kernel
theorem dX5_countDinners_0 : decode cX5_countDinners 0 = .ok (.aload_n 0, 1) := by decide +kernel
theorem dX5_countDinners_1 : decode cX5_countDinners 1 = .ok (.iconst 0, 1) := by decide +kernel
theorem dX5_countDinners_2 : decode cX5_countDinners 2 = .ok (.putfield 215, 3) := by decide +kernel
theorem dX5_countDinners_5 : decode cX5_countDinners 5 = .ok (.aload_n 0, 1) := by decide +kernel
theorem dX5_countDinners_6 : decode cX5_countDinners 6 = .ok (.ldc 163, 2) := by decide +kernel
theorem dX5_countDinners_8 : decode cX5_countDinners 8 = .ok (.putfield 218, 3) := by decide +kernel
theorem dX5_countDinners_11 : decode cX5_countDinners 11 = .ok (.iconst 0, 1) := by decide +kernel
theorem dX5_countDinners_12 : decode cX5_countDinners 12 = .ok (.istore_n 1, 1) := by decide +kernel
theorem dX5_countDinners_13 : decode cX5_countDinners 13 = .ok (.iconst 1, 1) := by decide +kernel
theorem dX5_countDinners_14 : decode cX5_countDinners 14 = .ok (.istore_n 2, 1) := by decide +kernel
theorem dX5_countDinners_15 : decode cX5_countDinners 15 = .ok (.iload_n 2, 1) := by decide +kernel
theorem dX5_countDinners_16 : decode cX5_countDinners 16 = .ok (.aload_n 0, 1) := by decide +kernel
theorem dX5_countDinners_17 : decode cX5_countDinners 17 = .ok (.getfield 62, 3) := by decide +kernel
theorem dX5_countDinners_20 : decode cX5_countDinners 20 = .ok (.invokevirtual 221, 3) := by decide +kernel
theorem dX5_countDinners_23 : decode cX5_countDinners 23 = .ok (.if_icmp .gt 78, 3) := by decide +kernel
theorem dX5_countDinners_26 : decode cX5_countDinners 26 = .ok (.iload_n 2, 1) := by decide +kernel
theorem dX5_countDinners_27 : decode cX5_countDinners 27 = .ok (.invokestatic 225, 3) := by decide +kernel
theorem dX5_countDinners_30 : decode cX5_countDinners 30 = .ok (.istore_n 3, 1) := by decide +kernel
theorem dX5_countDinners_31 : decode cX5_countDinners 31 = .ok (.aload_n 0, 1) := by decide +kernel
theorem dX5_countDinners_32 : decode cX5_countDinners 32 = .ok (.getfield 55, 3) := by decide +kernel
theorem dX5_countDinners_35 : decode cX5_countDinners 35 = .ok (.iload_n 2, 1) := by decide +kernel
theorem dX5_countDinners_36 : decode cX5_countDinners 36 = .ok (.iload_n 3, 1) := by decide +kernel
theorem dX5_countDinners_37 : decode cX5_countDinners 37 = .ok (.iconst 4, 1) := by decide +kernel
theorem dX5_countDinners_38 : decode cX5_countDinners 38 = .ok (.if_icmp .gt 24, 3) := by decide +kernel
theorem dX5_countDinners_41 : decode cX5_countDinners 41 = .ok (.aload_n 0, 1) := by decide +kernel
theorem dX5_countDinners_42 : decode cX5_countDinners 42 = .ok (.iload_n 2, 1) := by decide +kernel
theorem dX5_countDinners_43 : decode cX5_countDinners 43 = .ok (.invokevirtual 230, 3) := by decide +kernel
theorem dX5_countDinners_46 : decode cX5_countDinners 46 = .ok (.ifCond .eq 16, 3) := by decide +kernel
theorem dX5_countDinners_49 : decode cX5_countDinners 49 = .ok (.aload_n 0, 1) := by decide +kernel
theorem dX5_countDinners_50 : decode cX5_countDinners 50 = .ok (.iload_n 2, 1) := by decide +kernel
theorem dX5_countDinners_51 : decode cX5_countDinners 51 = .ok (.iconst 1, 1) := by decide +kernel
theorem dX5_countDinners_52 : decode cX5_countDinners 52 = .ok (.invokevirtual 233, 3) := by decide +kernel
theorem dX5_countDinners_55 : decode cX5_countDinners 55 = .ok (.ifCond .eq 7, 3) := by decide +kernel
theorem dX5_countDinners_58 : decode cX5_countDinners 58 = .ok (.iconst 1, 1) := by decide +kernel
theorem dX5_countDinners_59 : decode cX5_countDinners 59 = .ok (.goto 4, 3) := by decide +kernel
theorem dX5_countDinners_62 : decode cX5_countDinners 62 = .ok (.iconst 0, 1) := by decide +kernel
theorem dX5_countDinners_63 : decode cX5_countDinners 63 = .ok (.bastore, 1) := by decide +kernel
theorem dX5_countDinners_64 : decode cX5_countDinners 64 = .ok (.aload_n 0, 1) := by decide +kernel
theorem dX5_countDinners_65 : decode cX5_countDinners 65 = .ok (.getfield 55, 3) := by decide +kernel
theorem dX5_countDinners_68 : decode cX5_countDinners 68 = .ok (.iload_n 2, 1) := by decide +kernel
theorem dX5_countDinners_69 : decode cX5_countDinners 69 = .ok (.baload, 1) := by decide +kernel
theorem dX5_countDinners_70 : decode cX5_countDinners 70 = .ok (.ifCond .eq 25, 3) := by decide +kernel
theorem dX5_countDinners_73 : decode cX5_countDinners 73 = .ok (.aload_n 0, 1) := by decide +kernel
theorem dX5_countDinners_74 : decode cX5_countDinners 74 = .ok (.dup, 1) := by decide +kernel
theorem dX5_countDinners_75 : decode cX5_countDinners 75 = .ok (.getfield 215, 3) := by decide +kernel
theorem dX5_countDinners_78 : decode cX5_countDinners 78 = .ok (.iconst 1, 1) := by decide +kernel
theorem dX5_countDinners_79 : decode cX5_countDinners 79 = .ok (.iadd, 1) := by decide +kernel
theorem dX5_countDinners_80 : decode cX5_countDinners 80 = .ok (.putfield 215, 3) := by decide +kernel
theorem dX5_countDinners_83 : decode cX5_countDinners 83 = .ok (.iload_n 3, 1) := by decide +kernel
theorem dX5_countDinners_84 : decode cX5_countDinners 84 = .ok (.iload_n 1, 1) := by decide +kernel
theorem dX5_countDinners_85 : decode cX5_countDinners 85 = .ok (.if_icmp .le 10, 3) := by decide +kernel
theorem dX5_countDinners_88 : decode cX5_countDinners 88 = .ok (.iload_n 3, 1) := by decide +kernel
theorem dX5_countDinners_89 : decode cX5_countDinners 89 = .ok (.istore_n 1, 1) := by decide +kernel
theorem dX5_countDinners_90 : decode cX5_countDinners 90 = .ok (.aload_n 0, 1) := by decide +kernel
theorem dX5_countDinners_91 : decode cX5_countDinners 91 = .ok (.iload_n 2, 1) := by decide +kernel
theorem dX5_countDinners_92 : decode cX5_countDinners 92 = .ok (.putfield 218, 3) := by decide +kernel
theorem dX5_countDinners_95 : decode cX5_countDinners 95 = .ok (.iinc 2 1, 3) := by decide +kernel
theorem dX5_countDinners_98 : decode cX5_countDinners 98 = .ok (.goto (-83), 3) := by decide +kernel
theorem dX5_countDinners_101 : decode cX5_countDinners 101 = .ok (.return_, 1) := by decide +kernel
theorem dX5_isBuilt_0 : decode cX5_isBuilt 0 = .ok (.iconst 0, 1) := by decide +kernel
theorem dX5_isBuilt_1 : decode cX5_isBuilt 1 = .ok (.istore_n 2, 1) := by decide +kernel
theorem dX5_isBuilt_2 : decode cX5_isBuilt 2 = .ok (.iload_n 2, 1) := by decide +kernel
theorem dX5_isBuilt_3 : decode cX5_isBuilt 3 = .ok (.aload_n 0, 1) := by decide +kernel
theorem dX5_isBuilt_4 : decode cX5_isBuilt 4 = .ok (.getfield 62, 3) := by decide +kernel
theorem dX5_isBuilt_7 : decode cX5_isBuilt 7 = .ok (.getfield 78, 3) := by decide +kernel
theorem dX5_isBuilt_10 : decode cX5_isBuilt 10 = .ok (.if_icmp .ge 37, 3) := by decide +kernel
theorem dX5_isBuilt_13 : decode cX5_isBuilt 13 = .ok (.iload_n 1, 1) := by decide +kernel
theorem dX5_isBuilt_14 : decode cX5_isBuilt 14 = .ok (.iconst 1, 1) := by decide +kernel
theorem dX5_isBuilt_15 : decode cX5_isBuilt 15 = .ok (.iload_n 2, 1) := by decide +kernel
theorem dX5_isBuilt_16 : decode cX5_isBuilt 16 = .ok (.ishl, 1) := by decide +kernel
theorem dX5_isBuilt_17 : decode cX5_isBuilt 17 = .ok (.iconst (-1), 1) := by decide +kernel
theorem dX5_isBuilt_18 : decode cX5_isBuilt 18 = .ok (.ixor, 1) := by decide +kernel
theorem dX5_isBuilt_19 : decode cX5_isBuilt 19 = .ok (.iand, 1) := by decide +kernel
theorem dX5_isBuilt_20 : decode cX5_isBuilt 20 = .ok (.istore_n 3, 1) := by decide +kernel
theorem dX5_isBuilt_21 : decode cX5_isBuilt 21 = .ok (.iload_n 3, 1) := by decide +kernel
theorem dX5_isBuilt_22 : decode cX5_isBuilt 22 = .ok (.iload_n 1, 1) := by decide +kernel
theorem dX5_isBuilt_23 : decode cX5_isBuilt 23 = .ok (.if_icmp .eq 18, 3) := by decide +kernel
theorem dX5_isBuilt_26 : decode cX5_isBuilt 26 = .ok (.iload_n 3, 1) := by decide +kernel
theorem dX5_isBuilt_27 : decode cX5_isBuilt 27 = .ok (.ifCond .eq 14, 3) := by decide +kernel
theorem dX5_isBuilt_30 : decode cX5_isBuilt 30 = .ok (.aload_n 0, 1) := by decide +kernel
theorem dX5_isBuilt_31 : decode cX5_isBuilt 31 = .ok (.getfield 55, 3) := by decide +kernel
theorem dX5_isBuilt_34 : decode cX5_isBuilt 34 = .ok (.iload_n 3, 1) := by decide +kernel
theorem dX5_isBuilt_35 : decode cX5_isBuilt 35 = .ok (.baload, 1) := by decide +kernel
theorem dX5_isBuilt_36 : decode cX5_isBuilt 36 = .ok (.ifCond .ne 5, 3) := by decide +kernel
theorem dX5_isBuilt_39 : decode cX5_isBuilt 39 = .ok (.iconst 0, 1) := by decide +kernel
theorem dX5_isBuilt_40 : decode cX5_isBuilt 40 = .ok (.ireturn, 1) := by decide +kernel
theorem dX5_isBuilt_41 : decode cX5_isBuilt 41 = .ok (.iinc 2 1, 3) := by decide +kernel
theorem dX5_isBuilt_44 : decode cX5_isBuilt 44 = .ok (.goto (-42), 3) := by decide +kernel
theorem dX5_isBuilt_47 : decode cX5_isBuilt 47 = .ok (.iconst 1, 1) := by decide +kernel
theorem dX5_isBuilt_48 : decode cX5_isBuilt 48 = .ok (.ireturn, 1) := by decide +kernel
theorem dX6_init_0 : decode cX6_init 0 = .ok (.aload_n 0, 1) := by decide +kernel
theorem dX6_init_1 : decode cX6_init 1 = .ok (.invokespecial 3, 3) := by decide +kernel
theorem dX6_init_4 : decode cX6_init 4 = .ok (.aload_n 0, 1) := by decide +kernel
theorem dX6_init_5 : decode cX6_init 5 = .ok (.sipush 600, 3) := by decide +kernel
theorem dX6_init_8 : decode cX6_init 8 = .ok (.newarray .int, 2) := by decide +kernel
theorem dX6_init_10 : decode cX6_init 10 = .ok (.putfield 11, 3) := by decide +kernel
theorem dX6_init_13 : decode cX6_init 13 = .ok (.return_, 1) := by decide +kernel
theorem dX6_hasRoom_0 : decode cX6_hasRoom 0 = .ok (.aload_n 0, 1) := by decide +kernel
theorem dX6_hasRoom_1 : decode cX6_hasRoom 1 = .ok (.getfield 15, 3) := by decide +kernel
theorem dX6_hasRoom_4 : decode cX6_hasRoom 4 = .ok (.iload_n 1, 1) := by decide +kernel
theorem dX6_hasRoom_5 : decode cX6_hasRoom 5 = .ok (.iadd, 1) := by decide +kernel
theorem dX6_hasRoom_6 : decode cX6_hasRoom 6 = .ok (.sipush 600, 3) := by decide +kernel
theorem dX6_hasRoom_9 : decode cX6_hasRoom 9 = .ok (.if_icmp .gt 7, 3) := by decide +kernel
theorem dX6_hasRoom_12 : decode cX6_hasRoom 12 = .ok (.iconst 1, 1) := by decide +kernel
theorem dX6_hasRoom_13 : decode cX6_hasRoom 13 = .ok (.goto 4, 3) := by decide +kernel
theorem dX6_hasRoom_16 : decode cX6_hasRoom 16 = .ok (.iconst 0, 1) := by decide +kernel
theorem dX6_hasRoom_17 : decode cX6_hasRoom 17 = .ok (.ireturn, 1) := by decide +kernel
theorem dX6_put_0 : decode cX6_put 0 = .ok (.iload_n 3, 1) := by decide +kernel
theorem dX6_put_1 : decode cX6_put 1 = .ok (.iconst 1, 1) := by decide +kernel
theorem dX6_put_2 : decode cX6_put 2 = .ok (.isub, 1) := by decide +kernel
theorem dX6_put_3 : decode cX6_put 3 = .ok (.istore 4, 2) := by decide +kernel
theorem dX6_put_5 : decode cX6_put 5 = .ok (.iload 4, 2) := by decide +kernel
theorem dX6_put_7 : decode cX6_put 7 = .ok (.ifCond .lt 50, 3) := by decide +kernel
theorem dX6_put_10 : decode cX6_put 10 = .ok (.aload_n 0, 1) := by decide +kernel
theorem dX6_put_11 : decode cX6_put 11 = .ok (.getfield 15, 3) := by decide +kernel
theorem dX6_put_14 : decode cX6_put 14 = .ok (.sipush 600, 3) := by decide +kernel
theorem dX6_put_17 : decode cX6_put 17 = .ok (.if_icmp .ge 40, 3) := by decide +kernel
theorem dX6_put_20 : decode cX6_put 20 = .ok (.aload_n 0, 1) := by decide +kernel
theorem dX6_put_21 : decode cX6_put 21 = .ok (.getfield 11, 3) := by decide +kernel
theorem dX6_put_24 : decode cX6_put 24 = .ok (.aload_n 0, 1) := by decide +kernel
theorem dX6_put_25 : decode cX6_put 25 = .ok (.getfield 15, 3) := by decide +kernel
theorem dX6_put_28 : decode cX6_put 28 = .ok (.lload_n 1, 1) := by decide +kernel
theorem dX6_put_29 : decode cX6_put 29 = .ok (.bipush 8, 2) := by decide +kernel
theorem dX6_put_31 : decode cX6_put 31 = .ok (.iload 4, 2) := by decide +kernel
theorem dX6_put_33 : decode cX6_put 33 = .ok (.imul, 1) := by decide +kernel
theorem dX6_put_34 : decode cX6_put 34 = .ok (.lshr, 1) := by decide +kernel
theorem dX6_put_35 : decode cX6_put 35 = .ok (.l2i, 1) := by decide +kernel
theorem dX6_put_36 : decode cX6_put 36 = .ok (.sipush 255, 3) := by decide +kernel
theorem dX6_put_39 : decode cX6_put 39 = .ok (.iand, 1) := by decide +kernel
theorem dX6_put_40 : decode cX6_put 40 = .ok (.iastore, 1) := by decide +kernel
theorem dX6_put_41 : decode cX6_put 41 = .ok (.aload_n 0, 1) := by decide +kernel
theorem dX6_put_42 : decode cX6_put 42 = .ok (.dup, 1) := by decide +kernel
theorem dX6_put_43 : decode cX6_put 43 = .ok (.getfield 15, 3) := by decide +kernel
theorem dX6_put_46 : decode cX6_put 46 = .ok (.iconst 1, 1) := by decide +kernel
theorem dX6_put_47 : decode cX6_put 47 = .ok (.iadd, 1) := by decide +kernel
theorem dX6_put_48 : decode cX6_put 48 = .ok (.putfield 15, 3) := by decide +kernel
theorem dX6_put_51 : decode cX6_put 51 = .ok (.iinc 4 (-1), 3) := by decide +kernel
theorem dX6_put_54 : decode cX6_put 54 = .ok (.goto (-49), 3) := by decide +kernel
theorem dX6_put_57 : decode cX6_put 57 = .ok (.return_, 1) := by decide +kernel
theorem dX6_read_0 : decode cX6_read 0 = .ok (.aload_n 1, 1) := by decide +kernel
theorem dX6_read_1 : decode cX6_read 1 = .ok (.invokevirtual 19, 3) := by decide +kernel
theorem dX6_read_4 : decode cX6_read 4 = .ok (.aload_n 0, 1) := by decide +kernel
theorem dX6_read_5 : decode cX6_read 5 = .ok (.iconst 0, 1) := by decide +kernel
theorem dX6_read_6 : decode cX6_read 6 = .ok (.putfield 24, 3) := by decide +kernel
theorem dX6_read_9 : decode cX6_read 9 = .ok (.aload_n 0, 1) := by decide +kernel
theorem dX6_read_10 : decode cX6_read 10 = .ok (.iconst 0, 1) := by decide +kernel
theorem dX6_read_11 : decode cX6_read 11 = .ok (.putfield 27, 3) := by decide +kernel
theorem dX6_read_14 : decode cX6_read 14 = .ok (.aload_n 0, 1) := by decide +kernel
theorem dX6_read_15 : decode cX6_read 15 = .ok (.invokevirtual 30, 3) := by decide +kernel
theorem dX6_read_18 : decode cX6_read 18 = .ok (.aload_n 0, 1) := by decide +kernel
theorem dX6_read_19 : decode cX6_read 19 = .ok (.aload_n 1, 1) := by decide +kernel
theorem dX6_read_20 : decode cX6_read 20 = .ok (.invokevirtual 33, 3) := by decide +kernel
theorem dX6_read_23 : decode cX6_read 23 = .ok (.iconst 0, 1) := by decide +kernel
theorem dX6_read_24 : decode cX6_read 24 = .ok (.istore_n 2, 1) := by decide +kernel
theorem dX6_read_25 : decode cX6_read 25 = .ok (.iload_n 2, 1) := by decide +kernel
theorem dX6_read_26 : decode cX6_read 26 = .ok (.iconst 4, 1) := by decide +kernel
theorem dX6_read_27 : decode cX6_read 27 = .ok (.if_icmp .gt 30, 3) := by decide +kernel
theorem dX6_read_30 : decode cX6_read 30 = .ok (.aload_n 0, 1) := by decide +kernel
theorem dX6_read_31 : decode cX6_read 31 = .ok (.getfield 24, 3) := by decide +kernel
theorem dX6_read_34 : decode cX6_read 34 = .ok (.ifCond .ne 23, 3) := by decide +kernel
theorem dX6_read_37 : decode cX6_read 37 = .ok (.aload_n 0, 1) := by decide +kernel
theorem dX6_read_38 : decode cX6_read 38 = .ok (.ldc 37, 2) := by decide +kernel
theorem dX6_read_40 : decode cX6_read 40 = .ok (.invokevirtual 39, 3) := by decide +kernel
theorem dX6_read_43 : decode cX6_read 43 = .ok (.ifCond .eq 14, 3) := by decide +kernel
theorem dX6_read_46 : decode cX6_read 46 = .ok (.aload_n 0, 1) := by decide +kernel
theorem dX6_read_47 : decode cX6_read 47 = .ok (.aload_n 1, 1) := by decide +kernel
theorem dX6_read_48 : decode cX6_read 48 = .ok (.invokevirtual 43, 3) := by decide +kernel
theorem dX6_read_51 : decode cX6_read 51 = .ok (.iinc 2 1, 3) := by decide +kernel
theorem dX6_read_54 : decode cX6_read 54 = .ok (.goto (-29), 3) := by decide +kernel
theorem dX6_read_57 : decode cX6_read 57 = .ok (.aload_n 0, 1) := by decide +kernel
theorem dX6_read_58 : decode cX6_read 58 = .ok (.aload_n 1, 1) := by decide +kernel
theorem dX6_read_59 : decode cX6_read 59 = .ok (.invokevirtual 46, 3) := by decide +kernel
theorem dX6_read_62 : decode cX6_read 62 = .ok (.iconst 0, 1) := by decide +kernel
theorem dX6_read_63 : decode cX6_read 63 = .ok (.istore_n 2, 1) := by decide +kernel
theorem dX6_read_64 : decode cX6_read 64 = .ok (.iload_n 2, 1) := by decide +kernel
theorem dX6_read_65 : decode cX6_read 65 = .ok (.bipush 8, 2) := by decide +kernel
theorem dX6_read_67 : decode cX6_read 67 = .ok (.if_icmp .gt 28, 3) := by decide +kernel
theorem dX6_read_70 : decode cX6_read 70 = .ok (.aload_n 0, 1) := by decide +kernel
theorem dX6_read_71 : decode cX6_read 71 = .ok (.getfield 24, 3) := by decide +kernel
theorem dX6_read_74 : decode cX6_read 74 = .ok (.ifCond .ne 21, 3) := by decide +kernel
theorem dX6_read_77 : decode cX6_read 77 = .ok (.aload_n 0, 1) := by decide +kernel
theorem dX6_read_78 : decode cX6_read 78 = .ok (.getfield 49, 3) := by decide +kernel
theorem dX6_read_81 : decode cX6_read 81 = .ok (.ifCond .eq 14, 3) := by decide +kernel
theorem dX6_read_84 : decode cX6_read 84 = .ok (.aload_n 0, 1) := by decide +kernel
theorem dX6_read_85 : decode cX6_read 85 = .ok (.aload_n 1, 1) := by decide +kernel
theorem dX6_read_86 : decode cX6_read 86 = .ok (.invokevirtual 46, 3) := by decide +kernel
theorem dX6_read_89 : decode cX6_read 89 = .ok (.iinc 2 1, 3) := by decide +kernel
theorem dX6_read_92 : decode cX6_read 92 = .ok (.goto (-28), 3) := by decide +kernel
theorem dX6_read_95 : decode cX6_read 95 = .ok (.aload_n 0, 1) := by decide +kernel
theorem dX6_read_96 : decode cX6_read 96 = .ok (.iconst 0, 1) := by decide +kernel
theorem dX6_read_97 : decode cX6_read 97 = .ok (.putfield 15, 3) := by decide +kernel
theorem dX6_read_100 : decode cX6_read 100 = .ok (.return_, 1) := by decide +kernel
theorem dX6_readKitchen_0 : decode cX6_readKitchen 0 = .ok (.aload_n 0, 1) := by decide +kernel
theorem dX6_readKitchen_1 : decode cX6_readKitchen 1 = .ok (.ldc 52, 2) := by decide +kernel
theorem dX6_readKitchen_3 : decode cX6_readKitchen 3 = .ok (.invokevirtual 54, 3) := by decide +kernel
theorem dX6_readKitchen_6 : decode cX6_readKitchen 6 = .ok (.iconst 0, 1) := by decide +kernel
theorem dX6_readKitchen_7 : decode cX6_readKitchen 7 = .ok (.istore_n 2, 1) := by decide +kernel
theorem dX6_readKitchen_8 : decode cX6_readKitchen 8 = .ok (.iload_n 2, 1) := by decide +kernel
theorem dX6_readKitchen_9 : decode cX6_readKitchen 9 = .ok (.getstatic 58, 3) := by decide +kernel
theorem dX6_readKitchen_12 : decode cX6_readKitchen 12 = .ok (.arraylength, 1) := by decide +kernel
theorem dX6_readKitchen_13 : decode cX6_readKitchen 13 = .ok (.if_icmp .ge 29, 3) := by decide +kernel
theorem dX6_readKitchen_16 : decode cX6_readKitchen 16 = .ok (.aload_n 1, 1) := by decide +kernel
theorem dX6_readKitchen_17 : decode cX6_readKitchen 17 = .ok (.getfield 61, 3) := by decide +kernel
theorem dX6_readKitchen_20 : decode cX6_readKitchen 20 = .ok (.iload_n 2, 1) := by decide +kernel
theorem dX6_readKitchen_21 : decode cX6_readKitchen 21 = .ok (.aload_n 0, 1) := by decide +kernel
theorem dX6_readKitchen_22 : decode cX6_readKitchen 22 = .ok (.getstatic 63, 3) := by decide +kernel
theorem dX6_readKitchen_25 : decode cX6_readKitchen 25 = .ok (.iload_n 2, 1) := by decide +kernel
theorem dX6_readKitchen_26 : decode cX6_readKitchen 26 = .ok (.iaload, 1) := by decide +kernel
theorem dX6_readKitchen_27 : decode cX6_readKitchen 27 = .ok (.getstatic 58, 3) := by decide +kernel
theorem dX6_readKitchen_30 : decode cX6_readKitchen 30 = .ok (.iload_n 2, 1) := by decide +kernel
theorem dX6_readKitchen_31 : decode cX6_readKitchen 31 = .ok (.iaload, 1) := by decide +kernel
theorem dX6_readKitchen_32 : decode cX6_readKitchen 32 = .ok (.invokevirtual 66, 3) := by decide +kernel
theorem dX6_readKitchen_35 : decode cX6_readKitchen 35 = .ok (.iastore, 1) := by decide +kernel
theorem dX6_readKitchen_36 : decode cX6_readKitchen 36 = .ok (.iinc 2 1, 3) := by decide +kernel
theorem dX6_readKitchen_39 : decode cX6_readKitchen 39 = .ok (.goto (-31), 3) := by decide +kernel
theorem dX6_readKitchen_42 : decode cX6_readKitchen 42 = .ok (.aload_n 0, 1) := by decide +kernel
theorem dX6_readKitchen_43 : decode cX6_readKitchen 43 = .ok (.invokevirtual 70, 3) := by decide +kernel
theorem dX6_readKitchen_46 : decode cX6_readKitchen 46 = .ok (.return_, 1) := by decide +kernel
theorem dX6_readAway_0 : decode cX6_readAway 0 = .ok (.aload_n 1, 1) := by decide +kernel
theorem dX6_readAway_1 : decode cX6_readAway 1 = .ok (.getfield 73, 3) := by decide +kernel
theorem dX6_readAway_4 : decode cX6_readAway 4 = .ok (.iconst 4, 1) := by decide +kernel
theorem dX6_readAway_5 : decode cX6_readAway 5 = .ok (.if_icmp .lt 9, 3) := by decide +kernel
theorem dX6_readAway_8 : decode cX6_readAway 8 = .ok (.aload_n 0, 1) := by decide +kernel
theorem dX6_readAway_9 : decode cX6_readAway 9 = .ok (.iconst 3, 1) := by decide +kernel
theorem dX6_readAway_10 : decode cX6_readAway 10 = .ok (.putfield 24, 3) := by decide +kernel
theorem dX6_readAway_13 : decode cX6_readAway 13 = .ok (.return_, 1) := by decide +kernel
theorem dX6_readAway_14 : decode cX6_readAway 14 = .ok (.aload_n 0, 1) := by decide +kernel
theorem dX6_readAway_15 : decode cX6_readAway 15 = .ok (.ldc 37, 2) := by decide +kernel
theorem dX6_readAway_17 : decode cX6_readAway 17 = .ok (.invokevirtual 54, 3) := by decide +kernel
theorem dX6_readAway_20 : decode cX6_readAway 20 = .ok (.aload_n 0, 1) := by decide +kernel
theorem dX6_readAway_21 : decode cX6_readAway 21 = .ok (.iconst 0, 1) := by decide +kernel
theorem dX6_readAway_22 : decode cX6_readAway 22 = .ok (.bipush 59, 2) := by decide +kernel
theorem dX6_readAway_24 : decode cX6_readAway 24 = .ok (.invokevirtual 66, 3) := by decide +kernel
theorem dX6_readAway_27 : decode cX6_readAway 27 = .ok (.istore_n 2, 1) := by decide +kernel
theorem dX6_readAway_28 : decode cX6_readAway 28 = .ok (.aload_n 1, 1) := by decide +kernel
theorem dX6_readAway_29 : decode cX6_readAway 29 = .ok (.getfield 76, 3) := by decide +kernel
theorem dX6_readAway_32 : decode cX6_readAway 32 = .ok (.aload_n 1, 1) := by decide +kernel
theorem dX6_readAway_33 : decode cX6_readAway 33 = .ok (.getfield 73, 3) := by decide +kernel
theorem dX6_readAway_36 : decode cX6_readAway 36 = .ok (.iload_n 2, 1) := by decide +kernel
theorem dX6_readAway_37 : decode cX6_readAway 37 = .ok (.iastore, 1) := by decide +kernel
theorem dX6_readAway_38 : decode cX6_readAway 38 = .ok (.aload_n 1, 1) := by decide +kernel
theorem dX6_readAway_39 : decode cX6_readAway 39 = .ok (.getfield 79, 3) := by decide +kernel
theorem dX6_readAway_42 : decode cX6_readAway 42 = .ok (.aload_n 1, 1) := by decide +kernel
theorem dX6_readAway_43 : decode cX6_readAway 43 = .ok (.getfield 73, 3) := by decide +kernel
theorem dX6_readAway_46 : decode cX6_readAway 46 = .ok (.aload_n 0, 1) := by decide +kernel
theorem dX6_readAway_47 : decode cX6_readAway 47 = .ok (.iload_n 2, 1) := by decide +kernel
theorem dX6_readAway_48 : decode cX6_readAway 48 = .ok (.bipush 59, 2) := by decide +kernel
theorem dX6_readAway_50 : decode cX6_readAway 50 = .ok (.invokevirtual 66, 3) := by decide +kernel
theorem dX6_readAway_53 : decode cX6_readAway 53 = .ok (.iastore, 1) := by decide +kernel
theorem dX6_readAway_54 : decode cX6_readAway 54 = .ok (.aload_n 0, 1) := by decide +kernel
theorem dX6_readAway_55 : decode cX6_readAway 55 = .ok (.invokevirtual 70, 3) := by decide +kernel
theorem dX6_readAway_58 : decode cX6_readAway 58 = .ok (.aload_n 1, 1) := by decide +kernel
theorem dX6_readAway_59 : decode cX6_readAway 59 = .ok (.dup, 1) := by decide +kernel
theorem dX6_readAway_60 : decode cX6_readAway 60 = .ok (.getfield 73, 3) := by decide +kernel
theorem dX6_readAway_63 : decode cX6_readAway 63 = .ok (.iconst 1, 1) := by decide +kernel
theorem dX6_readAway_64 : decode cX6_readAway 64 = .ok (.iadd, 1) := by decide +kernel
theorem dX6_readAway_65 : decode cX6_readAway 65 = .ok (.putfield 73, 3) := by decide +kernel
theorem dX6_readAway_68 : decode cX6_readAway 68 = .ok (.return_, 1) := by decide +kernel
theorem dX6_readDish_0 : decode cX6_readDish 0 = .ok (.aload_n 0, 1) := by decide +kernel
theorem dX6_readDish_1 : decode cX6_readDish 1 = .ok (.getfield 24, 3) := by decide +kernel
theorem dX6_readDish_4 : decode cX6_readDish 4 = .ok (.ifCond .ne 26, 3) := by decide +kernel
theorem dX6_readDish_7 : decode cX6_readDish 7 = .ok (.aload_n 0, 1) := by decide +kernel
theorem dX6_readDish_8 : decode cX6_readDish 8 = .ok (.ldc 82, 2) := by decide +kernel
theorem dX6_readDish_10 : decode cX6_readDish 10 = .ok (.invokevirtual 39, 3) := by decide +kernel
theorem dX6_readDish_13 : decode cX6_readDish 13 = .ok (.ifCond .eq 17, 3) := by decide +kernel
theorem dX6_readDish_16 : decode cX6_readDish 16 = .ok (.aload_n 1, 1) := by decide +kernel
theorem dX6_readDish_17 : decode cX6_readDish 17 = .ok (.getfield 84, 3) := by decide +kernel
theorem dX6_readDish_20 : decode cX6_readDish 20 = .ok (.bipush 8, 2) := by decide +kernel
