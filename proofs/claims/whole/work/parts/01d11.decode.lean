theorem dX12_heat_145 : decode cX12_heat 145 = .ok (.iaload, 1) := by decide +kernel
theorem dX12_heat_146 : decode cX12_heat 146 = .ok (.if_icmp .ge 8, 3) := by decide +kernel
theorem dX12_heat_149 : decode cX12_heat 149 = .ok (.iload 5, 2) := by decide +kernel
theorem dX12_heat_151 : decode cX12_heat 151 = .ok (.goto 9, 3) := by decide +kernel
theorem dX12_heat_154 : decode cX12_heat 154 = .ok (.aload_n 0, 1) := by decide +kernel
theorem dX12_heat_155 : decode cX12_heat 155 = .ok (.getfield 46, 3) := by decide +kernel
theorem dX12_heat_158 : decode cX12_heat 158 = .ok (.iload_n 3, 1) := by decide +kernel
theorem dX12_heat_159 : decode cX12_heat 159 = .ok (.iaload, 1) := by decide +kernel
theorem dX12_heat_160 : decode cX12_heat 160 = .ok (.iastore, 1) := by decide +kernel
theorem dX12_heat_161 : decode cX12_heat 161 = .ok (.iinc 3 (-1), 3) := by decide +kernel
theorem dX12_heat_164 : decode cX12_heat 164 = .ok (.goto (-97), 3) := by decide +kernel
theorem dX12_heat_167 : decode cX12_heat 167 = .ok (.iconst 0, 1) := by decide +kernel
theorem dX12_heat_168 : decode cX12_heat 168 = .ok (.istore_n 3, 1) := by decide +kernel
theorem dX12_heat_169 : decode cX12_heat 169 = .ok (.iconst 0, 1) := by decide +kernel
theorem dX12_heat_170 : decode cX12_heat 170 = .ok (.istore 4, 2) := by decide +kernel
theorem dX12_heat_172 : decode cX12_heat 172 = .ok (.iload 4, 2) := by decide +kernel
theorem dX12_heat_174 : decode cX12_heat 174 = .ok (.iload_n 2, 1) := by decide +kernel
theorem dX12_heat_175 : decode cX12_heat 175 = .ok (.if_icmp .gt 44, 3) := by decide +kernel
theorem dX12_heat_178 : decode cX12_heat 178 = .ok (.iload_n 3, 1) := by decide +kernel
theorem dX12_heat_179 : decode cX12_heat 179 = .ok (.aload_n 0, 1) := by decide +kernel
theorem dX12_heat_180 : decode cX12_heat 180 = .ok (.getfield 19, 3) := by decide +kernel
theorem dX12_heat_183 : decode cX12_heat 183 = .ok (.iconst 4, 1) := by decide +kernel
theorem dX12_heat_184 : decode cX12_heat 184 = .ok (.iaload, 1) := by decide +kernel
theorem dX12_heat_185 : decode cX12_heat 185 = .ok (.isub, 1) := by decide +kernel
theorem dX12_heat_186 : decode cX12_heat 186 = .ok (.istore 5, 2) := by decide +kernel
theorem dX12_heat_188 : decode cX12_heat 188 = .ok (.iload 5, 2) := by decide +kernel
theorem dX12_heat_190 : decode cX12_heat 190 = .ok (.aload_n 0, 1) := by decide +kernel
theorem dX12_heat_191 : decode cX12_heat 191 = .ok (.getfield 85, 3) := by decide +kernel
theorem dX12_heat_194 : decode cX12_heat 194 = .ok (.iload 4, 2) := by decide +kernel
theorem dX12_heat_196 : decode cX12_heat 196 = .ok (.iaload, 1) := by decide +kernel
theorem dX12_heat_197 : decode cX12_heat 197 = .ok (.if_icmp .le 8, 3) := by decide +kernel
theorem dX12_heat_200 : decode cX12_heat 200 = .ok (.iload 5, 2) := by decide +kernel
theorem dX12_heat_202 : decode cX12_heat 202 = .ok (.goto 10, 3) := by decide +kernel
theorem dX12_heat_205 : decode cX12_heat 205 = .ok (.aload_n 0, 1) := by decide +kernel
theorem dX12_heat_206 : decode cX12_heat 206 = .ok (.getfield 85, 3) := by decide +kernel
theorem dX12_heat_209 : decode cX12_heat 209 = .ok (.iload 4, 2) := by decide +kernel
theorem dX12_heat_211 : decode cX12_heat 211 = .ok (.iaload, 1) := by decide +kernel
theorem dX12_heat_212 : decode cX12_heat 212 = .ok (.istore_n 3, 1) := by decide +kernel
theorem dX12_heat_213 : decode cX12_heat 213 = .ok (.iinc 4 1, 3) := by decide +kernel
theorem dX12_heat_216 : decode cX12_heat 216 = .ok (.goto (-44), 3) := by decide +kernel
theorem dX12_heat_219 : decode cX12_heat 219 = .ok (.iload_n 3, 1) := by decide +kernel
theorem dX12_heat_220 : decode cX12_heat 220 = .ok (.ireturn, 1) := by decide +kernel
theorem dX12_wanted_0 : decode cX12_wanted 0 = .ok (.aload_n 0, 1) := by decide +kernel
theorem dX12_wanted_1 : decode cX12_wanted 1 = .ok (.iconst 0, 1) := by decide +kernel
theorem dX12_wanted_2 : decode cX12_wanted 2 = .ok (.putfield 101, 3) := by decide +kernel
theorem dX12_wanted_5 : decode cX12_wanted 5 = .ok (.iload_n 1, 1) := by decide +kernel
theorem dX12_wanted_6 : decode cX12_wanted 6 = .ok (.invokestatic 318, 3) := by decide +kernel
theorem dX12_wanted_9 : decode cX12_wanted 9 = .ok (.ifCond .eq 22, 3) := by decide +kernel
theorem dX12_wanted_12 : decode cX12_wanted 12 = .ok (.iload_n 2, 1) := by decide +kernel
theorem dX12_wanted_13 : decode cX12_wanted 13 = .ok (.invokestatic 254, 3) := by decide +kernel
theorem dX12_wanted_16 : decode cX12_wanted 16 = .ok (.ifCond .eq 15, 3) := by decide +kernel
theorem dX12_wanted_19 : decode cX12_wanted 19 = .ok (.iload_n 3, 1) := by decide +kernel
theorem dX12_wanted_20 : decode cX12_wanted 20 = .ok (.i2l, 1) := by decide +kernel
theorem dX12_wanted_21 : decode cX12_wanted 21 = .ok (.lconst 0, 1) := by decide +kernel
theorem dX12_wanted_22 : decode cX12_wanted 22 = .ok (.ldc2_w 346, 3) := by decide +kernel
theorem dX12_wanted_25 : decode cX12_wanted 25 = .ok (.invokestatic 111, 3) := by decide +kernel
theorem dX12_wanted_28 : decode cX12_wanted 28 = .ok (.ifCond .ne 6, 3) := by decide +kernel
theorem dX12_wanted_31 : decode cX12_wanted 31 = .ok (.ldc 121, 2) := by decide +kernel
theorem dX12_wanted_33 : decode cX12_wanted 33 = .ok (.ireturn, 1) := by decide +kernel
theorem dX12_wanted_34 : decode cX12_wanted 34 = .ok (.aload_n 0, 1) := by decide +kernel
theorem dX12_wanted_35 : decode cX12_wanted 35 = .ok (.getfield 221, 3) := by decide +kernel
theorem dX12_wanted_38 : decode cX12_wanted 38 = .ok (.ifCond .ne 6, 3) := by decide +kernel
theorem dX12_wanted_41 : decode cX12_wanted 41 = .ok (.ldc 253, 2) := by decide +kernel
theorem dX12_wanted_43 : decode cX12_wanted 43 = .ok (.ireturn, 1) := by decide +kernel
theorem dX12_wanted_44 : decode cX12_wanted 44 = .ok (.aload_n 0, 1) := by decide +kernel
theorem dX12_wanted_45 : decode cX12_wanted 45 = .ok (.iload_n 1, 1) := by decide +kernel
theorem dX12_wanted_46 : decode cX12_wanted 46 = .ok (.invokevirtual 321, 3) := by decide +kernel
theorem dX12_wanted_49 : decode cX12_wanted 49 = .ok (.ifCond .ne 6, 3) := by decide +kernel
theorem dX12_wanted_52 : decode cX12_wanted 52 = .ok (.ldc 137, 2) := by decide +kernel
theorem dX12_wanted_54 : decode cX12_wanted 54 = .ok (.ireturn, 1) := by decide +kernel
theorem dX12_wanted_55 : decode cX12_wanted 55 = .ok (.aload_n 0, 1) := by decide +kernel
theorem dX12_wanted_56 : decode cX12_wanted 56 = .ok (.invokevirtual 343, 3) := by decide +kernel
theorem dX12_wanted_59 : decode cX12_wanted 59 = .ok (.iload_n 3, 1) := by decide +kernel
theorem dX12_wanted_60 : decode cX12_wanted 60 = .ok (.ifCond .ne 12, 3) := by decide +kernel
theorem dX12_wanted_63 : decode cX12_wanted 63 = .ok (.aload_n 0, 1) := by decide +kernel
theorem dX12_wanted_64 : decode cX12_wanted 64 = .ok (.getfield 37, 3) := by decide +kernel
theorem dX12_wanted_67 : decode cX12_wanted 67 = .ok (.iload_n 2, 1) := by decide +kernel
theorem dX12_wanted_68 : decode cX12_wanted 68 = .ok (.iaload, 1) := by decide +kernel
theorem dX12_wanted_69 : decode cX12_wanted 69 = .ok (.goto 37, 3) := by decide +kernel
theorem dX12_wanted_72 : decode cX12_wanted 72 = .ok (.iload_n 3, 1) := by decide +kernel
theorem dX12_wanted_73 : decode cX12_wanted 73 = .ok (.iconst 1, 1) := by decide +kernel
theorem dX12_wanted_74 : decode cX12_wanted 74 = .ok (.if_icmp .ne 12, 3) := by decide +kernel
theorem dX12_wanted_77 : decode cX12_wanted 77 = .ok (.aload_n 0, 1) := by decide +kernel
theorem dX12_wanted_78 : decode cX12_wanted 78 = .ok (.getfield 31, 3) := by decide +kernel
theorem dX12_wanted_81 : decode cX12_wanted 81 = .ok (.iload_n 2, 1) := by decide +kernel
theorem dX12_wanted_82 : decode cX12_wanted 82 = .ok (.iaload, 1) := by decide +kernel
theorem dX12_wanted_83 : decode cX12_wanted 83 = .ok (.goto 23, 3) := by decide +kernel
theorem dX12_wanted_86 : decode cX12_wanted 86 = .ok (.iload_n 3, 1) := by decide +kernel
theorem dX12_wanted_87 : decode cX12_wanted 87 = .ok (.iconst 2, 1) := by decide +kernel
theorem dX12_wanted_88 : decode cX12_wanted 88 = .ok (.if_icmp .ne 12, 3) := by decide +kernel
theorem dX12_wanted_91 : decode cX12_wanted 91 = .ok (.aload_n 0, 1) := by decide +kernel
theorem dX12_wanted_92 : decode cX12_wanted 92 = .ok (.getfield 34, 3) := by decide +kernel
theorem dX12_wanted_95 : decode cX12_wanted 95 = .ok (.iload_n 2, 1) := by decide +kernel
theorem dX12_wanted_96 : decode cX12_wanted 96 = .ok (.iaload, 1) := by decide +kernel
theorem dX12_wanted_97 : decode cX12_wanted 97 = .ok (.goto 9, 3) := by decide +kernel
theorem dX12_wanted_100 : decode cX12_wanted 100 = .ok (.aload_n 0, 1) := by decide +kernel
theorem dX12_wanted_101 : decode cX12_wanted 101 = .ok (.getfield 40, 3) := by decide +kernel
theorem dX12_wanted_104 : decode cX12_wanted 104 = .ok (.iload_n 2, 1) := by decide +kernel
theorem dX12_wanted_105 : decode cX12_wanted 105 = .ok (.iaload, 1) := by decide +kernel
theorem dX12_wanted_106 : decode cX12_wanted 106 = .ok (.ireturn, 1) := by decide +kernel
theorem dX12_dinners_0 : decode cX12_dinners 0 = .ok (.aload_n 0, 1) := by decide +kernel
theorem dX12_dinners_1 : decode cX12_dinners 1 = .ok (.iconst 0, 1) := by decide +kernel
theorem dX12_dinners_2 : decode cX12_dinners 2 = .ok (.putfield 101, 3) := by decide +kernel
theorem dX12_dinners_5 : decode cX12_dinners 5 = .ok (.iload_n 1, 1) := by decide +kernel
theorem dX12_dinners_6 : decode cX12_dinners 6 = .ok (.i2l, 1) := by decide +kernel
theorem dX12_dinners_7 : decode cX12_dinners 7 = .ok (.lconst 1, 1) := by decide +kernel
theorem dX12_dinners_8 : decode cX12_dinners 8 = .ok (.ldc2_w 346, 3) := by decide +kernel
theorem dX12_dinners_11 : decode cX12_dinners 11 = .ok (.invokestatic 111, 3) := by decide +kernel
theorem dX12_dinners_14 : decode cX12_dinners 14 = .ok (.ifCond .eq 20, 3) := by decide +kernel
theorem dX12_dinners_17 : decode cX12_dinners 17 = .ok (.iload_n 2, 1) := by decide +kernel
theorem dX12_dinners_18 : decode cX12_dinners 18 = .ok (.invokestatic 318, 3) := by decide +kernel
theorem dX12_dinners_21 : decode cX12_dinners 21 = .ok (.ifCond .eq 13, 3) := by decide +kernel
theorem dX12_dinners_24 : decode cX12_dinners 24 = .ok (.iload_n 3, 1) := by decide +kernel
theorem dX12_dinners_25 : decode cX12_dinners 25 = .ok (.i2l, 1) := by decide +kernel
theorem dX12_dinners_26 : decode cX12_dinners 26 = .ok (.lconst 0, 1) := by decide +kernel
theorem dX12_dinners_27 : decode cX12_dinners 27 = .ok (.lconst 1, 1) := by decide +kernel
theorem dX12_dinners_28 : decode cX12_dinners 28 = .ok (.invokestatic 111, 3) := by decide +kernel
theorem dX12_dinners_31 : decode cX12_dinners 31 = .ok (.ifCond .ne 6, 3) := by decide +kernel
theorem dX12_dinners_34 : decode cX12_dinners 34 = .ok (.ldc 121, 2) := by decide +kernel
theorem dX12_dinners_36 : decode cX12_dinners 36 = .ok (.ireturn, 1) := by decide +kernel
theorem dX12_dinners_37 : decode cX12_dinners 37 = .ok (.aload_n 0, 1) := by decide +kernel
theorem dX12_dinners_38 : decode cX12_dinners 38 = .ok (.getfield 221, 3) := by decide +kernel
theorem dX12_dinners_41 : decode cX12_dinners 41 = .ok (.ifCond .ne 6, 3) := by decide +kernel
theorem dX12_dinners_44 : decode cX12_dinners 44 = .ok (.ldc 253, 2) := by decide +kernel
theorem dX12_dinners_46 : decode cX12_dinners 46 = .ok (.ireturn, 1) := by decide +kernel
theorem dX12_dinners_47 : decode cX12_dinners 47 = .ok (.iconst 0, 1) := by decide +kernel
theorem dX12_dinners_48 : decode cX12_dinners 48 = .ok (.istore 4, 2) := by decide +kernel
theorem dX12_dinners_50 : decode cX12_dinners 50 = .ok (.ldc 137, 2) := by decide +kernel
theorem dX12_dinners_52 : decode cX12_dinners 52 = .ok (.istore 5, 2) := by decide +kernel
theorem dX12_dinners_54 : decode cX12_dinners 54 = .ok (.iconst 1, 1) := by decide +kernel
theorem dX12_dinners_55 : decode cX12_dinners 55 = .ok (.istore 6, 2) := by decide +kernel
theorem dX12_dinners_57 : decode cX12_dinners 57 = .ok (.iload 6, 2) := by decide +kernel
theorem dX12_dinners_59 : decode cX12_dinners 59 = .ok (.iconst 1, 1) := by decide +kernel
theorem dX12_dinners_60 : decode cX12_dinners 60 = .ok (.aload_n 0, 1) := by decide +kernel
theorem dX12_dinners_61 : decode cX12_dinners 61 = .ok (.getfield 19, 3) := by decide +kernel
theorem dX12_dinners_64 : decode cX12_dinners 64 = .ok (.bipush 16, 2) := by decide +kernel
theorem dX12_dinners_66 : decode cX12_dinners 66 = .ok (.iaload, 1) := by decide +kernel
theorem dX12_dinners_67 : decode cX12_dinners 67 = .ok (.ishl, 1) := by decide +kernel
theorem dX12_dinners_68 : decode cX12_dinners 68 = .ok (.if_icmp .ge 61, 3) := by decide +kernel
theorem dX12_dinners_71 : decode cX12_dinners 71 = .ok (.iload 6, 2) := by decide +kernel
theorem dX12_dinners_73 : decode cX12_dinners 73 = .ok (.invokestatic 263, 3) := by decide +kernel
theorem dX12_dinners_76 : decode cX12_dinners 76 = .ok (.iconst 5, 1) := by decide +kernel
theorem dX12_dinners_77 : decode cX12_dinners 77 = .ok (.if_icmp .ge 46, 3) := by decide +kernel
theorem dX12_dinners_80 : decode cX12_dinners 80 = .ok (.aload_n 0, 1) := by decide +kernel
theorem dX12_dinners_81 : decode cX12_dinners 81 = .ok (.iload 6, 2) := by decide +kernel
theorem dX12_dinners_83 : decode cX12_dinners 83 = .ok (.iload_n 2, 1) := by decide +kernel
theorem dX12_dinners_84 : decode cX12_dinners 84 = .ok (.iload_n 1, 1) := by decide +kernel
theorem dX12_dinners_85 : decode cX12_dinners 85 = .ok (.invokevirtual 324, 3) := by decide +kernel
theorem dX12_dinners_88 : decode cX12_dinners 88 = .ok (.ifCond .eq 35, 3) := by decide +kernel
theorem dX12_dinners_91 : decode cX12_dinners 91 = .ok (.iinc 4 1, 3) := by decide +kernel
theorem dX12_dinners_94 : decode cX12_dinners 94 = .ok (.iload 5, 2) := by decide +kernel
theorem dX12_dinners_96 : decode cX12_dinners 96 = .ok (.ldc 137, 2) := by decide +kernel
theorem dX12_dinners_98 : decode cX12_dinners 98 = .ok (.if_icmp .eq 16, 3) := by decide +kernel
theorem dX12_dinners_101 : decode cX12_dinners 101 = .ok (.iload 6, 2) := by decide +kernel
theorem dX12_dinners_103 : decode cX12_dinners 103 = .ok (.invokestatic 263, 3) := by decide +kernel
theorem dX12_dinners_106 : decode cX12_dinners 106 = .ok (.iload 5, 2) := by decide +kernel
theorem dX12_dinners_108 : decode cX12_dinners 108 = .ok (.invokestatic 263, 3) := by decide +kernel
theorem dX12_dinners_111 : decode cX12_dinners 111 = .ok (.if_icmp .le 8, 3) := by decide +kernel
theorem dX12_dinners_114 : decode cX12_dinners 114 = .ok (.iload 6, 2) := by decide +kernel
theorem dX12_dinners_116 : decode cX12_dinners 116 = .ok (.goto 5, 3) := by decide +kernel
theorem dX12_dinners_119 : decode cX12_dinners 119 = .ok (.iload 5, 2) := by decide +kernel
theorem dX12_dinners_121 : decode cX12_dinners 121 = .ok (.istore 5, 2) := by decide +kernel
theorem dX12_dinners_123 : decode cX12_dinners 123 = .ok (.iinc 6 1, 3) := by decide +kernel
theorem dX12_dinners_126 : decode cX12_dinners 126 = .ok (.goto (-69), 3) := by decide +kernel
theorem dX12_dinners_129 : decode cX12_dinners 129 = .ok (.iload_n 3, 1) := by decide +kernel
theorem dX12_dinners_130 : decode cX12_dinners 130 = .ok (.ifCond .ne 8, 3) := by decide +kernel
theorem dX12_dinners_133 : decode cX12_dinners 133 = .ok (.iload 4, 2) := by decide +kernel
theorem dX12_dinners_135 : decode cX12_dinners 135 = .ok (.goto 5, 3) := by decide +kernel
theorem dX12_dinners_138 : decode cX12_dinners 138 = .ok (.iload 5, 2) := by decide +kernel
theorem dX12_dinners_140 : decode cX12_dinners 140 = .ok (.ireturn, 1) := by decide +kernel
theorem dX12_more_0 : decode cX12_more 0 = .ok (.aload_n 0, 1) := by decide +kernel
theorem dX12_more_1 : decode cX12_more 1 = .ok (.iconst 0, 1) := by decide +kernel
theorem dX12_more_2 : decode cX12_more 2 = .ok (.putfield 101, 3) := by decide +kernel
theorem dX12_more_5 : decode cX12_more 5 = .ok (.iload_n 1, 1) := by decide +kernel
theorem dX12_more_6 : decode cX12_more 6 = .ok (.invokestatic 318, 3) := by decide +kernel
theorem dX12_more_9 : decode cX12_more 9 = .ok (.ifCond .ne 6, 3) := by decide +kernel
theorem dX12_more_12 : decode cX12_more 12 = .ok (.ldc 121, 2) := by decide +kernel
theorem dX12_more_14 : decode cX12_more 14 = .ok (.ireturn, 1) := by decide +kernel
theorem dX12_more_15 : decode cX12_more 15 = .ok (.aload_n 0, 1) := by decide +kernel
theorem dX12_more_16 : decode cX12_more 16 = .ok (.getfield 221, 3) := by decide +kernel
theorem dX12_more_19 : decode cX12_more 19 = .ok (.ifCond .ne 6, 3) := by decide +kernel
theorem dX12_more_22 : decode cX12_more 22 = .ok (.ldc 253, 2) := by decide +kernel
theorem dX12_more_24 : decode cX12_more 24 = .ok (.ireturn, 1) := by decide +kernel
theorem dX12_more_25 : decode cX12_more 25 = .ok (.iconst 0, 1) := by decide +kernel
theorem dX12_more_26 : decode cX12_more 26 = .ok (.istore_n 2, 1) := by decide +kernel
theorem dX12_more_27 : decode cX12_more 27 = .ok (.iconst 0, 1) := by decide +kernel
theorem dX12_more_28 : decode cX12_more 28 = .ok (.istore_n 3, 1) := by decide +kernel
theorem dX12_more_29 : decode cX12_more 29 = .ok (.iload_n 3, 1) := by decide +kernel
theorem dX12_more_30 : decode cX12_more 30 = .ok (.aload_n 0, 1) := by decide +kernel
theorem dX12_more_31 : decode cX12_more 31 = .ok (.getfield 19, 3) := by decide +kernel
theorem dX12_more_34 : decode cX12_more 34 = .ok (.bipush 16, 2) := by decide +kernel
theorem dX12_more_36 : decode cX12_more 36 = .ok (.iaload, 1) := by decide +kernel
theorem dX12_more_37 : decode cX12_more 37 = .ok (.if_icmp .ge 87, 3) := by decide +kernel
theorem dX12_more_40 : decode cX12_more 40 = .ok (.aload_n 0, 1) := by decide +kernel
theorem dX12_more_41 : decode cX12_more 41 = .ok (.getfield 19, 3) := by decide +kernel
theorem dX12_more_44 : decode cX12_more 44 = .ok (.sipush 202, 3) := by decide +kernel
theorem dX12_more_47 : decode cX12_more 47 = .ok (.iaload, 1) := by decide +kernel
theorem dX12_more_48 : decode cX12_more 48 = .ok (.invokestatic 263, 3) := by decide +kernel
theorem dX12_more_51 : decode cX12_more 51 = .ok (.iconst 4, 1) := by decide +kernel
theorem dX12_more_52 : decode cX12_more 52 = .ok (.if_icmp .ge 72, 3) := by decide +kernel
theorem dX12_more_55 : decode cX12_more 55 = .ok (.aload_n 0, 1) := by decide +kernel
theorem dX12_more_56 : decode cX12_more 56 = .ok (.getfield 19, 3) := by decide +kernel
theorem dX12_more_59 : decode cX12_more 59 = .ok (.sipush 202, 3) := by decide +kernel
theorem dX12_more_62 : decode cX12_more 62 = .ok (.iaload, 1) := by decide +kernel
theorem dX12_more_63 : decode cX12_more 63 = .ok (.iload_n 3, 1) := by decide +kernel
theorem dX12_more_64 : decode cX12_more 64 = .ok (.ishr, 1) := by decide +kernel
theorem dX12_more_65 : decode cX12_more 65 = .ok (.iconst 1, 1) := by decide +kernel
theorem dX12_more_66 : decode cX12_more 66 = .ok (.iand, 1) := by decide +kernel
theorem dX12_more_67 : decode cX12_more 67 = .ok (.ifCond .ne 7, 3) := by decide +kernel
theorem dX12_more_70 : decode cX12_more 70 = .ok (.iconst 1, 1) := by decide +kernel
theorem dX12_more_71 : decode cX12_more 71 = .ok (.goto 4, 3) := by decide +kernel
theorem dX12_more_74 : decode cX12_more 74 = .ok (.iconst 0, 1) := by decide +kernel
theorem dX12_more_75 : decode cX12_more 75 = .ok (.istore 4, 2) := by decide +kernel
theorem dX12_more_77 : decode cX12_more 77 = .ok (.iload_n 2, 1) := by decide +kernel
theorem dX12_more_78 : decode cX12_more 78 = .ok (.iload 4, 2) := by decide +kernel
theorem dX12_more_80 : decode cX12_more 80 = .ok (.ifCond .eq 35, 3) := by decide +kernel
theorem dX12_more_83 : decode cX12_more 83 = .ok (.aload_n 0, 1) := by decide +kernel
theorem dX12_more_84 : decode cX12_more 84 = .ok (.aload_n 0, 1) := by decide +kernel
theorem dX12_more_85 : decode cX12_more 85 = .ok (.getfield 19, 3) := by decide +kernel
theorem dX12_more_88 : decode cX12_more 88 = .ok (.sipush 202, 3) := by decide +kernel
theorem dX12_more_91 : decode cX12_more 91 = .ok (.iaload, 1) := by decide +kernel
theorem dX12_more_92 : decode cX12_more 92 = .ok (.iconst 1, 1) := by decide +kernel
theorem dX12_more_93 : decode cX12_more 93 = .ok (.iload_n 3, 1) := by decide +kernel
theorem dX12_more_94 : decode cX12_more 94 = .ok (.ishl, 1) := by decide +kernel
theorem dX12_more_95 : decode cX12_more 95 = .ok (.ior, 1) := by decide +kernel
theorem dX12_more_96 : decode cX12_more 96 = .ok (.iload_n 1, 1) := by decide +kernel
theorem dX12_more_97 : decode cX12_more 97 = .ok (.aload_n 0, 1) := by decide +kernel
theorem dX12_more_98 : decode cX12_more 98 = .ok (.getfield 19, 3) := by decide +kernel
theorem dX12_more_101 : decode cX12_more 101 = .ok (.iconst 5, 1) := by decide +kernel
theorem dX12_more_102 : decode cX12_more 102 = .ok (.iaload, 1) := by decide +kernel
theorem dX12_more_103 : decode cX12_more 103 = .ok (.invokevirtual 324, 3) := by decide +kernel
theorem dX12_more_106 : decode cX12_more 106 = .ok (.ifCond .eq 9, 3) := by decide +kernel
theorem dX12_more_109 : decode cX12_more 109 = .ok (.iconst 1, 1) := by decide +kernel
theorem dX12_more_110 : decode cX12_more 110 = .ok (.iload_n 3, 1) := by decide +kernel
theorem dX12_more_111 : decode cX12_more 111 = .ok (.ishl, 1) := by decide +kernel
theorem dX12_more_112 : decode cX12_more 112 = .ok (.goto 4, 3) := by decide +kernel
theorem dX12_more_115 : decode cX12_more 115 = .ok (.iconst 0, 1) := by decide +kernel
theorem dX12_more_116 : decode cX12_more 116 = .ok (.ior, 1) := by decide +kernel
theorem dX12_more_117 : decode cX12_more 117 = .ok (.istore_n 2, 1) := by decide +kernel
theorem dX12_more_118 : decode cX12_more 118 = .ok (.iinc 3 1, 3) := by decide +kernel
theorem dX12_more_121 : decode cX12_more 121 = .ok (.goto (-92), 3) := by decide +kernel
theorem dX12_more_124 : decode cX12_more 124 = .ok (.iload_n 2, 1) := by decide +kernel
theorem dX12_more_125 : decode cX12_more 125 = .ok (.ireturn, 1) := by decide +kernel
theorem dX12_mend_0 : decode cX12_mend 0 = .ok (.aload_n 0, 1) := by decide +kernel
theorem dX12_mend_1 : decode cX12_mend 1 = .ok (.iconst 0, 1) := by decide +kernel
theorem dX12_mend_2 : decode cX12_mend 2 = .ok (.putfield 101, 3) := by decide +kernel
theorem dX12_mend_5 : decode cX12_mend 5 = .ok (.iload_n 1, 1) := by decide +kernel
theorem dX12_mend_6 : decode cX12_mend 6 = .ok (.invokestatic 318, 3) := by decide +kernel
theorem dX12_mend_9 : decode cX12_mend 9 = .ok (.ifCond .eq 10, 3) := by decide +kernel
theorem dX12_mend_12 : decode cX12_mend 12 = .ok (.iload_n 2, 1) := by decide +kernel
theorem dX12_mend_13 : decode cX12_mend 13 = .ok (.invokestatic 254, 3) := by decide +kernel
theorem dX12_mend_16 : decode cX12_mend 16 = .ok (.ifCond .ne 6, 3) := by decide +kernel
theorem dX12_mend_19 : decode cX12_mend 19 = .ok (.ldc 121, 2) := by decide +kernel
theorem dX12_mend_21 : decode cX12_mend 21 = .ok (.ireturn, 1) := by decide +kernel
theorem dX12_mend_22 : decode cX12_mend 22 = .ok (.aload_n 0, 1) := by decide +kernel
theorem dX12_mend_23 : decode cX12_mend 23 = .ok (.getfield 221, 3) := by decide +kernel
theorem dX12_mend_26 : decode cX12_mend 26 = .ok (.ifCond .eq 25, 3) := by decide +kernel
theorem dX12_mend_29 : decode cX12_mend 29 = .ok (.aload_n 0, 1) := by decide +kernel
theorem dX12_mend_30 : decode cX12_mend 30 = .ok (.getfield 19, 3) := by decide +kernel
theorem dX12_mend_33 : decode cX12_mend 33 = .ok (.iconst 1, 1) := by decide +kernel
theorem dX12_mend_34 : decode cX12_mend 34 = .ok (.iaload, 1) := by decide +kernel
theorem dX12_mend_35 : decode cX12_mend 35 = .ok (.ifCond .eq 16, 3) := by decide +kernel
theorem dX12_mend_38 : decode cX12_mend 38 = .ok (.aload_n 0, 1) := by decide +kernel
theorem dX12_mend_39 : decode cX12_mend 39 = .ok (.getfield 19, 3) := by decide +kernel
theorem dX12_mend_42 : decode cX12_mend 42 = .ok (.sipush 203, 3) := by decide +kernel
theorem dX12_mend_45 : decode cX12_mend 45 = .ok (.iaload, 1) := by decide +kernel
theorem dX12_mend_46 : decode cX12_mend 46 = .ok (.bipush 60, 2) := by decide +kernel
theorem dX12_mend_48 : decode cX12_mend 48 = .ok (.if_icmp .ge 6, 3) := by decide +kernel
theorem dX12_mend_51 : decode cX12_mend 51 = .ok (.ldc 253, 2) := by decide +kernel
theorem dX12_mend_53 : decode cX12_mend 53 = .ok (.ireturn, 1) := by decide +kernel
theorem dX12_mend_54 : decode cX12_mend 54 = .ok (.aload_n 0, 1) := by decide +kernel
theorem dX12_mend_55 : decode cX12_mend 55 = .ok (.iload_n 1, 1) := by decide +kernel
theorem dX12_mend_56 : decode cX12_mend 56 = .ok (.invokevirtual 321, 3) := by decide +kernel
theorem dX12_mend_59 : decode cX12_mend 59 = .ok (.ifCond .ne 6, 3) := by decide +kernel
theorem dX12_mend_62 : decode cX12_mend 62 = .ok (.ldc 137, 2) := by decide +kernel
theorem dX12_mend_64 : decode cX12_mend 64 = .ok (.ireturn, 1) := by decide +kernel
theorem dX12_mend_65 : decode cX12_mend 65 = .ok (.iconst 0, 1) := by decide +kernel
theorem dX12_mend_66 : decode cX12_mend 66 = .ok (.istore_n 3, 1) := by decide +kernel
theorem dX12_mend_67 : decode cX12_mend 67 = .ok (.iload_n 3, 1) := by decide +kernel
theorem dX12_mend_68 : decode cX12_mend 68 = .ok (.bipush 12, 2) := by decide +kernel
theorem dX12_mend_70 : decode cX12_mend 70 = .ok (.if_icmp .ge 21, 3) := by decide +kernel
theorem dX12_mend_73 : decode cX12_mend 73 = .ok (.aload_n 0, 1) := by decide +kernel
theorem dX12_mend_74 : decode cX12_mend 74 = .ok (.getfield 67, 3) := by decide +kernel
theorem dX12_mend_77 : decode cX12_mend 77 = .ok (.iload_n 3, 1) := by decide +kernel
theorem dX12_mend_78 : decode cX12_mend 78 = .ok (.aload_n 0, 1) := by decide +kernel
theorem dX12_mend_79 : decode cX12_mend 79 = .ok (.getfield 73, 3) := by decide +kernel
theorem dX12_mend_82 : decode cX12_mend 82 = .ok (.iload_n 3, 1) := by decide +kernel
theorem dX12_mend_83 : decode cX12_mend 83 = .ok (.iaload, 1) := by decide +kernel
theorem dX12_mend_84 : decode cX12_mend 84 = .ok (.iastore, 1) := by decide +kernel
theorem dX12_mend_85 : decode cX12_mend 85 = .ok (.iinc 3 1, 3) := by decide +kernel
theorem dX12_mend_88 : decode cX12_mend 88 = .ok (.goto (-21), 3) := by decide +kernel
theorem dX12_mend_91 : decode cX12_mend 91 = .ok (.aload_n 0, 1) := by decide +kernel
theorem dX12_mend_92 : decode cX12_mend 92 = .ok (.iload_n 2, 1) := by decide +kernel
theorem dX12_mend_93 : decode cX12_mend 93 = .ok (.putfield 268, 3) := by decide +kernel
theorem dX12_mend_96 : decode cX12_mend 96 = .ok (.aload_n 0, 1) := by decide +kernel
theorem dX12_mend_97 : decode cX12_mend 97 = .ok (.aload_n 0, 1) := by decide +kernel
theorem dX12_mend_98 : decode cX12_mend 98 = .ok (.getfield 19, 3) := by decide +kernel
theorem dX12_mend_101 : decode cX12_mend 101 = .ok (.sipush 202, 3) := by decide +kernel
theorem dX12_mend_104 : decode cX12_mend 104 = .ok (.iaload, 1) := by decide +kernel
theorem dX12_mend_105 : decode cX12_mend 105 = .ok (.iload_n 1, 1) := by decide +kernel
theorem dX12_mend_106 : decode cX12_mend 106 = .ok (.aload_n 0, 1) := by decide +kernel
theorem dX12_mend_107 : decode cX12_mend 107 = .ok (.getfield 19, 3) := by decide +kernel
theorem dX12_mend_110 : decode cX12_mend 110 = .ok (.iconst 5, 1) := by decide +kernel
theorem dX12_mend_111 : decode cX12_mend 111 = .ok (.iaload, 1) := by decide +kernel
theorem dX12_mend_112 : decode cX12_mend 112 = .ok (.iload_n 2, 1) := by decide +kernel
theorem dX12_mend_113 : decode cX12_mend 113 = .ok (.iconst 0, 1) := by decide +kernel
theorem dX12_mend_114 : decode cX12_mend 114 = .ok (.iconst 0, 1) := by decide +kernel
theorem dX12_mend_115 : decode cX12_mend 115 = .ok (.invokevirtual 305, 3) := by decide +kernel
theorem dX12_mend_118 : decode cX12_mend 118 = .ok (.istore_n 3, 1) := by decide +kernel
theorem dX12_mend_119 : decode cX12_mend 119 = .ok (.aload_n 0, 1) := by decide +kernel
theorem dX12_mend_120 : decode cX12_mend 120 = .ok (.iconst 0, 1) := by decide +kernel
theorem dX12_mend_121 : decode cX12_mend 121 = .ok (.putfield 268, 3) := by decide +kernel
theorem dX12_mend_124 : decode cX12_mend 124 = .ok (.iload_n 3, 1) := by decide +kernel
theorem dX12_mend_125 : decode cX12_mend 125 = .ok (.ifCond .eq 10, 3) := by decide +kernel
theorem dX12_mend_128 : decode cX12_mend 128 = .ok (.aload_n 0, 1) := by decide +kernel
theorem dX12_mend_129 : decode cX12_mend 129 = .ok (.getfield 296, 3) := by decide +kernel
theorem dX12_mend_132 : decode cX12_mend 132 = .ok (.goto 5, 3) := by decide +kernel
theorem dX12_mend_135 : decode cX12_mend 135 = .ok (.ldc 137, 2) := by decide +kernel
theorem dX12_mend_137 : decode cX12_mend 137 = .ok (.ireturn, 1) := by decide +kernel
theorem dX12_slack_0 : decode cX12_slack 0 = .ok (.aload_n 0, 1) := by decide +kernel
theorem dX12_slack_1 : decode cX12_slack 1 = .ok (.iconst 0, 1) := by decide +kernel
theorem dX12_slack_2 : decode cX12_slack 2 = .ok (.putfield 101, 3) := by decide +kernel
theorem dX12_slack_5 : decode cX12_slack 5 = .ok (.iload_n 1, 1) := by decide +kernel
theorem dX12_slack_6 : decode cX12_slack 6 = .ok (.invokestatic 318, 3) := by decide +kernel
theorem dX12_slack_9 : decode cX12_slack 9 = .ok (.ifCond .eq 7, 3) := by decide +kernel
theorem dX12_slack_12 : decode cX12_slack 12 = .ok (.iload_n 2, 1) := by decide +kernel
theorem dX12_slack_13 : decode cX12_slack 13 = .ok (.ifCond .ge 6, 3) := by decide +kernel
theorem dX12_slack_16 : decode cX12_slack 16 = .ok (.ldc 121, 2) := by decide +kernel
theorem dX12_slack_18 : decode cX12_slack 18 = .ok (.ireturn, 1) := by decide +kernel
theorem dX12_slack_19 : decode cX12_slack 19 = .ok (.aload_n 0, 1) := by decide +kernel
theorem dX12_slack_20 : decode cX12_slack 20 = .ok (.getfield 221, 3) := by decide +kernel
theorem dX12_slack_23 : decode cX12_slack 23 = .ok (.ifCond .ne 6, 3) := by decide +kernel
theorem dX12_slack_26 : decode cX12_slack 26 = .ok (.ldc 253, 2) := by decide +kernel
theorem dX12_slack_28 : decode cX12_slack 28 = .ok (.ireturn, 1) := by decide +kernel
theorem dX12_slack_29 : decode cX12_slack 29 = .ok (.aload_n 0, 1) := by decide +kernel
theorem dX12_slack_30 : decode cX12_slack 30 = .ok (.iload_n 1, 1) := by decide +kernel
theorem dX12_slack_31 : decode cX12_slack 31 = .ok (.invokevirtual 321, 3) := by decide +kernel
theorem dX12_slack_34 : decode cX12_slack 34 = .ok (.ifCond .eq 11, 3) := by decide +kernel
theorem dX12_slack_37 : decode cX12_slack 37 = .ok (.iload_n 2, 1) := by decide +kernel
theorem dX12_slack_38 : decode cX12_slack 38 = .ok (.aload_n 0, 1) := by decide +kernel
theorem dX12_slack_39 : decode cX12_slack 39 = .ok (.getfield 302, 3) := by decide +kernel
theorem dX12_slack_42 : decode cX12_slack 42 = .ok (.if_icmp .lt 6, 3) := by decide +kernel
theorem dX12_slack_45 : decode cX12_slack 45 = .ok (.ldc 137, 2) := by decide +kernel
theorem dX12_slack_47 : decode cX12_slack 47 = .ok (.ireturn, 1) := by decide +kernel
theorem dX12_slack_48 : decode cX12_slack 48 = .ok (.iconst 0, 1) := by decide +kernel
theorem dX12_slack_49 : decode cX12_slack 49 = .ok (.istore_n 3, 1) := by decide +kernel
theorem dX12_slack_50 : decode cX12_slack 50 = .ok (.iconst 1, 1) := by decide +kernel
theorem dX12_slack_51 : decode cX12_slack 51 = .ok (.istore 4, 2) := by decide +kernel
theorem dX12_slack_53 : decode cX12_slack 53 = .ok (.iload 4, 2) := by decide +kernel
theorem dX12_slack_55 : decode cX12_slack 55 = .ok (.ifCond .eq 44, 3) := by decide +kernel
theorem dX12_slack_58 : decode cX12_slack 58 = .ok (.aload_n 0, 1) := by decide +kernel
theorem dX12_slack_59 : decode cX12_slack 59 = .ok (.getfield 79, 3) := by decide +kernel
theorem dX12_slack_62 : decode cX12_slack 62 = .ok (.iload_n 2, 1) := by decide +kernel
theorem dX12_slack_63 : decode cX12_slack 63 = .ok (.dup2, 1) := by decide +kernel
theorem dX12_slack_64 : decode cX12_slack 64 = .ok (.iaload, 1) := by decide +kernel
theorem dX12_slack_65 : decode cX12_slack 65 = .ok (.iconst 1, 1) := by decide +kernel
theorem dX12_slack_66 : decode cX12_slack 66 = .ok (.iadd, 1) := by decide +kernel
theorem dX12_slack_67 : decode cX12_slack 67 = .ok (.iastore, 1) := by decide +kernel
theorem dX12_slack_68 : decode cX12_slack 68 = .ok (.aload_n 0, 1) := by decide +kernel
theorem dX12_slack_69 : decode cX12_slack 69 = .ok (.iload_n 1, 1) := by decide +kernel
theorem dX12_slack_70 : decode cX12_slack 70 = .ok (.invokevirtual 340, 3) := by decide +kernel
theorem dX12_slack_73 : decode cX12_slack 73 = .ok (.ifCond .ne 7, 3) := by decide +kernel
theorem dX12_slack_76 : decode cX12_slack 76 = .ok (.iconst 1, 1) := by decide +kernel
theorem dX12_slack_77 : decode cX12_slack 77 = .ok (.goto 4, 3) := by decide +kernel
theorem dX12_slack_80 : decode cX12_slack 80 = .ok (.iconst 0, 1) := by decide +kernel
theorem dX12_slack_81 : decode cX12_slack 81 = .ok (.istore 4, 2) := by decide +kernel
theorem dX12_slack_83 : decode cX12_slack 83 = .ok (.iload_n 3, 1) := by decide +kernel
theorem dX12_slack_84 : decode cX12_slack 84 = .ok (.iload 4, 2) := by decide +kernel
theorem dX12_slack_86 : decode cX12_slack 86 = .ok (.ifCond .eq 7, 3) := by decide +kernel
theorem dX12_slack_89 : decode cX12_slack 89 = .ok (.iconst 1, 1) := by decide +kernel
theorem dX12_slack_90 : decode cX12_slack 90 = .ok (.goto 4, 3) := by decide +kernel
theorem dX12_slack_93 : decode cX12_slack 93 = .ok (.iconst 0, 1) := by decide +kernel
theorem dX12_slack_94 : decode cX12_slack 94 = .ok (.iadd, 1) := by decide +kernel
theorem dX12_slack_95 : decode cX12_slack 95 = .ok (.istore_n 3, 1) := by decide +kernel
theorem dX12_slack_96 : decode cX12_slack 96 = .ok (.goto (-43), 3) := by decide +kernel
theorem dX12_slack_99 : decode cX12_slack 99 = .ok (.iload_n 3, 1) := by decide +kernel
theorem dX12_slack_100 : decode cX12_slack 100 = .ok (.ireturn, 1) := by decide +kernel
theorem dX12_bears_0 : decode cX12_bears 0 = .ok (.aload_n 0, 1) := by decide +kernel
theorem dX12_bears_1 : decode cX12_bears 1 = .ok (.iconst 0, 1) := by decide +kernel
theorem dX12_bears_2 : decode cX12_bears 2 = .ok (.putfield 101, 3) := by decide +kernel
theorem dX12_bears_5 : decode cX12_bears 5 = .ok (.iload_n 1, 1) := by decide +kernel
theorem dX12_bears_6 : decode cX12_bears 6 = .ok (.invokestatic 318, 3) := by decide +kernel
theorem dX12_bears_9 : decode cX12_bears 9 = .ok (.ifCond .eq 19, 3) := by decide +kernel
theorem dX12_bears_12 : decode cX12_bears 12 = .ok (.iload_n 2, 1) := by decide +kernel
theorem dX12_bears_13 : decode cX12_bears 13 = .ok (.ifCond .lt 15, 3) := by decide +kernel
theorem dX12_bears_16 : decode cX12_bears 16 = .ok (.iload_n 3, 1) := by decide +kernel
theorem dX12_bears_17 : decode cX12_bears 17 = .ok (.i2l, 1) := by decide +kernel
theorem dX12_bears_18 : decode cX12_bears 18 = .ok (.lconst 1, 1) := by decide +kernel
theorem dX12_bears_19 : decode cX12_bears 19 = .ok (.ldc2_w 348, 3) := by decide +kernel
theorem dX12_bears_22 : decode cX12_bears 22 = .ok (.invokestatic 111, 3) := by decide +kernel
theorem dX12_bears_25 : decode cX12_bears 25 = .ok (.ifCond .ne 6, 3) := by decide +kernel
theorem dX12_bears_28 : decode cX12_bears 28 = .ok (.ldc 121, 2) := by decide +kernel
theorem dX12_bears_30 : decode cX12_bears 30 = .ok (.ireturn, 1) := by decide +kernel
theorem dX12_bears_31 : decode cX12_bears 31 = .ok (.aload_n 0, 1) := by decide +kernel
theorem dX12_bears_32 : decode cX12_bears 32 = .ok (.getfield 221, 3) := by decide +kernel
theorem dX12_bears_35 : decode cX12_bears 35 = .ok (.ifCond .ne 6, 3) := by decide +kernel
theorem dX12_bears_38 : decode cX12_bears 38 = .ok (.ldc 253, 2) := by decide +kernel
theorem dX12_bears_40 : decode cX12_bears 40 = .ok (.ireturn, 1) := by decide +kernel
theorem dX12_bears_41 : decode cX12_bears 41 = .ok (.aload_n 0, 1) := by decide +kernel
theorem dX12_bears_42 : decode cX12_bears 42 = .ok (.iload_n 1, 1) := by decide +kernel
theorem dX12_bears_43 : decode cX12_bears 43 = .ok (.invokevirtual 321, 3) := by decide +kernel
theorem dX12_bears_46 : decode cX12_bears 46 = .ok (.ifCond .eq 11, 3) := by decide +kernel
theorem dX12_bears_49 : decode cX12_bears 49 = .ok (.iload_n 2, 1) := by decide +kernel
theorem dX12_bears_50 : decode cX12_bears 50 = .ok (.aload_n 0, 1) := by decide +kernel
theorem dX12_bears_51 : decode cX12_bears 51 = .ok (.getfield 302, 3) := by decide +kernel
theorem dX12_bears_54 : decode cX12_bears 54 = .ok (.if_icmp .lt 6, 3) := by decide +kernel
theorem dX12_bears_57 : decode cX12_bears 57 = .ok (.ldc 137, 2) := by decide +kernel
theorem dX12_bears_59 : decode cX12_bears 59 = .ok (.ireturn, 1) := by decide +kernel
theorem dX12_bears_60 : decode cX12_bears 60 = .ok (.aload_n 0, 1) := by decide +kernel
theorem dX12_bears_61 : decode cX12_bears 61 = .ok (.getfield 82, 3) := by decide +kernel
theorem dX12_bears_64 : decode cX12_bears 64 = .ok (.iload_n 2, 1) := by decide +kernel
theorem dX12_bears_65 : decode cX12_bears 65 = .ok (.iload_n 3, 1) := by decide +kernel
theorem dX12_bears_66 : decode cX12_bears 66 = .ok (.iastore, 1) := by decide +kernel
theorem dX12_bears_67 : decode cX12_bears 67 = .ok (.aload_n 0, 1) := by decide +kernel
theorem dX12_bears_68 : decode cX12_bears 68 = .ok (.iload_n 1, 1) := by decide +kernel
theorem dX12_bears_69 : decode cX12_bears 69 = .ok (.invokevirtual 340, 3) := by decide +kernel
theorem dX12_bears_72 : decode cX12_bears 72 = .ok (.ifCond .ne 7, 3) := by decide +kernel
theorem dX12_bears_75 : decode cX12_bears 75 = .ok (.iconst 1, 1) := by decide +kernel
theorem dX12_bears_76 : decode cX12_bears 76 = .ok (.goto 4, 3) := by decide +kernel
theorem dX12_bears_79 : decode cX12_bears 79 = .ok (.iconst 0, 1) := by decide +kernel
theorem dX12_bears_80 : decode cX12_bears 80 = .ok (.ireturn, 1) := by decide +kernel
theorem dX12_mind_0 : decode cX12_mind 0 = .ok (.aload_n 0, 1) := by decide +kernel
theorem dX12_mind_1 : decode cX12_mind 1 = .ok (.iconst 0, 1) := by decide +kernel
theorem dX12_mind_2 : decode cX12_mind 2 = .ok (.putfield 101, 3) := by decide +kernel
theorem dX12_mind_5 : decode cX12_mind 5 = .ok (.iload_n 1, 1) := by decide +kernel
theorem dX12_mind_6 : decode cX12_mind 6 = .ok (.invokestatic 318, 3) := by decide +kernel
theorem dX12_mind_9 : decode cX12_mind 9 = .ok (.ifCond .eq 10, 3) := by decide +kernel
theorem dX12_mind_12 : decode cX12_mind 12 = .ok (.iload_n 2, 1) := by decide +kernel
theorem dX12_mind_13 : decode cX12_mind 13 = .ok (.invokestatic 254, 3) := by decide +kernel
theorem dX12_mind_16 : decode cX12_mind 16 = .ok (.ifCond .ne 6, 3) := by decide +kernel
theorem dX12_mind_19 : decode cX12_mind 19 = .ok (.ldc 121, 2) := by decide +kernel
theorem dX12_mind_21 : decode cX12_mind 21 = .ok (.ireturn, 1) := by decide +kernel
theorem dX12_mind_22 : decode cX12_mind 22 = .ok (.aload_n 0, 1) := by decide +kernel
theorem dX12_mind_23 : decode cX12_mind 23 = .ok (.getfield 221, 3) := by decide +kernel
theorem dX12_mind_26 : decode cX12_mind 26 = .ok (.ifCond .ne 6, 3) := by decide +kernel
theorem dX12_mind_29 : decode cX12_mind 29 = .ok (.ldc 253, 2) := by decide +kernel
theorem dX12_mind_31 : decode cX12_mind 31 = .ok (.ireturn, 1) := by decide +kernel
theorem dX12_mind_32 : decode cX12_mind 32 = .ok (.ldc 137, 2) := by decide +kernel
theorem dX12_mind_34 : decode cX12_mind 34 = .ok (.istore_n 3, 1) := by decide +kernel
theorem dX12_mind_35 : decode cX12_mind 35 = .ok (.iconst 0, 1) := by decide +kernel
theorem dX12_mind_36 : decode cX12_mind 36 = .ok (.istore 4, 2) := by decide +kernel
theorem dX12_mind_38 : decode cX12_mind 38 = .ok (.aload_n 0, 1) := by decide +kernel
theorem dX12_mind_39 : decode cX12_mind 39 = .ok (.iload_n 1, 1) := by decide +kernel
theorem dX12_mind_40 : decode cX12_mind 40 = .ok (.invokevirtual 321, 3) := by decide +kernel
theorem dX12_mind_43 : decode cX12_mind 43 = .ok (.ifCond .eq 58, 3) := by decide +kernel
theorem dX12_mind_46 : decode cX12_mind 46 = .ok (.iload 4, 2) := by decide +kernel
theorem dX12_mind_48 : decode cX12_mind 48 = .ok (.aload_n 0, 1) := by decide +kernel
theorem dX12_mind_49 : decode cX12_mind 49 = .ok (.getfield 302, 3) := by decide +kernel
theorem dX12_mind_52 : decode cX12_mind 52 = .ok (.if_icmp .ge 49, 3) := by decide +kernel
theorem dX12_mind_55 : decode cX12_mind 55 = .ok (.aload_n 0, 1) := by decide +kernel
theorem dX12_mind_56 : decode cX12_mind 56 = .ok (.getfield 79, 3) := by decide +kernel
theorem dX12_mind_59 : decode cX12_mind 59 = .ok (.iload 4, 2) := by decide +kernel
theorem dX12_mind_61 : decode cX12_mind 61 = .ok (.iaload, 1) := by decide +kernel
theorem dX12_mind_62 : decode cX12_mind 62 = .ok (.iload_n 2, 1) := by decide +kernel
theorem dX12_mind_63 : decode cX12_mind 63 = .ok (.if_icmp .lt 30, 3) := by decide +kernel
theorem dX12_mind_66 : decode cX12_mind 66 = .ok (.iload_n 3, 1) := by decide +kernel
theorem dX12_mind_67 : decode cX12_mind 67 = .ok (.ldc 137, 2) := by decide +kernel
theorem dX12_mind_69 : decode cX12_mind 69 = .ok (.if_icmp .eq 19, 3) := by decide +kernel
theorem dX12_mind_72 : decode cX12_mind 72 = .ok (.aload_n 0, 1) := by decide +kernel
theorem dX12_mind_73 : decode cX12_mind 73 = .ok (.getfield 79, 3) := by decide +kernel
theorem dX12_mind_76 : decode cX12_mind 76 = .ok (.iload 4, 2) := by decide +kernel
theorem dX12_mind_78 : decode cX12_mind 78 = .ok (.iaload, 1) := by decide +kernel
theorem dX12_mind_79 : decode cX12_mind 79 = .ok (.aload_n 0, 1) := by decide +kernel
theorem dX12_mind_80 : decode cX12_mind 80 = .ok (.getfield 79, 3) := by decide +kernel
theorem dX12_mind_83 : decode cX12_mind 83 = .ok (.iload_n 3, 1) := by decide +kernel
theorem dX12_mind_84 : decode cX12_mind 84 = .ok (.iaload, 1) := by decide +kernel
theorem dX12_mind_85 : decode cX12_mind 85 = .ok (.if_icmp .ge 8, 3) := by decide +kernel
theorem dX12_mind_88 : decode cX12_mind 88 = .ok (.iload 4, 2) := by decide +kernel
theorem dX12_mind_90 : decode cX12_mind 90 = .ok (.goto 4, 3) := by decide +kernel
theorem dX12_mind_93 : decode cX12_mind 93 = .ok (.iload_n 3, 1) := by decide +kernel
theorem dX12_mind_94 : decode cX12_mind 94 = .ok (.istore_n 3, 1) := by decide +kernel
theorem dX12_mind_95 : decode cX12_mind 95 = .ok (.iinc 4 1, 3) := by decide +kernel
theorem dX12_mind_98 : decode cX12_mind 98 = .ok (.goto (-60), 3) := by decide +kernel
theorem dX12_mind_101 : decode cX12_mind 101 = .ok (.iload_n 3, 1) := by decide +kernel
theorem dX12_mind_102 : decode cX12_mind 102 = .ok (.ireturn, 1) := by decide +kernel
theorem dX12_image_0 : decode cX12_image 0 = .ok (.aload_n 0, 1) := by decide +kernel
theorem dX12_image_1 : decode cX12_image 1 = .ok (.iconst 0, 1) := by decide +kernel
theorem dX12_image_2 : decode cX12_image 2 = .ok (.putfield 101, 3) := by decide +kernel
theorem dX12_image_5 : decode cX12_image 5 = .ok (.iload_n 1, 1) := by decide +kernel
theorem dX12_image_6 : decode cX12_image 6 = .ok (.i2l, 1) := by decide +kernel
theorem dX12_image_7 : decode cX12_image 7 = .ok (.lconst 0, 1) := by decide +kernel
theorem dX12_image_8 : decode cX12_image 8 = .ok (.lconst 1, 1) := by decide +kernel
theorem dX12_image_9 : decode cX12_image 9 = .ok (.invokestatic 111, 3) := by decide +kernel
theorem dX12_image_12 : decode cX12_image 12 = .ok (.ifCond .ne 6, 3) := by decide +kernel
theorem dX12_image_15 : decode cX12_image 15 = .ok (.ldc 121, 2) := by decide +kernel
theorem dX12_image_17 : decode cX12_image 17 = .ok (.ireturn, 1) := by decide +kernel
theorem dX12_image_18 : decode cX12_image 18 = .ok (.aload_n 0, 1) := by decide +kernel
theorem dX12_image_19 : decode cX12_image 19 = .ok (.getfield 221, 3) := by decide +kernel
theorem dX12_image_22 : decode cX12_image 22 = .ok (.ifCond .ne 6, 3) := by decide +kernel
theorem dX12_image_25 : decode cX12_image 25 = .ok (.ldc 253, 2) := by decide +kernel
theorem dX12_image_27 : decode cX12_image 27 = .ok (.ireturn, 1) := by decide +kernel
theorem dX12_image_28 : decode cX12_image 28 = .ok (.iconst 0, 1) := by decide +kernel
theorem dX12_image_29 : decode cX12_image 29 = .ok (.istore_n 2, 1) := by decide +kernel
theorem dX12_image_30 : decode cX12_image 30 = .ok (.iload_n 2, 1) := by decide +kernel
theorem dX12_image_31 : decode cX12_image 31 = .ok (.sipush 204, 3) := by decide +kernel
theorem dX12_image_34 : decode cX12_image 34 = .ok (.if_icmp .ge 27, 3) := by decide +kernel
theorem dX12_image_37 : decode cX12_image 37 = .ok (.aload_n 0, 1) := by decide +kernel
theorem dX12_image_38 : decode cX12_image 38 = .ok (.getfield 95, 3) := by decide +kernel
theorem dX12_image_41 : decode cX12_image 41 = .ok (.sipush 204, 3) := by decide +kernel
theorem dX12_image_44 : decode cX12_image 44 = .ok (.iload_n 1, 1) := by decide +kernel
theorem dX12_image_45 : decode cX12_image 45 = .ok (.imul, 1) := by decide +kernel
theorem dX12_image_46 : decode cX12_image 46 = .ok (.iload_n 2, 1) := by decide +kernel
theorem dX12_image_47 : decode cX12_image 47 = .ok (.iadd, 1) := by decide +kernel
theorem dX12_image_48 : decode cX12_image 48 = .ok (.aload_n 0, 1) := by decide +kernel
theorem dX12_image_49 : decode cX12_image 49 = .ok (.getfield 19, 3) := by decide +kernel
theorem dX12_image_52 : decode cX12_image 52 = .ok (.iload_n 2, 1) := by decide +kernel
theorem dX12_image_53 : decode cX12_image 53 = .ok (.iaload, 1) := by decide +kernel
theorem dX12_image_54 : decode cX12_image 54 = .ok (.iastore, 1) := by decide +kernel
theorem dX12_image_55 : decode cX12_image 55 = .ok (.iinc 2 1, 3) := by decide +kernel
theorem dX12_image_58 : decode cX12_image 58 = .ok (.goto (-28), 3) := by decide +kernel
theorem dX12_image_61 : decode cX12_image 61 = .ok (.aload_n 0, 1) := by decide +kernel
theorem dX12_image_62 : decode cX12_image 62 = .ok (.getfield 91, 3) := by decide +kernel
theorem dX12_image_65 : decode cX12_image 65 = .ok (.iload_n 1, 1) := by decide +kernel
theorem dX12_image_66 : decode cX12_image 66 = .ok (.iconst 1, 1) := by decide +kernel
theorem dX12_image_67 : decode cX12_image 67 = .ok (.bastore, 1) := by decide +kernel
theorem dX12_image_68 : decode cX12_image 68 = .ok (.iconst 1, 1) := by decide +kernel
theorem dX12_image_69 : decode cX12_image 69 = .ok (.ireturn, 1) := by decide +kernel
theorem dX12_restore_0 : decode cX12_restore 0 = .ok (.aload_n 0, 1) := by decide +kernel
theorem dX12_restore_1 : decode cX12_restore 1 = .ok (.iconst 0, 1) := by decide +kernel
theorem dX12_restore_2 : decode cX12_restore 2 = .ok (.putfield 101, 3) := by decide +kernel
theorem dX12_restore_5 : decode cX12_restore 5 = .ok (.iload_n 1, 1) := by decide +kernel
theorem dX12_restore_6 : decode cX12_restore 6 = .ok (.i2l, 1) := by decide +kernel
theorem dX12_restore_7 : decode cX12_restore 7 = .ok (.lconst 0, 1) := by decide +kernel
theorem dX12_restore_8 : decode cX12_restore 8 = .ok (.lconst 1, 1) := by decide +kernel
theorem dX12_restore_9 : decode cX12_restore 9 = .ok (.invokestatic 111, 3) := by decide +kernel
theorem dX12_restore_12 : decode cX12_restore 12 = .ok (.ifCond .ne 6, 3) := by decide +kernel
theorem dX12_restore_15 : decode cX12_restore 15 = .ok (.ldc 121, 2) := by decide +kernel
theorem dX12_restore_17 : decode cX12_restore 17 = .ok (.ireturn, 1) := by decide +kernel
theorem dX12_restore_18 : decode cX12_restore 18 = .ok (.aload_n 0, 1) := by decide +kernel
theorem dX12_restore_19 : decode cX12_restore 19 = .ok (.getfield 91, 3) := by decide +kernel
theorem dX12_restore_22 : decode cX12_restore 22 = .ok (.iload_n 1, 1) := by decide +kernel
theorem dX12_restore_23 : decode cX12_restore 23 = .ok (.baload, 1) := by decide +kernel
theorem dX12_restore_24 : decode cX12_restore 24 = .ok (.ifCond .ne 6, 3) := by decide +kernel
theorem dX12_restore_27 : decode cX12_restore 27 = .ok (.ldc 253, 2) := by decide +kernel
theorem dX12_restore_29 : decode cX12_restore 29 = .ok (.ireturn, 1) := by decide +kernel
theorem dX12_restore_30 : decode cX12_restore 30 = .ok (.iconst 0, 1) := by decide +kernel
theorem dX12_restore_31 : decode cX12_restore 31 = .ok (.istore_n 2, 1) := by decide +kernel
theorem dX12_restore_32 : decode cX12_restore 32 = .ok (.iload_n 2, 1) := by decide +kernel
theorem dX12_restore_33 : decode cX12_restore 33 = .ok (.sipush 204, 3) := by decide +kernel
theorem dX12_restore_36 : decode cX12_restore 36 = .ok (.if_icmp .ge 27, 3) := by decide +kernel
theorem dX12_restore_39 : decode cX12_restore 39 = .ok (.aload_n 0, 1) := by decide +kernel
theorem dX12_restore_40 : decode cX12_restore 40 = .ok (.getfield 19, 3) := by decide +kernel
theorem dX12_restore_43 : decode cX12_restore 43 = .ok (.iload_n 2, 1) := by decide +kernel
theorem dX12_restore_44 : decode cX12_restore 44 = .ok (.aload_n 0, 1) := by decide +kernel
theorem dX12_restore_45 : decode cX12_restore 45 = .ok (.getfield 95, 3) := by decide +kernel
theorem dX12_restore_48 : decode cX12_restore 48 = .ok (.sipush 204, 3) := by decide +kernel
theorem dX12_restore_51 : decode cX12_restore 51 = .ok (.iload_n 1, 1) := by decide +kernel
theorem dX12_restore_52 : decode cX12_restore 52 = .ok (.imul, 1) := by decide +kernel
theorem dX12_restore_53 : decode cX12_restore 53 = .ok (.iload_n 2, 1) := by decide +kernel
theorem dX12_restore_54 : decode cX12_restore 54 = .ok (.iadd, 1) := by decide +kernel
theorem dX12_restore_55 : decode cX12_restore 55 = .ok (.iaload, 1) := by decide +kernel
theorem dX12_restore_56 : decode cX12_restore 56 = .ok (.iastore, 1) := by decide +kernel
theorem dX12_restore_57 : decode cX12_restore 57 = .ok (.iinc 2 1, 3) := by decide +kernel
theorem dX12_restore_60 : decode cX12_restore 60 = .ok (.goto (-28), 3) := by decide +kernel
theorem dX12_restore_63 : decode cX12_restore 63 = .ok (.aload_n 0, 1) := by decide +kernel
theorem dX12_restore_64 : decode cX12_restore 64 = .ok (.invokevirtual 225, 3) := by decide +kernel
theorem dX12_restore_67 : decode cX12_restore 67 = .ok (.iconst 1, 1) := by decide +kernel
theorem dX12_restore_68 : decode cX12_restore 68 = .ok (.ireturn, 1) := by decide +kernel
theorem dX12_kindOf_0 : decode cX12_kindOf 0 = .ok (.aload_n 0, 1) := by decide +kernel
theorem dX12_kindOf_1 : decode cX12_kindOf 1 = .ok (.iload_n 1, 1) := by decide +kernel
theorem dX12_kindOf_2 : decode cX12_kindOf 2 = .ok (.iconst 0, 1) := by decide +kernel
theorem dX12_kindOf_3 : decode cX12_kindOf 3 = .ok (.invokevirtual 232, 3) := by decide +kernel
theorem dX12_kindOf_6 : decode cX12_kindOf 6 = .ok (.istore_n 2, 1) := by decide +kernel
theorem dX12_kindOf_7 : decode cX12_kindOf 7 = .ok (.iload_n 2, 1) := by decide +kernel
theorem dX12_kindOf_8 : decode cX12_kindOf 8 = .ok (.iconst 1, 1) := by decide +kernel
theorem dX12_kindOf_9 : decode cX12_kindOf 9 = .ok (.if_icmp .ne 18, 3) := by decide +kernel
theorem dX12_kindOf_12 : decode cX12_kindOf 12 = .ok (.aload_n 0, 1) := by decide +kernel
theorem dX12_kindOf_13 : decode cX12_kindOf 13 = .ok (.iload_n 1, 1) := by decide +kernel
theorem dX12_kindOf_14 : decode cX12_kindOf 14 = .ok (.iconst 3, 1) := by decide +kernel
theorem dX12_kindOf_15 : decode cX12_kindOf 15 = .ok (.invokevirtual 232, 3) := by decide +kernel
theorem dX12_kindOf_18 : decode cX12_kindOf 18 = .ok (.iconst 2, 1) := by decide +kernel
theorem dX12_kindOf_19 : decode cX12_kindOf 19 = .ok (.if_icmp .ne 8, 3) := by decide +kernel
theorem dX12_kindOf_22 : decode cX12_kindOf 22 = .ok (.bipush 6, 2) := by decide +kernel
theorem dX12_kindOf_24 : decode cX12_kindOf 24 = .ok (.goto 4, 3) := by decide +kernel
theorem dX12_kindOf_27 : decode cX12_kindOf 27 = .ok (.iload_n 2, 1) := by decide +kernel
theorem dX12_kindOf_28 : decode cX12_kindOf 28 = .ok (.ireturn, 1) := by decide +kernel
theorem dX12_isOf_0 : decode cX12_isOf 0 = .ok (.iload_n 1, 1) := by decide +kernel
theorem dX12_isOf_1 : decode cX12_isOf 1 = .ok (.ifCond .eq 29, 3) := by decide +kernel
theorem dX12_isOf_4 : decode cX12_isOf 4 = .ok (.iload_n 0, 1) := by decide +kernel
theorem dX12_isOf_5 : decode cX12_isOf 5 = .ok (.iload_n 1, 1) := by decide +kernel
theorem dX12_isOf_6 : decode cX12_isOf 6 = .ok (.if_icmp .eq 24, 3) := by decide +kernel
theorem dX12_isOf_9 : decode cX12_isOf 9 = .ok (.iload_n 1, 1) := by decide +kernel
theorem dX12_isOf_10 : decode cX12_isOf 10 = .ok (.iconst 1, 1) := by decide +kernel
theorem dX12_isOf_11 : decode cX12_isOf 11 = .ok (.if_icmp .ne 9, 3) := by decide +kernel
theorem dX12_isOf_14 : decode cX12_isOf 14 = .ok (.iload_n 0, 1) := by decide +kernel
theorem dX12_isOf_15 : decode cX12_isOf 15 = .ok (.bipush 6, 2) := by decide +kernel
theorem dX12_isOf_17 : decode cX12_isOf 17 = .ok (.if_icmp .eq 13, 3) := by decide +kernel
theorem dX12_isOf_20 : decode cX12_isOf 20 = .ok (.iload_n 1, 1) := by decide +kernel
theorem dX12_isOf_21 : decode cX12_isOf 21 = .ok (.iconst 4, 1) := by decide +kernel
theorem dX12_isOf_22 : decode cX12_isOf 22 = .ok (.if_icmp .ne 12, 3) := by decide +kernel
theorem dX12_isOf_25 : decode cX12_isOf 25 = .ok (.iload_n 0, 1) := by decide +kernel
theorem dX12_isOf_26 : decode cX12_isOf 26 = .ok (.iconst 5, 1) := by decide +kernel
theorem dX12_isOf_27 : decode cX12_isOf 27 = .ok (.if_icmp .ne 7, 3) := by decide +kernel
theorem dX12_isOf_30 : decode cX12_isOf 30 = .ok (.iconst 1, 1) := by decide +kernel
theorem dX12_isOf_31 : decode cX12_isOf 31 = .ok (.goto 4, 3) := by decide +kernel
theorem dX12_isOf_34 : decode cX12_isOf 34 = .ok (.iconst 0, 1) := by decide +kernel
theorem dX12_isOf_35 : decode cX12_isOf 35 = .ok (.ireturn, 1) := by decide +kernel
theorem dX12_kind_0 : decode cX12_kind 0 = .ok (.aload_n 0, 1) := by decide +kernel
theorem dX12_kind_1 : decode cX12_kind 1 = .ok (.iconst 0, 1) := by decide +kernel
theorem dX12_kind_2 : decode cX12_kind 2 = .ok (.putfield 101, 3) := by decide +kernel
theorem dX12_kind_5 : decode cX12_kind 5 = .ok (.aload_n 0, 1) := by decide +kernel
theorem dX12_kind_6 : decode cX12_kind 6 = .ok (.iload_n 1, 1) := by decide +kernel
theorem dX12_kind_7 : decode cX12_kind 7 = .ok (.invokevirtual 246, 3) := by decide +kernel
theorem dX12_kind_10 : decode cX12_kind 10 = .ok (.ifCond .eq 11, 3) := by decide +kernel
theorem dX12_kind_13 : decode cX12_kind 13 = .ok (.aload_n 0, 1) := by decide +kernel
theorem dX12_kind_14 : decode cX12_kind 14 = .ok (.iload_n 1, 1) := by decide +kernel
theorem dX12_kind_15 : decode cX12_kind 15 = .ok (.invokevirtual 350, 3) := by decide +kernel
theorem dX12_kind_18 : decode cX12_kind 18 = .ok (.goto 5, 3) := by decide +kernel
theorem dX12_kind_21 : decode cX12_kind 21 = .ok (.ldc 121, 2) := by decide +kernel
theorem dX12_kind_23 : decode cX12_kind 23 = .ok (.ireturn, 1) := by decide +kernel
theorem dX12_as_0 : decode cX12_as 0 = .ok (.aload_n 0, 1) := by decide +kernel
theorem dX12_as_1 : decode cX12_as 1 = .ok (.iconst 0, 1) := by decide +kernel
theorem dX12_as_2 : decode cX12_as 2 = .ok (.putfield 101, 3) := by decide +kernel
theorem dX12_as_5 : decode cX12_as 5 = .ok (.aload_n 0, 1) := by decide +kernel
theorem dX12_as_6 : decode cX12_as 6 = .ok (.iload_n 1, 1) := by decide +kernel
theorem dX12_as_7 : decode cX12_as 7 = .ok (.invokevirtual 246, 3) := by decide +kernel
theorem dX12_as_10 : decode cX12_as 10 = .ok (.ifCond .eq 15, 3) := by decide +kernel
theorem dX12_as_13 : decode cX12_as 13 = .ok (.iload_n 2, 1) := by decide +kernel
theorem dX12_as_14 : decode cX12_as 14 = .ok (.i2l, 1) := by decide +kernel
theorem dX12_as_15 : decode cX12_as 15 = .ok (.lconst 0, 1) := by decide +kernel
theorem dX12_as_16 : decode cX12_as 16 = .ok (.ldc2_w 353, 3) := by decide +kernel
theorem dX12_as_19 : decode cX12_as 19 = .ok (.invokestatic 111, 3) := by decide +kernel
theorem dX12_as_22 : decode cX12_as 22 = .ok (.ifCond .ne 6, 3) := by decide +kernel
theorem dX12_as_25 : decode cX12_as 25 = .ok (.ldc 121, 2) := by decide +kernel
theorem dX12_as_27 : decode cX12_as 27 = .ok (.ireturn, 1) := by decide +kernel
theorem dX12_as_28 : decode cX12_as 28 = .ok (.aload_n 0, 1) := by decide +kernel
theorem dX12_as_29 : decode cX12_as 29 = .ok (.iconst 0, 1) := by decide +kernel
theorem dX12_as_30 : decode cX12_as 30 = .ok (.putfield 105, 3) := by decide +kernel
theorem dX12_as_33 : decode cX12_as 33 = .ok (.aload_n 0, 1) := by decide +kernel
theorem dX12_as_34 : decode cX12_as 34 = .ok (.iload_n 1, 1) := by decide +kernel
theorem dX12_as_35 : decode cX12_as 35 = .ok (.invokevirtual 350, 3) := by decide +kernel
theorem dX12_as_38 : decode cX12_as 38 = .ok (.iload_n 2, 1) := by decide +kernel
theorem dX12_as_39 : decode cX12_as 39 = .ok (.invokestatic 355, 3) := by decide +kernel
theorem dX12_as_42 : decode cX12_as 42 = .ok (.ifCond .eq 7, 3) := by decide +kernel
theorem dX12_as_45 : decode cX12_as 45 = .ok (.iload_n 1, 1) := by decide +kernel
theorem dX12_as_46 : decode cX12_as 46 = .ok (.goto 8, 3) := by decide +kernel
theorem dX12_as_49 : decode cX12_as 49 = .ok (.aload_n 0, 1) := by decide +kernel
theorem dX12_as_50 : decode cX12_as 50 = .ok (.iconst 3, 1) := by decide +kernel
theorem dX12_as_51 : decode cX12_as 51 = .ok (.invokevirtual 122, 3) := by decide +kernel
theorem dX12_as_54 : decode cX12_as 54 = .ok (.ireturn, 1) := by decide +kernel
theorem dX12_began_0 : decode cX12_began 0 = .ok (.aload_n 0, 1) := by decide +kernel
theorem dX12_began_1 : decode cX12_began 1 = .ok (.getfield 358, 3) := by decide +kernel
theorem dX12_began_4 : decode cX12_began 4 = .ok (.bipush 16, 2) := by decide +kernel
theorem dX12_began_6 : decode cX12_began 6 = .ok (.if_icmp .ge 23, 3) := by decide +kernel
theorem dX12_began_9 : decode cX12_began 9 = .ok (.aload_n 0, 1) := by decide +kernel
theorem dX12_began_10 : decode cX12_began 10 = .ok (.getfield 98, 3) := by decide +kernel
theorem dX12_began_13 : decode cX12_began 13 = .ok (.aload_n 0, 1) := by decide +kernel
theorem dX12_began_14 : decode cX12_began 14 = .ok (.getfield 358, 3) := by decide +kernel
theorem dX12_began_17 : decode cX12_began 17 = .ok (.iload_n 1, 1) := by decide +kernel
theorem dX12_began_18 : decode cX12_began 18 = .ok (.iastore, 1) := by decide +kernel
theorem dX12_began_19 : decode cX12_began 19 = .ok (.aload_n 0, 1) := by decide +kernel
theorem dX12_began_20 : decode cX12_began 20 = .ok (.dup, 1) := by decide +kernel
theorem dX12_began_21 : decode cX12_began 21 = .ok (.getfield 358, 3) := by decide +kernel
theorem dX12_began_24 : decode cX12_began 24 = .ok (.iconst 1, 1) := by decide +kernel
theorem dX12_began_25 : decode cX12_began 25 = .ok (.iadd, 1) := by decide +kernel
theorem dX12_began_26 : decode cX12_began 26 = .ok (.putfield 358, 3) := by decide +kernel
theorem dX12_began_29 : decode cX12_began 29 = .ok (.return_, 1) := by decide +kernel
theorem dX12_markOf_0 : decode cX12_markOf 0 = .ok (.iload_n 2, 1) := by decide +kernel
theorem dX12_markOf_1 : decode cX12_markOf 1 = .ok (.iconst 5, 1) := by decide +kernel
theorem dX12_markOf_2 : decode cX12_markOf 2 = .ok (.if_icmp .eq 14, 3) := by decide +kernel
theorem dX12_markOf_5 : decode cX12_markOf 5 = .ok (.iload_n 2, 1) := by decide +kernel
theorem dX12_markOf_6 : decode cX12_markOf 6 = .ok (.iconst 3, 1) := by decide +kernel
theorem dX12_markOf_7 : decode cX12_markOf 7 = .ok (.if_icmp .eq 9, 3) := by decide +kernel
theorem dX12_markOf_10 : decode cX12_markOf 10 = .ok (.iload_n 2, 1) := by decide +kernel
theorem dX12_markOf_11 : decode cX12_markOf 11 = .ok (.bipush 6, 2) := by decide +kernel
theorem dX12_markOf_13 : decode cX12_markOf 13 = .ok (.if_icmp .ne 29, 3) := by decide +kernel
theorem dX12_markOf_16 : decode cX12_markOf 16 = .ok (.aload_n 0, 1) := by decide +kernel
theorem dX12_markOf_17 : decode cX12_markOf 17 = .ok (.iload_n 2, 1) := by decide +kernel
theorem dX12_markOf_18 : decode cX12_markOf 18 = .ok (.iconst 5, 1) := by decide +kernel
theorem dX12_markOf_19 : decode cX12_markOf 19 = .ok (.if_icmp .ne 8, 3) := by decide +kernel
theorem dX12_markOf_22 : decode cX12_markOf 22 = .ok (.bipush 22, 2) := by decide +kernel
theorem dX12_markOf_24 : decode cX12_markOf 24 = .ok (.goto 15, 3) := by decide +kernel
theorem dX12_markOf_27 : decode cX12_markOf 27 = .ok (.iload_n 2, 1) := by decide +kernel
theorem dX12_markOf_28 : decode cX12_markOf 28 = .ok (.iconst 3, 1) := by decide +kernel
theorem dX12_markOf_29 : decode cX12_markOf 29 = .ok (.if_icmp .ne 8, 3) := by decide +kernel
theorem dX12_markOf_32 : decode cX12_markOf 32 = .ok (.bipush 23, 2) := by decide +kernel
theorem dX12_markOf_34 : decode cX12_markOf 34 = .ok (.goto 5, 3) := by decide +kernel
theorem dX12_markOf_37 : decode cX12_markOf 37 = .ok (.bipush 24, 2) := by decide +kernel
theorem dX12_markOf_39 : decode cX12_markOf 39 = .ok (.invokevirtual 361, 3) := by decide +kernel
theorem dX12_markOf_42 : decode cX12_markOf 42 = .ok (.iload_n 2, 1) := by decide +kernel
theorem dX12_markOf_43 : decode cX12_markOf 43 = .ok (.iconst 4, 1) := by decide +kernel
theorem dX12_markOf_44 : decode cX12_markOf 44 = .ok (.invokestatic 355, 3) := by decide +kernel
theorem dX12_markOf_47 : decode cX12_markOf 47 = .ok (.ifCond .eq 9, 3) := by decide +kernel
theorem dX12_markOf_50 : decode cX12_markOf 50 = .ok (.aload_n 0, 1) := by decide +kernel
theorem dX12_markOf_51 : decode cX12_markOf 51 = .ok (.bipush 21, 2) := by decide +kernel
theorem dX12_markOf_53 : decode cX12_markOf 53 = .ok (.invokevirtual 361, 3) := by decide +kernel
theorem dX12_markOf_56 : decode cX12_markOf 56 = .ok (.aload_n 0, 1) := by decide +kernel
theorem dX12_markOf_57 : decode cX12_markOf 57 = .ok (.bipush 20, 2) := by decide +kernel
theorem dX12_markOf_59 : decode cX12_markOf 59 = .ok (.invokevirtual 361, 3) := by decide +kernel
theorem dX12_markOf_62 : decode cX12_markOf 62 = .ok (.iload_n 2, 1) := by decide +kernel
theorem dX12_markOf_63 : decode cX12_markOf 63 = .ok (.iconst 3, 1) := by decide +kernel
theorem dX12_markOf_64 : decode cX12_markOf 64 = .ok (.if_icmp .ne 18, 3) := by decide +kernel
theorem dX12_markOf_67 : decode cX12_markOf 67 = .ok (.aload_n 0, 1) := by decide +kernel
theorem dX12_markOf_68 : decode cX12_markOf 68 = .ok (.bipush 10, 2) := by decide +kernel
theorem dX12_markOf_70 : decode cX12_markOf 70 = .ok (.invokevirtual 361, 3) := by decide +kernel
theorem dX12_markOf_73 : decode cX12_markOf 73 = .ok (.iload_n 1, 1) := by decide +kernel
theorem dX12_markOf_74 : decode cX12_markOf 74 = .ok (.aload_n 0, 1) := by decide +kernel
theorem dX12_markOf_75 : decode cX12_markOf 75 = .ok (.iload_n 1, 1) := by decide +kernel
theorem dX12_markOf_76 : decode cX12_markOf 76 = .ok (.iconst 1, 1) := by decide +kernel
theorem dX12_markOf_77 : decode cX12_markOf 77 = .ok (.invokevirtual 232, 3) := by decide +kernel
theorem dX12_markOf_80 : decode cX12_markOf 80 = .ok (.iadd, 1) := by decide +kernel
theorem dX12_markOf_81 : decode cX12_markOf 81 = .ok (.ireturn, 1) := by decide +kernel
theorem dX12_markOf_82 : decode cX12_markOf 82 = .ok (.iload_n 2, 1) := by decide +kernel
theorem dX12_markOf_83 : decode cX12_markOf 83 = .ok (.iconst 4, 1) := by decide +kernel
theorem dX12_markOf_84 : decode cX12_markOf 84 = .ok (.invokestatic 355, 3) := by decide +kernel
theorem dX12_markOf_87 : decode cX12_markOf 87 = .ok (.ifCond .eq 10, 3) := by decide +kernel
theorem dX12_markOf_90 : decode cX12_markOf 90 = .ok (.iload_n 1, 1) := by decide +kernel
theorem dX12_markOf_91 : decode cX12_markOf 91 = .ok (.bipush 50, 2) := by decide +kernel
theorem dX12_markOf_93 : decode cX12_markOf 93 = .ok (.iadd, 1) := by decide +kernel
theorem dX12_markOf_94 : decode cX12_markOf 94 = .ok (.goto 4, 3) := by decide +kernel
theorem dX12_markOf_97 : decode cX12_markOf 97 = .ok (.iload_n 1, 1) := by decide +kernel
theorem dX12_markOf_98 : decode cX12_markOf 98 = .ok (.istore_n 3, 1) := by decide +kernel
theorem dX12_markOf_99 : decode cX12_markOf 99 = .ok (.iload_n 2, 1) := by decide +kernel
theorem dX12_markOf_100 : decode cX12_markOf 100 = .ok (.iconst 5, 1) := by decide +kernel
theorem dX12_markOf_101 : decode cX12_markOf 101 = .ok (.if_icmp .ne 14, 3) := by decide +kernel
theorem dX12_markOf_104 : decode cX12_markOf 104 = .ok (.iload_n 3, 1) := by decide +kernel
theorem dX12_markOf_105 : decode cX12_markOf 105 = .ok (.aload_n 0, 1) := by decide +kernel
theorem dX12_markOf_106 : decode cX12_markOf 106 = .ok (.iload_n 1, 1) := by decide +kernel
theorem dX12_markOf_107 : decode cX12_markOf 107 = .ok (.iconst 4, 1) := by decide +kernel
theorem dX12_markOf_108 : decode cX12_markOf 108 = .ok (.invokevirtual 232, 3) := by decide +kernel
theorem dX12_markOf_111 : decode cX12_markOf 111 = .ok (.iadd, 1) := by decide +kernel
theorem dX12_markOf_112 : decode cX12_markOf 112 = .ok (.goto 15, 3) := by decide +kernel
theorem dX12_markOf_115 : decode cX12_markOf 115 = .ok (.iload_n 2, 1) := by decide +kernel
theorem dX12_markOf_116 : decode cX12_markOf 116 = .ok (.bipush 6, 2) := by decide +kernel
theorem dX12_markOf_118 : decode cX12_markOf 118 = .ok (.if_icmp .ne 8, 3) := by decide +kernel
theorem dX12_markOf_121 : decode cX12_markOf 121 = .ok (.iload_n 3, 1) := by decide +kernel
theorem dX12_markOf_122 : decode cX12_markOf 122 = .ok (.ineg, 1) := by decide +kernel
theorem dX12_markOf_123 : decode cX12_markOf 123 = .ok (.goto 4, 3) := by decide +kernel
theorem dX12_markOf_126 : decode cX12_markOf 126 = .ok (.iload_n 3, 1) := by decide +kernel
theorem dX12_markOf_127 : decode cX12_markOf 127 = .ok (.ireturn, 1) := by decide +kernel
theorem dX12_sizeOf_0 : decode cX12_sizeOf 0 = .ok (.iload_n 2, 1) := by decide +kernel
theorem dX12_sizeOf_1 : decode cX12_sizeOf 1 = .ok (.bipush 6, 2) := by decide +kernel
theorem dX12_sizeOf_3 : decode cX12_sizeOf 3 = .ok (.if_icmp .eq 13, 3) := by decide +kernel
theorem dX12_sizeOf_6 : decode cX12_sizeOf 6 = .ok (.iload_n 2, 1) := by decide +kernel
theorem dX12_sizeOf_7 : decode cX12_sizeOf 7 = .ok (.iconst 2, 1) := by decide +kernel
theorem dX12_sizeOf_8 : decode cX12_sizeOf 8 = .ok (.if_icmp .eq 8, 3) := by decide +kernel
theorem dX12_sizeOf_11 : decode cX12_sizeOf 11 = .ok (.iload_n 2, 1) := by decide +kernel
theorem dX12_sizeOf_12 : decode cX12_sizeOf 12 = .ok (.iconst 5, 1) := by decide +kernel
theorem dX12_sizeOf_13 : decode cX12_sizeOf 13 = .ok (.if_icmp .ne 30, 3) := by decide +kernel
theorem dX12_sizeOf_16 : decode cX12_sizeOf 16 = .ok (.aload_n 0, 1) := by decide +kernel
theorem dX12_sizeOf_17 : decode cX12_sizeOf 17 = .ok (.iload_n 2, 1) := by decide +kernel
theorem dX12_sizeOf_18 : decode cX12_sizeOf 18 = .ok (.bipush 6, 2) := by decide +kernel
theorem dX12_sizeOf_20 : decode cX12_sizeOf 20 = .ok (.if_icmp .ne 8, 3) := by decide +kernel
theorem dX12_sizeOf_23 : decode cX12_sizeOf 23 = .ok (.bipush 12, 2) := by decide +kernel
theorem dX12_sizeOf_25 : decode cX12_sizeOf 25 = .ok (.goto 15, 3) := by decide +kernel
theorem dX12_sizeOf_28 : decode cX12_sizeOf 28 = .ok (.iload_n 2, 1) := by decide +kernel
theorem dX12_sizeOf_29 : decode cX12_sizeOf 29 = .ok (.iconst 2, 1) := by decide +kernel
theorem dX12_sizeOf_30 : decode cX12_sizeOf 30 = .ok (.if_icmp .ne 8, 3) := by decide +kernel
theorem dX12_sizeOf_33 : decode cX12_sizeOf 33 = .ok (.bipush 13, 2) := by decide +kernel
theorem dX12_sizeOf_35 : decode cX12_sizeOf 35 = .ok (.goto 5, 3) := by decide +kernel
theorem dX12_sizeOf_38 : decode cX12_sizeOf 38 = .ok (.bipush 14, 2) := by decide +kernel
theorem dX12_sizeOf_40 : decode cX12_sizeOf 40 = .ok (.invokevirtual 361, 3) := by decide +kernel
theorem dX12_sizeOf_43 : decode cX12_sizeOf 43 = .ok (.iload_n 2, 1) := by decide +kernel
theorem dX12_sizeOf_44 : decode cX12_sizeOf 44 = .ok (.iconst 1, 1) := by decide +kernel
theorem dX12_sizeOf_45 : decode cX12_sizeOf 45 = .ok (.invokestatic 355, 3) := by decide +kernel
theorem dX12_sizeOf_48 : decode cX12_sizeOf 48 = .ok (.istore_n 3, 1) := by decide +kernel
theorem dX12_sizeOf_49 : decode cX12_sizeOf 49 = .ok (.iload_n 3, 1) := by decide +kernel
theorem dX12_sizeOf_50 : decode cX12_sizeOf 50 = .ok (.ifCond .eq 9, 3) := by decide +kernel
theorem dX12_sizeOf_53 : decode cX12_sizeOf 53 = .ok (.aload_n 0, 1) := by decide +kernel
theorem dX12_sizeOf_54 : decode cX12_sizeOf 54 = .ok (.bipush 11, 2) := by decide +kernel
theorem dX12_sizeOf_56 : decode cX12_sizeOf 56 = .ok (.invokevirtual 361, 3) := by decide +kernel
theorem dX12_sizeOf_59 : decode cX12_sizeOf 59 = .ok (.aload_n 0, 1) := by decide +kernel
theorem dX12_sizeOf_60 : decode cX12_sizeOf 60 = .ok (.bipush 10, 2) := by decide +kernel
theorem dX12_sizeOf_62 : decode cX12_sizeOf 62 = .ok (.invokevirtual 361, 3) := by decide +kernel
theorem dX12_sizeOf_65 : decode cX12_sizeOf 65 = .ok (.aload_n 0, 1) := by decide +kernel
theorem dX12_sizeOf_66 : decode cX12_sizeOf 66 = .ok (.iload_n 1, 1) := by decide +kernel
theorem dX12_sizeOf_67 : decode cX12_sizeOf 67 = .ok (.iconst 1, 1) := by decide +kernel
theorem dX12_sizeOf_68 : decode cX12_sizeOf 68 = .ok (.invokevirtual 232, 3) := by decide +kernel
theorem dX12_sizeOf_71 : decode cX12_sizeOf 71 = .ok (.iload_n 3, 1) := by decide +kernel
theorem dX12_sizeOf_72 : decode cX12_sizeOf 72 = .ok (.ifCond .eq 15, 3) := by decide +kernel
theorem dX12_sizeOf_75 : decode cX12_sizeOf 75 = .ok (.bipush 10, 2) := by decide +kernel
theorem dX12_sizeOf_77 : decode cX12_sizeOf 77 = .ok (.aload_n 0, 1) := by decide +kernel
theorem dX12_sizeOf_78 : decode cX12_sizeOf 78 = .ok (.iload_n 1, 1) := by decide +kernel
theorem dX12_sizeOf_79 : decode cX12_sizeOf 79 = .ok (.iconst 4, 1) := by decide +kernel
theorem dX12_sizeOf_80 : decode cX12_sizeOf 80 = .ok (.invokevirtual 232, 3) := by decide +kernel
theorem dX12_sizeOf_83 : decode cX12_sizeOf 83 = .ok (.imul, 1) := by decide +kernel
theorem dX12_sizeOf_84 : decode cX12_sizeOf 84 = .ok (.goto 4, 3) := by decide +kernel
theorem dX12_sizeOf_87 : decode cX12_sizeOf 87 = .ok (.iconst 0, 1) := by decide +kernel
theorem dX12_sizeOf_88 : decode cX12_sizeOf 88 = .ok (.iadd, 1) := by decide +kernel
theorem dX12_sizeOf_89 : decode cX12_sizeOf 89 = .ok (.istore 4, 2) := by decide +kernel
theorem dX12_sizeOf_91 : decode cX12_sizeOf 91 = .ok (.iload_n 2, 1) := by decide +kernel
theorem dX12_sizeOf_92 : decode cX12_sizeOf 92 = .ok (.bipush 6, 2) := by decide +kernel
theorem dX12_sizeOf_94 : decode cX12_sizeOf 94 = .ok (.if_icmp .ne 10, 3) := by decide +kernel
theorem dX12_sizeOf_97 : decode cX12_sizeOf 97 = .ok (.iconst 2, 1) := by decide +kernel
theorem dX12_sizeOf_98 : decode cX12_sizeOf 98 = .ok (.iload 4, 2) := by decide +kernel
theorem dX12_sizeOf_100 : decode cX12_sizeOf 100 = .ok (.imul, 1) := by decide +kernel
theorem dX12_sizeOf_101 : decode cX12_sizeOf 101 = .ok (.goto 46, 3) := by decide +kernel
theorem dX12_sizeOf_104 : decode cX12_sizeOf 104 = .ok (.iload_n 2, 1) := by decide +kernel
theorem dX12_sizeOf_105 : decode cX12_sizeOf 105 = .ok (.iconst 2, 1) := by decide +kernel
theorem dX12_sizeOf_106 : decode cX12_sizeOf 106 = .ok (.if_icmp .ne 22, 3) := by decide +kernel
theorem dX12_sizeOf_109 : decode cX12_sizeOf 109 = .ok (.iload 4, 2) := by decide +kernel
theorem dX12_sizeOf_111 : decode cX12_sizeOf 111 = .ok (.aload_n 0, 1) := by decide +kernel
theorem dX12_sizeOf_112 : decode cX12_sizeOf 112 = .ok (.iload_n 1, 1) := by decide +kernel
theorem dX12_sizeOf_113 : decode cX12_sizeOf 113 = .ok (.iconst 5, 1) := by decide +kernel
theorem dX12_sizeOf_114 : decode cX12_sizeOf 114 = .ok (.invokevirtual 232, 3) := by decide +kernel
theorem dX12_sizeOf_117 : decode cX12_sizeOf 117 = .ok (.iadd, 1) := by decide +kernel
theorem dX12_sizeOf_118 : decode cX12_sizeOf 118 = .ok (.aload_n 0, 1) := by decide +kernel
theorem dX12_sizeOf_119 : decode cX12_sizeOf 119 = .ok (.iload_n 1, 1) := by decide +kernel
theorem dX12_sizeOf_120 : decode cX12_sizeOf 120 = .ok (.iconst 4, 1) := by decide +kernel
theorem dX12_sizeOf_121 : decode cX12_sizeOf 121 = .ok (.invokevirtual 232, 3) := by decide +kernel
theorem dX12_sizeOf_124 : decode cX12_sizeOf 124 = .ok (.isub, 1) := by decide +kernel
theorem dX12_sizeOf_125 : decode cX12_sizeOf 125 = .ok (.goto 22, 3) := by decide +kernel
theorem dX12_sizeOf_128 : decode cX12_sizeOf 128 = .ok (.iload_n 2, 1) := by decide +kernel
theorem dX12_sizeOf_129 : decode cX12_sizeOf 129 = .ok (.iconst 5, 1) := by decide +kernel
theorem dX12_sizeOf_130 : decode cX12_sizeOf 130 = .ok (.if_icmp .ne 15, 3) := by decide +kernel
theorem dX12_sizeOf_133 : decode cX12_sizeOf 133 = .ok (.iload 4, 2) := by decide +kernel
theorem dX12_sizeOf_135 : decode cX12_sizeOf 135 = .ok (.aload_n 0, 1) := by decide +kernel
theorem dX12_sizeOf_136 : decode cX12_sizeOf 136 = .ok (.iload_n 1, 1) := by decide +kernel
theorem dX12_sizeOf_137 : decode cX12_sizeOf 137 = .ok (.iload_n 2, 1) := by decide +kernel
theorem dX12_sizeOf_138 : decode cX12_sizeOf 138 = .ok (.invokevirtual 364, 3) := by decide +kernel
theorem dX12_sizeOf_141 : decode cX12_sizeOf 141 = .ok (.isub, 1) := by decide +kernel
theorem dX12_sizeOf_142 : decode cX12_sizeOf 142 = .ok (.goto 5, 3) := by decide +kernel
theorem dX12_sizeOf_145 : decode cX12_sizeOf 145 = .ok (.iload 4, 2) := by decide +kernel
theorem dX12_sizeOf_147 : decode cX12_sizeOf 147 = .ok (.ireturn, 1) := by decide +kernel
theorem dX12_ask_0 : decode cX12_ask 0 = .ok (.aload_n 0, 1) := by decide +kernel
theorem dX12_ask_1 : decode cX12_ask 1 = .ok (.iconst 0, 1) := by decide +kernel
theorem dX12_ask_2 : decode cX12_ask 2 = .ok (.putfield 101, 3) := by decide +kernel
theorem dX12_ask_5 : decode cX12_ask 5 = .ok (.aload_n 0, 1) := by decide +kernel
theorem dX12_ask_6 : decode cX12_ask 6 = .ok (.iload_n 1, 1) := by decide +kernel
theorem dX12_ask_7 : decode cX12_ask 7 = .ok (.invokevirtual 246, 3) := by decide +kernel
theorem dX12_ask_10 : decode cX12_ask 10 = .ok (.ifCond .eq 13, 3) := by decide +kernel
theorem dX12_ask_13 : decode cX12_ask 13 = .ok (.iload_n 2, 1) := by decide +kernel
theorem dX12_ask_14 : decode cX12_ask 14 = .ok (.i2l, 1) := by decide +kernel
theorem dX12_ask_15 : decode cX12_ask 15 = .ok (.lconst 0, 1) := by decide +kernel
theorem dX12_ask_16 : decode cX12_ask 16 = .ok (.lconst 1, 1) := by decide +kernel
theorem dX12_ask_17 : decode cX12_ask 17 = .ok (.invokestatic 111, 3) := by decide +kernel
theorem dX12_ask_20 : decode cX12_ask 20 = .ok (.ifCond .ne 6, 3) := by decide +kernel
theorem dX12_ask_23 : decode cX12_ask 23 = .ok (.ldc 121, 2) := by decide +kernel
theorem dX12_ask_25 : decode cX12_ask 25 = .ok (.ireturn, 1) := by decide +kernel
theorem dX12_ask_26 : decode cX12_ask 26 = .ok (.aload_n 0, 1) := by decide +kernel
theorem dX12_ask_27 : decode cX12_ask 27 = .ok (.iconst 0, 1) := by decide +kernel
theorem dX12_ask_28 : decode cX12_ask 28 = .ok (.putfield 358, 3) := by decide +kernel
theorem dX12_ask_31 : decode cX12_ask 31 = .ok (.iload_n 2, 1) := by decide +kernel
theorem dX12_ask_32 : decode cX12_ask 32 = .ok (.ifCond .ne 16, 3) := by decide +kernel
theorem dX12_ask_35 : decode cX12_ask 35 = .ok (.aload_n 0, 1) := by decide +kernel
theorem dX12_ask_36 : decode cX12_ask 36 = .ok (.iload_n 1, 1) := by decide +kernel
theorem dX12_ask_37 : decode cX12_ask 37 = .ok (.aload_n 0, 1) := by decide +kernel
theorem dX12_ask_38 : decode cX12_ask 38 = .ok (.iload_n 1, 1) := by decide +kernel
theorem dX12_ask_39 : decode cX12_ask 39 = .ok (.invokevirtual 350, 3) := by decide +kernel
theorem dX12_ask_42 : decode cX12_ask 42 = .ok (.invokevirtual 367, 3) := by decide +kernel
theorem dX12_ask_45 : decode cX12_ask 45 = .ok (.goto 13, 3) := by decide +kernel
theorem dX12_ask_48 : decode cX12_ask 48 = .ok (.aload_n 0, 1) := by decide +kernel
theorem dX12_ask_49 : decode cX12_ask 49 = .ok (.iload_n 1, 1) := by decide +kernel
theorem dX12_ask_50 : decode cX12_ask 50 = .ok (.aload_n 0, 1) := by decide +kernel
theorem dX12_ask_51 : decode cX12_ask 51 = .ok (.iload_n 1, 1) := by decide +kernel
theorem dX12_ask_52 : decode cX12_ask 52 = .ok (.invokevirtual 350, 3) := by decide +kernel
theorem dX12_ask_55 : decode cX12_ask 55 = .ok (.invokevirtual 364, 3) := by decide +kernel
theorem dX12_ask_58 : decode cX12_ask 58 = .ok (.ireturn, 1) := by decide +kernel
theorem dX12_trace_0 : decode cX12_trace 0 = .ok (.aload_n 0, 1) := by decide +kernel
theorem dX12_trace_1 : decode cX12_trace 1 = .ok (.iconst 0, 1) := by decide +kernel
theorem dX12_trace_2 : decode cX12_trace 2 = .ok (.putfield 101, 3) := by decide +kernel
theorem dX12_trace_5 : decode cX12_trace 5 = .ok (.iload_n 1, 1) := by decide +kernel
theorem dX12_trace_6 : decode cX12_trace 6 = .ok (.i2l, 1) := by decide +kernel
theorem dX12_trace_7 : decode cX12_trace 7 = .ok (.lconst 0, 1) := by decide +kernel
theorem dX12_trace_8 : decode cX12_trace 8 = .ok (.aload_n 0, 1) := by decide +kernel
theorem dX12_trace_9 : decode cX12_trace 9 = .ok (.getfield 358, 3) := by decide +kernel
theorem dX12_trace_12 : decode cX12_trace 12 = .ok (.iconst 1, 1) := by decide +kernel
theorem dX12_trace_13 : decode cX12_trace 13 = .ok (.isub, 1) := by decide +kernel
theorem dX12_trace_14 : decode cX12_trace 14 = .ok (.i2l, 1) := by decide +kernel
theorem dX12_trace_15 : decode cX12_trace 15 = .ok (.invokestatic 111, 3) := by decide +kernel
theorem dX12_trace_18 : decode cX12_trace 18 = .ok (.ifCond .eq 12, 3) := by decide +kernel
theorem dX12_trace_21 : decode cX12_trace 21 = .ok (.aload_n 0, 1) := by decide +kernel
theorem dX12_trace_22 : decode cX12_trace 22 = .ok (.getfield 98, 3) := by decide +kernel
theorem dX12_trace_25 : decode cX12_trace 25 = .ok (.iload_n 1, 1) := by decide +kernel
theorem dX12_trace_26 : decode cX12_trace 26 = .ok (.iaload, 1) := by decide +kernel
theorem dX12_trace_27 : decode cX12_trace 27 = .ok (.goto 5, 3) := by decide +kernel
theorem dX12_trace_30 : decode cX12_trace 30 = .ok (.ldc 137, 2) := by decide +kernel
theorem dX12_trace_32 : decode cX12_trace 32 = .ok (.ireturn, 1) := by decide +kernel
theorem dX12_count_0 : decode cX12_count 0 = .ok (.aload_n 0, 1) := by decide +kernel
theorem dX12_count_1 : decode cX12_count 1 = .ok (.iconst 0, 1) := by decide +kernel
theorem dX12_count_2 : decode cX12_count 2 = .ok (.putfield 101, 3) := by decide +kernel
theorem dX12_count_5 : decode cX12_count 5 = .ok (.iconst 0, 1) := by decide +kernel
theorem dX12_count_6 : decode cX12_count 6 = .ok (.istore_n 2, 1) := by decide +kernel
theorem dX12_count_7 : decode cX12_count 7 = .ok (.iload_n 1, 1) := by decide +kernel
theorem dX12_count_8 : decode cX12_count 8 = .ok (.tableswitch 193 0 7 #[48, 81, 89, 97, 109, 159, 167, 172], 48) := by decide +kernel
theorem dX12_count_56 : decode cX12_count 56 = .ok (.iconst 0, 1) := by decide +kernel
theorem dX12_count_57 : decode cX12_count 57 = .ok (.istore_n 3, 1) := by decide +kernel
theorem dX12_count_58 : decode cX12_count 58 = .ok (.iload_n 3, 1) := by decide +kernel
theorem dX12_count_59 : decode cX12_count 59 = .ok (.bipush 8, 2) := by decide +kernel
theorem dX12_count_61 : decode cX12_count 61 = .ok (.if_icmp .ge 26, 3) := by decide +kernel
theorem dX12_count_64 : decode cX12_count 64 = .ok (.iload_n 2, 1) := by decide +kernel
theorem dX12_count_65 : decode cX12_count 65 = .ok (.aload_n 0, 1) := by decide +kernel
theorem dX12_count_66 : decode cX12_count 66 = .ok (.getfield 7, 3) := by decide +kernel
theorem dX12_count_69 : decode cX12_count 69 = .ok (.iload_n 3, 1) := by decide +kernel
theorem dX12_count_70 : decode cX12_count 70 = .ok (.iaload, 1) := by decide +kernel
theorem dX12_count_71 : decode cX12_count 71 = .ok (.ifCond .lt 7, 3) := by decide +kernel
theorem dX12_count_74 : decode cX12_count 74 = .ok (.iconst 1, 1) := by decide +kernel
theorem dX12_count_75 : decode cX12_count 75 = .ok (.goto 4, 3) := by decide +kernel
theorem dX12_count_78 : decode cX12_count 78 = .ok (.iconst 0, 1) := by decide +kernel
theorem dX12_count_79 : decode cX12_count 79 = .ok (.iadd, 1) := by decide +kernel
theorem dX12_count_80 : decode cX12_count 80 = .ok (.istore_n 2, 1) := by decide +kernel
theorem dX12_count_81 : decode cX12_count 81 = .ok (.iinc 3 1, 3) := by decide +kernel
theorem dX12_count_84 : decode cX12_count 84 = .ok (.goto (-26), 3) := by decide +kernel
theorem dX12_count_87 : decode cX12_count 87 = .ok (.iload_n 2, 1) := by decide +kernel
theorem dX12_count_88 : decode cX12_count 88 = .ok (.ireturn, 1) := by decide +kernel
theorem dX12_count_89 : decode cX12_count 89 = .ok (.aload_n 0, 1) := by decide +kernel
theorem dX12_count_90 : decode cX12_count 90 = .ok (.getfield 19, 3) := by decide +kernel
theorem dX12_count_93 : decode cX12_count 93 = .ok (.bipush 16, 2) := by decide +kernel
theorem dX12_count_95 : decode cX12_count 95 = .ok (.iaload, 1) := by decide +kernel
theorem dX12_count_96 : decode cX12_count 96 = .ok (.ireturn, 1) := by decide +kernel
