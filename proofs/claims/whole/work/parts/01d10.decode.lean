theorem dX12_seek_132 : decode cX12_seek 132 = .ok (.aload_n 0, 1) := by decide +kernel
theorem dX12_seek_133 : decode cX12_seek 133 = .ok (.getfield 52, 3) := by decide +kernel
theorem dX12_seek_136 : decode cX12_seek 136 = .ok (.iload 9, 2) := by decide +kernel
theorem dX12_seek_138 : decode cX12_seek 138 = .ok (.iaload, 1) := by decide +kernel
theorem dX12_seek_139 : decode cX12_seek 139 = .ok (.iconst 1, 1) := by decide +kernel
theorem dX12_seek_140 : decode cX12_seek 140 = .ok (.aload_n 0, 1) := by decide +kernel
theorem dX12_seek_141 : decode cX12_seek 141 = .ok (.iload 10, 2) := by decide +kernel
theorem dX12_seek_143 : decode cX12_seek 143 = .ok (.iconst 0, 1) := by decide +kernel
theorem dX12_seek_144 : decode cX12_seek 144 = .ok (.invokevirtual 228, 3) := by decide +kernel
theorem dX12_seek_147 : decode cX12_seek 147 = .ok (.iadd, 1) := by decide +kernel
theorem dX12_seek_148 : decode cX12_seek 148 = .ok (.irem, 1) := by decide +kernel
theorem dX12_seek_149 : decode cX12_seek 149 = .ok (.ifCond .gt 133, 3) := by decide +kernel
theorem dX12_seek_152 : decode cX12_seek 152 = .ok (.aload_n 0, 1) := by decide +kernel
theorem dX12_seek_153 : decode cX12_seek 153 = .ok (.iload 9, 2) := by decide +kernel
theorem dX12_seek_155 : decode cX12_seek 155 = .ok (.iload_n 2, 1) := by decide +kernel
theorem dX12_seek_156 : decode cX12_seek 156 = .ok (.iload_n 3, 1) := by decide +kernel
theorem dX12_seek_157 : decode cX12_seek 157 = .ok (.iload 4, 2) := by decide +kernel
theorem dX12_seek_159 : decode cX12_seek 159 = .ok (.invokevirtual 292, 3) := by decide +kernel
theorem dX12_seek_162 : decode cX12_seek 162 = .ok (.ifCond .eq 120, 3) := by decide +kernel
theorem dX12_seek_165 : decode cX12_seek 165 = .ok (.iload 8, 2) := by decide +kernel
theorem dX12_seek_167 : decode cX12_seek 167 = .ok (.ifCond .eq 19, 3) := by decide +kernel
theorem dX12_seek_170 : decode cX12_seek 170 = .ok (.aload_n 0, 1) := by decide +kernel
theorem dX12_seek_171 : decode cX12_seek 171 = .ok (.getfield 55, 3) := by decide +kernel
theorem dX12_seek_174 : decode cX12_seek 174 = .ok (.iload 9, 2) := by decide +kernel
theorem dX12_seek_176 : decode cX12_seek 176 = .ok (.iconst 1, 1) := by decide +kernel
theorem dX12_seek_177 : decode cX12_seek 177 = .ok (.iadd, 1) := by decide +kernel
theorem dX12_seek_178 : decode cX12_seek 178 = .ok (.iaload, 1) := by decide +kernel
theorem dX12_seek_179 : decode cX12_seek 179 = .ok (.aload_n 0, 1) := by decide +kernel
theorem dX12_seek_180 : decode cX12_seek 180 = .ok (.getfield 296, 3) := by decide +kernel
theorem dX12_seek_183 : decode cX12_seek 183 = .ok (.if_icmp .ge 99, 3) := by decide +kernel
theorem dX12_seek_186 : decode cX12_seek 186 = .ok (.iload 9, 2) := by decide +kernel
theorem dX12_seek_188 : decode cX12_seek 188 = .ok (.iload 7, 2) := by decide +kernel
theorem dX12_seek_190 : decode cX12_seek 190 = .ok (.iconst 1, 1) := by decide +kernel
theorem dX12_seek_191 : decode cX12_seek 191 = .ok (.isub, 1) := by decide +kernel
theorem dX12_seek_192 : decode cX12_seek 192 = .ok (.if_icmp .ge 17, 3) := by decide +kernel
theorem dX12_seek_195 : decode cX12_seek 195 = .ok (.iinc 9 1, 3) := by decide +kernel
theorem dX12_seek_198 : decode cX12_seek 198 = .ok (.aload_n 0, 1) := by decide +kernel
theorem dX12_seek_199 : decode cX12_seek 199 = .ok (.getfield 52, 3) := by decide +kernel
theorem dX12_seek_202 : decode cX12_seek 202 = .ok (.iload 9, 2) := by decide +kernel
theorem dX12_seek_204 : decode cX12_seek 204 = .ok (.iconst (-1), 1) := by decide +kernel
theorem dX12_seek_205 : decode cX12_seek 205 = .ok (.iastore, 1) := by decide +kernel
theorem dX12_seek_206 : decode cX12_seek 206 = .ok (.goto 76, 3) := by decide +kernel
theorem dX12_seek_209 : decode cX12_seek 209 = .ok (.iconst 1, 1) := by decide +kernel
theorem dX12_seek_210 : decode cX12_seek 210 = .ok (.istore 8, 2) := by decide +kernel
theorem dX12_seek_212 : decode cX12_seek 212 = .ok (.aload_n 0, 1) := by decide +kernel
theorem dX12_seek_213 : decode cX12_seek 213 = .ok (.aload_n 0, 1) := by decide +kernel
theorem dX12_seek_214 : decode cX12_seek 214 = .ok (.getfield 55, 3) := by decide +kernel
theorem dX12_seek_217 : decode cX12_seek 217 = .ok (.iload 7, 2) := by decide +kernel
theorem dX12_seek_219 : decode cX12_seek 219 = .ok (.iaload, 1) := by decide +kernel
theorem dX12_seek_220 : decode cX12_seek 220 = .ok (.putfield 296, 3) := by decide +kernel
theorem dX12_seek_223 : decode cX12_seek 223 = .ok (.iconst 0, 1) := by decide +kernel
theorem dX12_seek_224 : decode cX12_seek 224 = .ok (.istore 11, 2) := by decide +kernel
theorem dX12_seek_226 : decode cX12_seek 226 = .ok (.iload 11, 2) := by decide +kernel
theorem dX12_seek_228 : decode cX12_seek 228 = .ok (.iconst 4, 1) := by decide +kernel
theorem dX12_seek_229 : decode cX12_seek 229 = .ok (.if_icmp .ge 23, 3) := by decide +kernel
theorem dX12_seek_232 : decode cX12_seek 232 = .ok (.aload_n 0, 1) := by decide +kernel
theorem dX12_seek_233 : decode cX12_seek 233 = .ok (.getfield 61, 3) := by decide +kernel
theorem dX12_seek_236 : decode cX12_seek 236 = .ok (.iload 11, 2) := by decide +kernel
theorem dX12_seek_238 : decode cX12_seek 238 = .ok (.aload_n 0, 1) := by decide +kernel
theorem dX12_seek_239 : decode cX12_seek 239 = .ok (.getfield 52, 3) := by decide +kernel
theorem dX12_seek_242 : decode cX12_seek 242 = .ok (.iload 11, 2) := by decide +kernel
theorem dX12_seek_244 : decode cX12_seek 244 = .ok (.iaload, 1) := by decide +kernel
theorem dX12_seek_245 : decode cX12_seek 245 = .ok (.iastore, 1) := by decide +kernel
theorem dX12_seek_246 : decode cX12_seek 246 = .ok (.iinc 11 1, 3) := by decide +kernel
theorem dX12_seek_249 : decode cX12_seek 249 = .ok (.goto (-23), 3) := by decide +kernel
theorem dX12_seek_252 : decode cX12_seek 252 = .ok (.iconst 0, 1) := by decide +kernel
theorem dX12_seek_253 : decode cX12_seek 253 = .ok (.istore 11, 2) := by decide +kernel
theorem dX12_seek_255 : decode cX12_seek 255 = .ok (.iload 11, 2) := by decide +kernel
theorem dX12_seek_257 : decode cX12_seek 257 = .ok (.bipush 12, 2) := by decide +kernel
theorem dX12_seek_259 : decode cX12_seek 259 = .ok (.if_icmp .ge 23, 3) := by decide +kernel
theorem dX12_seek_262 : decode cX12_seek 262 = .ok (.aload_n 0, 1) := by decide +kernel
theorem dX12_seek_263 : decode cX12_seek 263 = .ok (.getfield 64, 3) := by decide +kernel
theorem dX12_seek_266 : decode cX12_seek 266 = .ok (.iload 11, 2) := by decide +kernel
theorem dX12_seek_268 : decode cX12_seek 268 = .ok (.aload_n 0, 1) := by decide +kernel
theorem dX12_seek_269 : decode cX12_seek 269 = .ok (.getfield 58, 3) := by decide +kernel
theorem dX12_seek_272 : decode cX12_seek 272 = .ok (.iload 11, 2) := by decide +kernel
theorem dX12_seek_274 : decode cX12_seek 274 = .ok (.iaload, 1) := by decide +kernel
theorem dX12_seek_275 : decode cX12_seek 275 = .ok (.iastore, 1) := by decide +kernel
theorem dX12_seek_276 : decode cX12_seek 276 = .ok (.iinc 11 1, 3) := by decide +kernel
theorem dX12_seek_279 : decode cX12_seek 279 = .ok (.goto (-24), 3) := by decide +kernel
theorem dX12_seek_282 : decode cX12_seek 282 = .ok (.goto (-212), 3) := by decide +kernel
theorem dX12_seek_285 : decode cX12_seek 285 = .ok (.iload 8, 2) := by decide +kernel
theorem dX12_seek_287 : decode cX12_seek 287 = .ok (.ireturn, 1) := by decide +kernel
theorem dX12_forget_0 : decode cX12_forget 0 = .ok (.aload_n 0, 1) := by decide +kernel
theorem dX12_forget_1 : decode cX12_forget 1 = .ok (.ldc 137, 2) := by decide +kernel
theorem dX12_forget_3 : decode cX12_forget 3 = .ok (.putfield 299, 3) := by decide +kernel
theorem dX12_forget_6 : decode cX12_forget 6 = .ok (.aload_n 0, 1) := by decide +kernel
theorem dX12_forget_7 : decode cX12_forget 7 = .ok (.iconst 0, 1) := by decide +kernel
theorem dX12_forget_8 : decode cX12_forget 8 = .ok (.putfield 268, 3) := by decide +kernel
theorem dX12_forget_11 : decode cX12_forget 11 = .ok (.return_, 1) := by decide +kernel
theorem dX12_isBy_0 : decode cX12_isBy 0 = .ok (.iload_n 0, 1) := by decide +kernel
theorem dX12_isBy_1 : decode cX12_isBy 1 = .ok (.i2l, 1) := by decide +kernel
theorem dX12_isBy_2 : decode cX12_isBy 2 = .ok (.lconst 1, 1) := by decide +kernel
theorem dX12_isBy_3 : decode cX12_isBy 3 = .ok (.ldc2_w 266, 3) := by decide +kernel
theorem dX12_isBy_6 : decode cX12_isBy 6 = .ok (.invokestatic 111, 3) := by decide +kernel
theorem dX12_isBy_9 : decode cX12_isBy 9 = .ok (.ireturn, 1) := by decide +kernel
theorem dX12_layRow_0 : decode cX12_layRow 0 = .ok (.aload_n 0, 1) := by decide +kernel
theorem dX12_layRow_1 : decode cX12_layRow 1 = .ok (.iconst 0, 1) := by decide +kernel
theorem dX12_layRow_2 : decode cX12_layRow 2 = .ok (.putfield 302, 3) := by decide +kernel
theorem dX12_layRow_5 : decode cX12_layRow 5 = .ok (.iconst 0, 1) := by decide +kernel
theorem dX12_layRow_6 : decode cX12_layRow 6 = .ok (.istore_n 1, 1) := by decide +kernel
theorem dX12_layRow_7 : decode cX12_layRow 7 = .ok (.iconst 0, 1) := by decide +kernel
theorem dX12_layRow_8 : decode cX12_layRow 8 = .ok (.istore_n 2, 1) := by decide +kernel
theorem dX12_layRow_9 : decode cX12_layRow 9 = .ok (.iload_n 2, 1) := by decide +kernel
theorem dX12_layRow_10 : decode cX12_layRow 10 = .ok (.aload_n 0, 1) := by decide +kernel
theorem dX12_layRow_11 : decode cX12_layRow 11 = .ok (.getfield 19, 3) := by decide +kernel
theorem dX12_layRow_14 : decode cX12_layRow 14 = .ok (.bipush 16, 2) := by decide +kernel
theorem dX12_layRow_16 : decode cX12_layRow 16 = .ok (.iaload, 1) := by decide +kernel
theorem dX12_layRow_17 : decode cX12_layRow 17 = .ok (.if_icmp .ge 102, 3) := by decide +kernel
theorem dX12_layRow_20 : decode cX12_layRow 20 = .ok (.aload_n 0, 1) := by decide +kernel
theorem dX12_layRow_21 : decode cX12_layRow 21 = .ok (.getfield 19, 3) := by decide +kernel
theorem dX12_layRow_24 : decode cX12_layRow 24 = .ok (.sipush 202, 3) := by decide +kernel
theorem dX12_layRow_27 : decode cX12_layRow 27 = .ok (.iaload, 1) := by decide +kernel
theorem dX12_layRow_28 : decode cX12_layRow 28 = .ok (.iload_n 2, 1) := by decide +kernel
theorem dX12_layRow_29 : decode cX12_layRow 29 = .ok (.ishr, 1) := by decide +kernel
theorem dX12_layRow_30 : decode cX12_layRow 30 = .ok (.iconst 1, 1) := by decide +kernel
theorem dX12_layRow_31 : decode cX12_layRow 31 = .ok (.iand, 1) := by decide +kernel
theorem dX12_layRow_32 : decode cX12_layRow 32 = .ok (.iconst 1, 1) := by decide +kernel
theorem dX12_layRow_33 : decode cX12_layRow 33 = .ok (.if_icmp .ne 80, 3) := by decide +kernel
theorem dX12_layRow_36 : decode cX12_layRow 36 = .ok (.iconst 0, 1) := by decide +kernel
theorem dX12_layRow_37 : decode cX12_layRow 37 = .ok (.istore_n 3, 1) := by decide +kernel
theorem dX12_layRow_38 : decode cX12_layRow 38 = .ok (.iload_n 3, 1) := by decide +kernel
theorem dX12_layRow_39 : decode cX12_layRow 39 = .ok (.aload_n 0, 1) := by decide +kernel
theorem dX12_layRow_40 : decode cX12_layRow 40 = .ok (.iload_n 2, 1) := by decide +kernel
theorem dX12_layRow_41 : decode cX12_layRow 41 = .ok (.iconst 3, 1) := by decide +kernel
theorem dX12_layRow_42 : decode cX12_layRow 42 = .ok (.invokevirtual 228, 3) := by decide +kernel
theorem dX12_layRow_45 : decode cX12_layRow 45 = .ok (.if_icmp .ge 65, 3) := by decide +kernel
theorem dX12_layRow_48 : decode cX12_layRow 48 = .ok (.aload_n 0, 1) := by decide +kernel
theorem dX12_layRow_49 : decode cX12_layRow 49 = .ok (.getfield 76, 3) := by decide +kernel
theorem dX12_layRow_52 : decode cX12_layRow 52 = .ok (.aload_n 0, 1) := by decide +kernel
theorem dX12_layRow_53 : decode cX12_layRow 53 = .ok (.getfield 302, 3) := by decide +kernel
theorem dX12_layRow_56 : decode cX12_layRow 56 = .ok (.aload_n 0, 1) := by decide +kernel
theorem dX12_layRow_57 : decode cX12_layRow 57 = .ok (.iload_n 2, 1) := by decide +kernel
theorem dX12_layRow_58 : decode cX12_layRow 58 = .ok (.iconst 4, 1) := by decide +kernel
theorem dX12_layRow_59 : decode cX12_layRow 59 = .ok (.invokevirtual 228, 3) := by decide +kernel
theorem dX12_layRow_62 : decode cX12_layRow 62 = .ok (.iload_n 3, 1) := by decide +kernel
theorem dX12_layRow_63 : decode cX12_layRow 63 = .ok (.iadd, 1) := by decide +kernel
theorem dX12_layRow_64 : decode cX12_layRow 64 = .ok (.iastore, 1) := by decide +kernel
theorem dX12_layRow_65 : decode cX12_layRow 65 = .ok (.aload_n 0, 1) := by decide +kernel
theorem dX12_layRow_66 : decode cX12_layRow 66 = .ok (.getfield 79, 3) := by decide +kernel
theorem dX12_layRow_69 : decode cX12_layRow 69 = .ok (.aload_n 0, 1) := by decide +kernel
theorem dX12_layRow_70 : decode cX12_layRow 70 = .ok (.getfield 302, 3) := by decide +kernel
theorem dX12_layRow_73 : decode cX12_layRow 73 = .ok (.aload_n 0, 1) := by decide +kernel
theorem dX12_layRow_74 : decode cX12_layRow 74 = .ok (.getfield 73, 3) := by decide +kernel
theorem dX12_layRow_77 : decode cX12_layRow 77 = .ok (.iconst 3, 1) := by decide +kernel
theorem dX12_layRow_78 : decode cX12_layRow 78 = .ok (.iload_n 1, 1) := by decide +kernel
theorem dX12_layRow_79 : decode cX12_layRow 79 = .ok (.imul, 1) := by decide +kernel
theorem dX12_layRow_80 : decode cX12_layRow 80 = .ok (.iload_n 3, 1) := by decide +kernel
theorem dX12_layRow_81 : decode cX12_layRow 81 = .ok (.iadd, 1) := by decide +kernel
theorem dX12_layRow_82 : decode cX12_layRow 82 = .ok (.iaload, 1) := by decide +kernel
theorem dX12_layRow_83 : decode cX12_layRow 83 = .ok (.iastore, 1) := by decide +kernel
theorem dX12_layRow_84 : decode cX12_layRow 84 = .ok (.aload_n 0, 1) := by decide +kernel
theorem dX12_layRow_85 : decode cX12_layRow 85 = .ok (.getfield 82, 3) := by decide +kernel
theorem dX12_layRow_88 : decode cX12_layRow 88 = .ok (.aload_n 0, 1) := by decide +kernel
theorem dX12_layRow_89 : decode cX12_layRow 89 = .ok (.getfield 302, 3) := by decide +kernel
theorem dX12_layRow_92 : decode cX12_layRow 92 = .ok (.iconst 0, 1) := by decide +kernel
theorem dX12_layRow_93 : decode cX12_layRow 93 = .ok (.iastore, 1) := by decide +kernel
theorem dX12_layRow_94 : decode cX12_layRow 94 = .ok (.aload_n 0, 1) := by decide +kernel
theorem dX12_layRow_95 : decode cX12_layRow 95 = .ok (.dup, 1) := by decide +kernel
theorem dX12_layRow_96 : decode cX12_layRow 96 = .ok (.getfield 302, 3) := by decide +kernel
theorem dX12_layRow_99 : decode cX12_layRow 99 = .ok (.iconst 1, 1) := by decide +kernel
theorem dX12_layRow_100 : decode cX12_layRow 100 = .ok (.iadd, 1) := by decide +kernel
theorem dX12_layRow_101 : decode cX12_layRow 101 = .ok (.putfield 302, 3) := by decide +kernel
theorem dX12_layRow_104 : decode cX12_layRow 104 = .ok (.iinc 3 1, 3) := by decide +kernel
theorem dX12_layRow_107 : decode cX12_layRow 107 = .ok (.goto (-69), 3) := by decide +kernel
theorem dX12_layRow_110 : decode cX12_layRow 110 = .ok (.iinc 1 1, 3) := by decide +kernel
theorem dX12_layRow_113 : decode cX12_layRow 113 = .ok (.iinc 2 1, 3) := by decide +kernel
theorem dX12_layRow_116 : decode cX12_layRow 116 = .ok (.goto (-107), 3) := by decide +kernel
theorem dX12_layRow_119 : decode cX12_layRow 119 = .ok (.return_, 1) := by decide +kernel
theorem dX12_know_0 : decode cX12_know 0 = .ok (.aload_n 0, 1) := by decide +kernel
theorem dX12_know_1 : decode cX12_know 1 = .ok (.getfield 299, 3) := by decide +kernel
theorem dX12_know_4 : decode cX12_know 4 = .ok (.iload_n 1, 1) := by decide +kernel
theorem dX12_know_5 : decode cX12_know 5 = .ok (.if_icmp .eq 105, 3) := by decide +kernel
theorem dX12_know_8 : decode cX12_know 8 = .ok (.aload_n 0, 1) := by decide +kernel
theorem dX12_know_9 : decode cX12_know 9 = .ok (.iconst 0, 1) := by decide +kernel
theorem dX12_know_10 : decode cX12_know 10 = .ok (.putfield 268, 3) := by decide +kernel
theorem dX12_know_13 : decode cX12_know 13 = .ok (.aload_n 0, 1) := by decide +kernel
theorem dX12_know_14 : decode cX12_know 14 = .ok (.aload_n 0, 1) := by decide +kernel
theorem dX12_know_15 : decode cX12_know 15 = .ok (.aload_n 0, 1) := by decide +kernel
theorem dX12_know_16 : decode cX12_know 16 = .ok (.getfield 19, 3) := by decide +kernel
theorem dX12_know_19 : decode cX12_know 19 = .ok (.sipush 202, 3) := by decide +kernel
theorem dX12_know_22 : decode cX12_know 22 = .ok (.iaload, 1) := by decide +kernel
theorem dX12_know_23 : decode cX12_know 23 = .ok (.iload_n 1, 1) := by decide +kernel
theorem dX12_know_24 : decode cX12_know 24 = .ok (.aload_n 0, 1) := by decide +kernel
theorem dX12_know_25 : decode cX12_know 25 = .ok (.getfield 19, 3) := by decide +kernel
theorem dX12_know_28 : decode cX12_know 28 = .ok (.iconst 5, 1) := by decide +kernel
theorem dX12_know_29 : decode cX12_know 29 = .ok (.iaload, 1) := by decide +kernel
theorem dX12_know_30 : decode cX12_know 30 = .ok (.aload_n 0, 1) := by decide +kernel
theorem dX12_know_31 : decode cX12_know 31 = .ok (.getfield 19, 3) := by decide +kernel
theorem dX12_know_34 : decode cX12_know 34 = .ok (.sipush 203, 3) := by decide +kernel
theorem dX12_know_37 : decode cX12_know 37 = .ok (.iaload, 1) := by decide +kernel
theorem dX12_know_38 : decode cX12_know 38 = .ok (.iconst 0, 1) := by decide +kernel
theorem dX12_know_39 : decode cX12_know 39 = .ok (.iconst 0, 1) := by decide +kernel
theorem dX12_know_40 : decode cX12_know 40 = .ok (.invokevirtual 305, 3) := by decide +kernel
theorem dX12_know_43 : decode cX12_know 43 = .ok (.putfield 309, 3) := by decide +kernel
theorem dX12_know_46 : decode cX12_know 46 = .ok (.aload_n 0, 1) := by decide +kernel
theorem dX12_know_47 : decode cX12_know 47 = .ok (.iload_n 1, 1) := by decide +kernel
theorem dX12_know_48 : decode cX12_know 48 = .ok (.putfield 299, 3) := by decide +kernel
theorem dX12_know_51 : decode cX12_know 51 = .ok (.aload_n 0, 1) := by decide +kernel
theorem dX12_know_52 : decode cX12_know 52 = .ok (.aload_n 0, 1) := by decide +kernel
theorem dX12_know_53 : decode cX12_know 53 = .ok (.getfield 296, 3) := by decide +kernel
theorem dX12_know_56 : decode cX12_know 56 = .ok (.putfield 312, 3) := by decide +kernel
theorem dX12_know_59 : decode cX12_know 59 = .ok (.iconst 0, 1) := by decide +kernel
theorem dX12_know_60 : decode cX12_know 60 = .ok (.istore_n 2, 1) := by decide +kernel
theorem dX12_know_61 : decode cX12_know 61 = .ok (.iload_n 2, 1) := by decide +kernel
theorem dX12_know_62 : decode cX12_know 62 = .ok (.iconst 4, 1) := by decide +kernel
theorem dX12_know_63 : decode cX12_know 63 = .ok (.if_icmp .ge 21, 3) := by decide +kernel
theorem dX12_know_66 : decode cX12_know 66 = .ok (.aload_n 0, 1) := by decide +kernel
theorem dX12_know_67 : decode cX12_know 67 = .ok (.getfield 70, 3) := by decide +kernel
theorem dX12_know_70 : decode cX12_know 70 = .ok (.iload_n 2, 1) := by decide +kernel
theorem dX12_know_71 : decode cX12_know 71 = .ok (.aload_n 0, 1) := by decide +kernel
theorem dX12_know_72 : decode cX12_know 72 = .ok (.getfield 61, 3) := by decide +kernel
theorem dX12_know_75 : decode cX12_know 75 = .ok (.iload_n 2, 1) := by decide +kernel
theorem dX12_know_76 : decode cX12_know 76 = .ok (.iaload, 1) := by decide +kernel
theorem dX12_know_77 : decode cX12_know 77 = .ok (.iastore, 1) := by decide +kernel
theorem dX12_know_78 : decode cX12_know 78 = .ok (.iinc 2 1, 3) := by decide +kernel
theorem dX12_know_81 : decode cX12_know 81 = .ok (.goto (-20), 3) := by decide +kernel
theorem dX12_know_84 : decode cX12_know 84 = .ok (.iconst 0, 1) := by decide +kernel
theorem dX12_know_85 : decode cX12_know 85 = .ok (.istore_n 2, 1) := by decide +kernel
theorem dX12_know_86 : decode cX12_know 86 = .ok (.iload_n 2, 1) := by decide +kernel
theorem dX12_know_87 : decode cX12_know 87 = .ok (.bipush 12, 2) := by decide +kernel
theorem dX12_know_89 : decode cX12_know 89 = .ok (.if_icmp .ge 21, 3) := by decide +kernel
theorem dX12_know_92 : decode cX12_know 92 = .ok (.aload_n 0, 1) := by decide +kernel
theorem dX12_know_93 : decode cX12_know 93 = .ok (.getfield 73, 3) := by decide +kernel
theorem dX12_know_96 : decode cX12_know 96 = .ok (.iload_n 2, 1) := by decide +kernel
theorem dX12_know_97 : decode cX12_know 97 = .ok (.aload_n 0, 1) := by decide +kernel
theorem dX12_know_98 : decode cX12_know 98 = .ok (.getfield 64, 3) := by decide +kernel
theorem dX12_know_101 : decode cX12_know 101 = .ok (.iload_n 2, 1) := by decide +kernel
theorem dX12_know_102 : decode cX12_know 102 = .ok (.iaload, 1) := by decide +kernel
theorem dX12_know_103 : decode cX12_know 103 = .ok (.iastore, 1) := by decide +kernel
theorem dX12_know_104 : decode cX12_know 104 = .ok (.iinc 2 1, 3) := by decide +kernel
theorem dX12_know_107 : decode cX12_know 107 = .ok (.goto (-21), 3) := by decide +kernel
theorem dX12_know_110 : decode cX12_know 110 = .ok (.aload_n 0, 1) := by decide +kernel
theorem dX12_know_111 : decode cX12_know 111 = .ok (.invokevirtual 315, 3) := by decide +kernel
theorem dX12_know_114 : decode cX12_know 114 = .ok (.aload_n 0, 1) := by decide +kernel
theorem dX12_know_115 : decode cX12_know 115 = .ok (.getfield 309, 3) := by decide +kernel
theorem dX12_know_118 : decode cX12_know 118 = .ok (.ireturn, 1) := by decide +kernel
theorem dX12_least_0 : decode cX12_least 0 = .ok (.aload_n 0, 1) := by decide +kernel
theorem dX12_least_1 : decode cX12_least 1 = .ok (.iconst 0, 1) := by decide +kernel
theorem dX12_least_2 : decode cX12_least 2 = .ok (.putfield 101, 3) := by decide +kernel
theorem dX12_least_5 : decode cX12_least 5 = .ok (.iload_n 1, 1) := by decide +kernel
theorem dX12_least_6 : decode cX12_least 6 = .ok (.invokestatic 318, 3) := by decide +kernel
theorem dX12_least_9 : decode cX12_least 9 = .ok (.ifCond .eq 8, 3) := by decide +kernel
theorem dX12_least_12 : decode cX12_least 12 = .ok (.iload_n 2, 1) := by decide +kernel
theorem dX12_least_13 : decode cX12_least 13 = .ok (.iconst (-1), 1) := by decide +kernel
theorem dX12_least_14 : decode cX12_least 14 = .ok (.if_icmp .ge 6, 3) := by decide +kernel
theorem dX12_least_17 : decode cX12_least 17 = .ok (.ldc 121, 2) := by decide +kernel
theorem dX12_least_19 : decode cX12_least 19 = .ok (.ireturn, 1) := by decide +kernel
theorem dX12_least_20 : decode cX12_least 20 = .ok (.aload_n 0, 1) := by decide +kernel
theorem dX12_least_21 : decode cX12_least 21 = .ok (.getfield 221, 3) := by decide +kernel
theorem dX12_least_24 : decode cX12_least 24 = .ok (.ifCond .ne 6, 3) := by decide +kernel
theorem dX12_least_27 : decode cX12_least 27 = .ok (.ldc 253, 2) := by decide +kernel
theorem dX12_least_29 : decode cX12_least 29 = .ok (.ireturn, 1) := by decide +kernel
theorem dX12_least_30 : decode cX12_least 30 = .ok (.aload_n 0, 1) := by decide +kernel
theorem dX12_least_31 : decode cX12_least 31 = .ok (.iload_n 1, 1) := by decide +kernel
theorem dX12_least_32 : decode cX12_least 32 = .ok (.invokevirtual 321, 3) := by decide +kernel
theorem dX12_least_35 : decode cX12_least 35 = .ok (.ifCond .ne 6, 3) := by decide +kernel
theorem dX12_least_38 : decode cX12_least 38 = .ok (.ldc 137, 2) := by decide +kernel
theorem dX12_least_40 : decode cX12_least 40 = .ok (.ireturn, 1) := by decide +kernel
theorem dX12_least_41 : decode cX12_least 41 = .ok (.iload_n 2, 1) := by decide +kernel
theorem dX12_least_42 : decode cX12_least 42 = .ok (.iconst (-1), 1) := by decide +kernel
theorem dX12_least_43 : decode cX12_least 43 = .ok (.if_icmp .ne 10, 3) := by decide +kernel
theorem dX12_least_46 : decode cX12_least 46 = .ok (.aload_n 0, 1) := by decide +kernel
theorem dX12_least_47 : decode cX12_least 47 = .ok (.getfield 312, 3) := by decide +kernel
theorem dX12_least_50 : decode cX12_least 50 = .ok (.goto 29, 3) := by decide +kernel
theorem dX12_least_53 : decode cX12_least 53 = .ok (.iload_n 2, 1) := by decide +kernel
theorem dX12_least_54 : decode cX12_least 54 = .ok (.aload_n 0, 1) := by decide +kernel
theorem dX12_least_55 : decode cX12_least 55 = .ok (.getfield 19, 3) := by decide +kernel
theorem dX12_least_58 : decode cX12_least 58 = .ok (.sipush 202, 3) := by decide +kernel
theorem dX12_least_61 : decode cX12_least 61 = .ok (.iaload, 1) := by decide +kernel
theorem dX12_least_62 : decode cX12_least 62 = .ok (.invokestatic 263, 3) := by decide +kernel
theorem dX12_least_65 : decode cX12_least 65 = .ok (.if_icmp .ge 12, 3) := by decide +kernel
theorem dX12_least_68 : decode cX12_least 68 = .ok (.aload_n 0, 1) := by decide +kernel
theorem dX12_least_69 : decode cX12_least 69 = .ok (.getfield 70, 3) := by decide +kernel
theorem dX12_least_72 : decode cX12_least 72 = .ok (.iload_n 2, 1) := by decide +kernel
theorem dX12_least_73 : decode cX12_least 73 = .ok (.iaload, 1) := by decide +kernel
theorem dX12_least_74 : decode cX12_least 74 = .ok (.goto 5, 3) := by decide +kernel
theorem dX12_least_77 : decode cX12_least 77 = .ok (.ldc 137, 2) := by decide +kernel
theorem dX12_least_79 : decode cX12_least 79 = .ok (.ireturn, 1) := by decide +kernel
theorem dX12_begins_0 : decode cX12_begins 0 = .ok (.aload_n 0, 1) := by decide +kernel
theorem dX12_begins_1 : decode cX12_begins 1 = .ok (.iconst 0, 1) := by decide +kernel
theorem dX12_begins_2 : decode cX12_begins 2 = .ok (.putfield 101, 3) := by decide +kernel
theorem dX12_begins_5 : decode cX12_begins 5 = .ok (.iload_n 1, 1) := by decide +kernel
theorem dX12_begins_6 : decode cX12_begins 6 = .ok (.invokestatic 318, 3) := by decide +kernel
theorem dX12_begins_9 : decode cX12_begins 9 = .ok (.ifCond .eq 7, 3) := by decide +kernel
theorem dX12_begins_12 : decode cX12_begins 12 = .ok (.iload_n 2, 1) := by decide +kernel
theorem dX12_begins_13 : decode cX12_begins 13 = .ok (.ifCond .ge 6, 3) := by decide +kernel
theorem dX12_begins_16 : decode cX12_begins 16 = .ok (.ldc 121, 2) := by decide +kernel
theorem dX12_begins_18 : decode cX12_begins 18 = .ok (.ireturn, 1) := by decide +kernel
theorem dX12_begins_19 : decode cX12_begins 19 = .ok (.aload_n 0, 1) := by decide +kernel
theorem dX12_begins_20 : decode cX12_begins 20 = .ok (.getfield 221, 3) := by decide +kernel
theorem dX12_begins_23 : decode cX12_begins 23 = .ok (.ifCond .ne 6, 3) := by decide +kernel
theorem dX12_begins_26 : decode cX12_begins 26 = .ok (.ldc 253, 2) := by decide +kernel
theorem dX12_begins_28 : decode cX12_begins 28 = .ok (.ireturn, 1) := by decide +kernel
theorem dX12_begins_29 : decode cX12_begins 29 = .ok (.aload_n 0, 1) := by decide +kernel
theorem dX12_begins_30 : decode cX12_begins 30 = .ok (.iload_n 1, 1) := by decide +kernel
theorem dX12_begins_31 : decode cX12_begins 31 = .ok (.invokevirtual 321, 3) := by decide +kernel
theorem dX12_begins_34 : decode cX12_begins 34 = .ok (.ifCond .eq 20, 3) := by decide +kernel
theorem dX12_begins_37 : decode cX12_begins 37 = .ok (.iload_n 2, 1) := by decide +kernel
theorem dX12_begins_38 : decode cX12_begins 38 = .ok (.aload_n 0, 1) := by decide +kernel
theorem dX12_begins_39 : decode cX12_begins 39 = .ok (.getfield 302, 3) := by decide +kernel
theorem dX12_begins_42 : decode cX12_begins 42 = .ok (.if_icmp .ge 12, 3) := by decide +kernel
theorem dX12_begins_45 : decode cX12_begins 45 = .ok (.aload_n 0, 1) := by decide +kernel
theorem dX12_begins_46 : decode cX12_begins 46 = .ok (.getfield 79, 3) := by decide +kernel
theorem dX12_begins_49 : decode cX12_begins 49 = .ok (.iload_n 2, 1) := by decide +kernel
theorem dX12_begins_50 : decode cX12_begins 50 = .ok (.iaload, 1) := by decide +kernel
theorem dX12_begins_51 : decode cX12_begins 51 = .ok (.goto 5, 3) := by decide +kernel
theorem dX12_begins_54 : decode cX12_begins 54 = .ok (.ldc 137, 2) := by decide +kernel
theorem dX12_begins_56 : decode cX12_begins 56 = .ok (.ireturn, 1) := by decide +kernel
theorem dX12_seven_0 : decode cX12_seven 0 = .ok (.aload_n 0, 1) := by decide +kernel
theorem dX12_seven_1 : decode cX12_seven 1 = .ok (.iconst 0, 1) := by decide +kernel
theorem dX12_seven_2 : decode cX12_seven 2 = .ok (.putfield 101, 3) := by decide +kernel
theorem dX12_seven_5 : decode cX12_seven 5 = .ok (.iload_n 1, 1) := by decide +kernel
theorem dX12_seven_6 : decode cX12_seven 6 = .ok (.invokestatic 318, 3) := by decide +kernel
theorem dX12_seven_9 : decode cX12_seven 9 = .ok (.ifCond .ne 6, 3) := by decide +kernel
theorem dX12_seven_12 : decode cX12_seven 12 = .ok (.ldc 121, 2) := by decide +kernel
theorem dX12_seven_14 : decode cX12_seven 14 = .ok (.ireturn, 1) := by decide +kernel
theorem dX12_seven_15 : decode cX12_seven 15 = .ok (.aload_n 0, 1) := by decide +kernel
theorem dX12_seven_16 : decode cX12_seven 16 = .ok (.getfield 221, 3) := by decide +kernel
theorem dX12_seven_19 : decode cX12_seven 19 = .ok (.ifCond .ne 6, 3) := by decide +kernel
theorem dX12_seven_22 : decode cX12_seven 22 = .ok (.ldc 253, 2) := by decide +kernel
theorem dX12_seven_24 : decode cX12_seven 24 = .ok (.ireturn, 1) := by decide +kernel
theorem dX12_seven_25 : decode cX12_seven 25 = .ok (.aload_n 0, 1) := by decide +kernel
theorem dX12_seven_26 : decode cX12_seven 26 = .ok (.iconst 0, 1) := by decide +kernel
theorem dX12_seven_27 : decode cX12_seven 27 = .ok (.putfield 268, 3) := by decide +kernel
theorem dX12_seven_30 : decode cX12_seven 30 = .ok (.aload_n 0, 1) := by decide +kernel
theorem dX12_seven_31 : decode cX12_seven 31 = .ok (.aload_n 0, 1) := by decide +kernel
theorem dX12_seven_32 : decode cX12_seven 32 = .ok (.getfield 19, 3) := by decide +kernel
theorem dX12_seven_35 : decode cX12_seven 35 = .ok (.sipush 202, 3) := by decide +kernel
theorem dX12_seven_38 : decode cX12_seven 38 = .ok (.iaload, 1) := by decide +kernel
theorem dX12_seven_39 : decode cX12_seven 39 = .ok (.iload_n 1, 1) := by decide +kernel
theorem dX12_seven_40 : decode cX12_seven 40 = .ok (.aload_n 0, 1) := by decide +kernel
theorem dX12_seven_41 : decode cX12_seven 41 = .ok (.getfield 19, 3) := by decide +kernel
theorem dX12_seven_44 : decode cX12_seven 44 = .ok (.iconst 5, 1) := by decide +kernel
theorem dX12_seven_45 : decode cX12_seven 45 = .ok (.iaload, 1) := by decide +kernel
theorem dX12_seven_46 : decode cX12_seven 46 = .ok (.aload_n 0, 1) := by decide +kernel
theorem dX12_seven_47 : decode cX12_seven 47 = .ok (.getfield 19, 3) := by decide +kernel
theorem dX12_seven_50 : decode cX12_seven 50 = .ok (.sipush 203, 3) := by decide +kernel
theorem dX12_seven_53 : decode cX12_seven 53 = .ok (.iaload, 1) := by decide +kernel
theorem dX12_seven_54 : decode cX12_seven 54 = .ok (.iconst 1, 1) := by decide +kernel
theorem dX12_seven_55 : decode cX12_seven 55 = .ok (.iconst 1, 1) := by decide +kernel
theorem dX12_seven_56 : decode cX12_seven 56 = .ok (.invokevirtual 305, 3) := by decide +kernel
theorem dX12_seven_59 : decode cX12_seven 59 = .ok (.ifCond .eq 7, 3) := by decide +kernel
theorem dX12_seven_62 : decode cX12_seven 62 = .ok (.iconst 1, 1) := by decide +kernel
theorem dX12_seven_63 : decode cX12_seven 63 = .ok (.goto 4, 3) := by decide +kernel
theorem dX12_seven_66 : decode cX12_seven 66 = .ok (.iconst 0, 1) := by decide +kernel
theorem dX12_seven_67 : decode cX12_seven 67 = .ok (.ireturn, 1) := by decide +kernel
theorem dX12_canBe_0 : decode cX12_canBe 0 = .ok (.aload_n 0, 1) := by decide +kernel
theorem dX12_canBe_1 : decode cX12_canBe 1 = .ok (.iconst 0, 1) := by decide +kernel
theorem dX12_canBe_2 : decode cX12_canBe 2 = .ok (.putfield 268, 3) := by decide +kernel
theorem dX12_canBe_5 : decode cX12_canBe 5 = .ok (.aload_n 0, 1) := by decide +kernel
theorem dX12_canBe_6 : decode cX12_canBe 6 = .ok (.iload_n 1, 1) := by decide +kernel
theorem dX12_canBe_7 : decode cX12_canBe 7 = .ok (.iload_n 2, 1) := by decide +kernel
theorem dX12_canBe_8 : decode cX12_canBe 8 = .ok (.iload_n 3, 1) := by decide +kernel
theorem dX12_canBe_9 : decode cX12_canBe 9 = .ok (.aload_n 0, 1) := by decide +kernel
theorem dX12_canBe_10 : decode cX12_canBe 10 = .ok (.getfield 19, 3) := by decide +kernel
theorem dX12_canBe_13 : decode cX12_canBe 13 = .ok (.sipush 203, 3) := by decide +kernel
theorem dX12_canBe_16 : decode cX12_canBe 16 = .ok (.iaload, 1) := by decide +kernel
theorem dX12_canBe_17 : decode cX12_canBe 17 = .ok (.iconst 0, 1) := by decide +kernel
theorem dX12_canBe_18 : decode cX12_canBe 18 = .ok (.iconst 1, 1) := by decide +kernel
theorem dX12_canBe_19 : decode cX12_canBe 19 = .ok (.invokevirtual 305, 3) := by decide +kernel
theorem dX12_canBe_22 : decode cX12_canBe 22 = .ok (.ireturn, 1) := by decide +kernel
theorem dX12_earliest_0 : decode cX12_earliest 0 = .ok (.aload_n 0, 1) := by decide +kernel
theorem dX12_earliest_1 : decode cX12_earliest 1 = .ok (.iconst 0, 1) := by decide +kernel
theorem dX12_earliest_2 : decode cX12_earliest 2 = .ok (.putfield 101, 3) := by decide +kernel
theorem dX12_earliest_5 : decode cX12_earliest 5 = .ok (.aload_n 0, 1) := by decide +kernel
theorem dX12_earliest_6 : decode cX12_earliest 6 = .ok (.getfield 221, 3) := by decide +kernel
theorem dX12_earliest_9 : decode cX12_earliest 9 = .ok (.ifCond .ne 6, 3) := by decide +kernel
theorem dX12_earliest_12 : decode cX12_earliest 12 = .ok (.ldc 253, 2) := by decide +kernel
theorem dX12_earliest_14 : decode cX12_earliest 14 = .ok (.ireturn, 1) := by decide +kernel
theorem dX12_earliest_15 : decode cX12_earliest 15 = .ok (.iconst 1, 1) := by decide +kernel
theorem dX12_earliest_16 : decode cX12_earliest 16 = .ok (.istore_n 1, 1) := by decide +kernel
theorem dX12_earliest_17 : decode cX12_earliest 17 = .ok (.iload_n 1, 1) := by decide +kernel
theorem dX12_earliest_18 : decode cX12_earliest 18 = .ok (.bipush 61, 2) := by decide +kernel
theorem dX12_earliest_20 : decode cX12_earliest 20 = .ok (.if_icmp .ge 33, 3) := by decide +kernel
theorem dX12_earliest_23 : decode cX12_earliest 23 = .ok (.aload_n 0, 1) := by decide +kernel
theorem dX12_earliest_24 : decode cX12_earliest 24 = .ok (.aload_n 0, 1) := by decide +kernel
theorem dX12_earliest_25 : decode cX12_earliest 25 = .ok (.getfield 19, 3) := by decide +kernel
theorem dX12_earliest_28 : decode cX12_earliest 28 = .ok (.sipush 202, 3) := by decide +kernel
theorem dX12_earliest_31 : decode cX12_earliest 31 = .ok (.iaload, 1) := by decide +kernel
theorem dX12_earliest_32 : decode cX12_earliest 32 = .ok (.iload_n 1, 1) := by decide +kernel
theorem dX12_earliest_33 : decode cX12_earliest 33 = .ok (.aload_n 0, 1) := by decide +kernel
theorem dX12_earliest_34 : decode cX12_earliest 34 = .ok (.getfield 19, 3) := by decide +kernel
theorem dX12_earliest_37 : decode cX12_earliest 37 = .ok (.iconst 5, 1) := by decide +kernel
theorem dX12_earliest_38 : decode cX12_earliest 38 = .ok (.iaload, 1) := by decide +kernel
theorem dX12_earliest_39 : decode cX12_earliest 39 = .ok (.invokevirtual 324, 3) := by decide +kernel
theorem dX12_earliest_42 : decode cX12_earliest 42 = .ok (.ifCond .eq 5, 3) := by decide +kernel
theorem dX12_earliest_45 : decode cX12_earliest 45 = .ok (.iload_n 1, 1) := by decide +kernel
theorem dX12_earliest_46 : decode cX12_earliest 46 = .ok (.ireturn, 1) := by decide +kernel
theorem dX12_earliest_47 : decode cX12_earliest 47 = .ok (.iinc 1 1, 3) := by decide +kernel
theorem dX12_earliest_50 : decode cX12_earliest 50 = .ok (.goto (-33), 3) := by decide +kernel
theorem dX12_earliest_53 : decode cX12_earliest 53 = .ok (.ldc 137, 2) := by decide +kernel
theorem dX12_earliest_55 : decode cX12_earliest 55 = .ok (.ireturn, 1) := by decide +kernel
theorem dX12_endOf_0 : decode cX12_endOf 0 = .ok (.aload_n 0, 1) := by decide +kernel
theorem dX12_endOf_1 : decode cX12_endOf 1 = .ok (.getfield 79, 3) := by decide +kernel
theorem dX12_endOf_4 : decode cX12_endOf 4 = .ok (.iload_n 1, 1) := by decide +kernel
theorem dX12_endOf_5 : decode cX12_endOf 5 = .ok (.iaload, 1) := by decide +kernel
theorem dX12_endOf_6 : decode cX12_endOf 6 = .ok (.aload_n 0, 1) := by decide +kernel
theorem dX12_endOf_7 : decode cX12_endOf 7 = .ok (.aload_n 0, 1) := by decide +kernel
theorem dX12_endOf_8 : decode cX12_endOf 8 = .ok (.getfield 76, 3) := by decide +kernel
theorem dX12_endOf_11 : decode cX12_endOf 11 = .ok (.iload_n 1, 1) := by decide +kernel
theorem dX12_endOf_12 : decode cX12_endOf 12 = .ok (.iaload, 1) := by decide +kernel
theorem dX12_endOf_13 : decode cX12_endOf 13 = .ok (.iconst 1, 1) := by decide +kernel
theorem dX12_endOf_14 : decode cX12_endOf 14 = .ok (.invokevirtual 232, 3) := by decide +kernel
theorem dX12_endOf_17 : decode cX12_endOf 17 = .ok (.iadd, 1) := by decide +kernel
theorem dX12_endOf_18 : decode cX12_endOf 18 = .ok (.aload_n 0, 1) := by decide +kernel
theorem dX12_endOf_19 : decode cX12_endOf 19 = .ok (.getfield 82, 3) := by decide +kernel
theorem dX12_endOf_22 : decode cX12_endOf 22 = .ok (.iload_n 1, 1) := by decide +kernel
theorem dX12_endOf_23 : decode cX12_endOf 23 = .ok (.iaload, 1) := by decide +kernel
theorem dX12_endOf_24 : decode cX12_endOf 24 = .ok (.iadd, 1) := by decide +kernel
theorem dX12_endOf_25 : decode cX12_endOf 25 = .ok (.ireturn, 1) := by decide +kernel
theorem dX12_isFirst_0 : decode cX12_isFirst 0 = .ok (.iload_n 1, 1) := by decide +kernel
theorem dX12_isFirst_1 : decode cX12_isFirst 1 = .ok (.ifCond .eq 28, 3) := by decide +kernel
theorem dX12_isFirst_4 : decode cX12_isFirst 4 = .ok (.aload_n 0, 1) := by decide +kernel
theorem dX12_isFirst_5 : decode cX12_isFirst 5 = .ok (.aload_n 0, 1) := by decide +kernel
theorem dX12_isFirst_6 : decode cX12_isFirst 6 = .ok (.getfield 76, 3) := by decide +kernel
theorem dX12_isFirst_9 : decode cX12_isFirst 9 = .ok (.iload_n 1, 1) := by decide +kernel
theorem dX12_isFirst_10 : decode cX12_isFirst 10 = .ok (.iaload, 1) := by decide +kernel
theorem dX12_isFirst_11 : decode cX12_isFirst 11 = .ok (.invokevirtual 328, 3) := by decide +kernel
theorem dX12_isFirst_14 : decode cX12_isFirst 14 = .ok (.aload_n 0, 1) := by decide +kernel
theorem dX12_isFirst_15 : decode cX12_isFirst 15 = .ok (.aload_n 0, 1) := by decide +kernel
theorem dX12_isFirst_16 : decode cX12_isFirst 16 = .ok (.getfield 76, 3) := by decide +kernel
theorem dX12_isFirst_19 : decode cX12_isFirst 19 = .ok (.iload_n 1, 1) := by decide +kernel
theorem dX12_isFirst_20 : decode cX12_isFirst 20 = .ok (.iconst 1, 1) := by decide +kernel
theorem dX12_isFirst_21 : decode cX12_isFirst 21 = .ok (.isub, 1) := by decide +kernel
theorem dX12_isFirst_22 : decode cX12_isFirst 22 = .ok (.iaload, 1) := by decide +kernel
theorem dX12_isFirst_23 : decode cX12_isFirst 23 = .ok (.invokevirtual 328, 3) := by decide +kernel
theorem dX12_isFirst_26 : decode cX12_isFirst 26 = .ok (.if_icmp .eq 7, 3) := by decide +kernel
theorem dX12_isFirst_29 : decode cX12_isFirst 29 = .ok (.iconst 1, 1) := by decide +kernel
theorem dX12_isFirst_30 : decode cX12_isFirst 30 = .ok (.goto 4, 3) := by decide +kernel
theorem dX12_isFirst_33 : decode cX12_isFirst 33 = .ok (.iconst 0, 1) := by decide +kernel
theorem dX12_isFirst_34 : decode cX12_isFirst 34 = .ok (.ireturn, 1) := by decide +kernel
theorem dX12_isLast_0 : decode cX12_isLast 0 = .ok (.iload_n 1, 1) := by decide +kernel
theorem dX12_isLast_1 : decode cX12_isLast 1 = .ok (.aload_n 0, 1) := by decide +kernel
theorem dX12_isLast_2 : decode cX12_isLast 2 = .ok (.getfield 302, 3) := by decide +kernel
theorem dX12_isLast_5 : decode cX12_isLast 5 = .ok (.iconst 1, 1) := by decide +kernel
theorem dX12_isLast_6 : decode cX12_isLast 6 = .ok (.isub, 1) := by decide +kernel
theorem dX12_isLast_7 : decode cX12_isLast 7 = .ok (.if_icmp .eq 28, 3) := by decide +kernel
theorem dX12_isLast_10 : decode cX12_isLast 10 = .ok (.aload_n 0, 1) := by decide +kernel
theorem dX12_isLast_11 : decode cX12_isLast 11 = .ok (.aload_n 0, 1) := by decide +kernel
theorem dX12_isLast_12 : decode cX12_isLast 12 = .ok (.getfield 76, 3) := by decide +kernel
theorem dX12_isLast_15 : decode cX12_isLast 15 = .ok (.iload_n 1, 1) := by decide +kernel
theorem dX12_isLast_16 : decode cX12_isLast 16 = .ok (.iaload, 1) := by decide +kernel
theorem dX12_isLast_17 : decode cX12_isLast 17 = .ok (.invokevirtual 328, 3) := by decide +kernel
theorem dX12_isLast_20 : decode cX12_isLast 20 = .ok (.aload_n 0, 1) := by decide +kernel
theorem dX12_isLast_21 : decode cX12_isLast 21 = .ok (.aload_n 0, 1) := by decide +kernel
theorem dX12_isLast_22 : decode cX12_isLast 22 = .ok (.getfield 76, 3) := by decide +kernel
theorem dX12_isLast_25 : decode cX12_isLast 25 = .ok (.iload_n 1, 1) := by decide +kernel
theorem dX12_isLast_26 : decode cX12_isLast 26 = .ok (.iconst 1, 1) := by decide +kernel
theorem dX12_isLast_27 : decode cX12_isLast 27 = .ok (.iadd, 1) := by decide +kernel
theorem dX12_isLast_28 : decode cX12_isLast 28 = .ok (.iaload, 1) := by decide +kernel
theorem dX12_isLast_29 : decode cX12_isLast 29 = .ok (.invokevirtual 328, 3) := by decide +kernel
theorem dX12_isLast_32 : decode cX12_isLast 32 = .ok (.if_icmp .eq 7, 3) := by decide +kernel
theorem dX12_isLast_35 : decode cX12_isLast 35 = .ok (.iconst 1, 1) := by decide +kernel
theorem dX12_isLast_36 : decode cX12_isLast 36 = .ok (.goto 4, 3) := by decide +kernel
theorem dX12_isLast_39 : decode cX12_isLast 39 = .ok (.iconst 0, 1) := by decide +kernel
theorem dX12_isLast_40 : decode cX12_isLast 40 = .ok (.ireturn, 1) := by decide +kernel
theorem dX12_dishBy_0 : decode cX12_dishBy 0 = .ok (.iconst 0, 1) := by decide +kernel
theorem dX12_dishBy_1 : decode cX12_dishBy 1 = .ok (.istore_n 2, 1) := by decide +kernel
theorem dX12_dishBy_2 : decode cX12_dishBy 2 = .ok (.iconst 0, 1) := by decide +kernel
theorem dX12_dishBy_3 : decode cX12_dishBy 3 = .ok (.istore_n 3, 1) := by decide +kernel
theorem dX12_dishBy_4 : decode cX12_dishBy 4 = .ok (.iload_n 3, 1) := by decide +kernel
theorem dX12_dishBy_5 : decode cX12_dishBy 5 = .ok (.aload_n 0, 1) := by decide +kernel
theorem dX12_dishBy_6 : decode cX12_dishBy 6 = .ok (.getfield 19, 3) := by decide +kernel
theorem dX12_dishBy_9 : decode cX12_dishBy 9 = .ok (.bipush 16, 2) := by decide +kernel
theorem dX12_dishBy_11 : decode cX12_dishBy 11 = .ok (.iaload, 1) := by decide +kernel
theorem dX12_dishBy_12 : decode cX12_dishBy 12 = .ok (.if_icmp .ge 25, 3) := by decide +kernel
theorem dX12_dishBy_15 : decode cX12_dishBy 15 = .ok (.iload_n 1, 1) := by decide +kernel
theorem dX12_dishBy_16 : decode cX12_dishBy 16 = .ok (.aload_n 0, 1) := by decide +kernel
theorem dX12_dishBy_17 : decode cX12_dishBy 17 = .ok (.iload_n 3, 1) := by decide +kernel
theorem dX12_dishBy_18 : decode cX12_dishBy 18 = .ok (.iconst 4, 1) := by decide +kernel
theorem dX12_dishBy_19 : decode cX12_dishBy 19 = .ok (.invokevirtual 228, 3) := by decide +kernel
theorem dX12_dishBy_22 : decode cX12_dishBy 22 = .ok (.if_icmp .lt 7, 3) := by decide +kernel
theorem dX12_dishBy_25 : decode cX12_dishBy 25 = .ok (.iload_n 3, 1) := by decide +kernel
theorem dX12_dishBy_26 : decode cX12_dishBy 26 = .ok (.goto 4, 3) := by decide +kernel
theorem dX12_dishBy_29 : decode cX12_dishBy 29 = .ok (.iload_n 2, 1) := by decide +kernel
theorem dX12_dishBy_30 : decode cX12_dishBy 30 = .ok (.istore_n 2, 1) := by decide +kernel
theorem dX12_dishBy_31 : decode cX12_dishBy 31 = .ok (.iinc 3 1, 3) := by decide +kernel
theorem dX12_dishBy_34 : decode cX12_dishBy 34 = .ok (.goto (-30), 3) := by decide +kernel
theorem dX12_dishBy_37 : decode cX12_dishBy 37 = .ok (.iload_n 2, 1) := by decide +kernel
theorem dX12_dishBy_38 : decode cX12_dishBy 38 = .ok (.ireturn, 1) := by decide +kernel
theorem dX12_judged_0 : decode cX12_judged 0 = .ok (.iconst 0, 1) := by decide +kernel
theorem dX12_judged_1 : decode cX12_judged 1 = .ok (.istore_n 2, 1) := by decide +kernel
theorem dX12_judged_2 : decode cX12_judged 2 = .ok (.iload_n 2, 1) := by decide +kernel
theorem dX12_judged_3 : decode cX12_judged 3 = .ok (.aload_n 0, 1) := by decide +kernel
theorem dX12_judged_4 : decode cX12_judged 4 = .ok (.getfield 302, 3) := by decide +kernel
theorem dX12_judged_7 : decode cX12_judged 7 = .ok (.if_icmp .ge 46, 3) := by decide +kernel
theorem dX12_judged_10 : decode cX12_judged 10 = .ok (.aload_n 0, 1) := by decide +kernel
theorem dX12_judged_11 : decode cX12_judged 11 = .ok (.getfield 79, 3) := by decide +kernel
theorem dX12_judged_14 : decode cX12_judged 14 = .ok (.iload_n 2, 1) := by decide +kernel
theorem dX12_judged_15 : decode cX12_judged 15 = .ok (.iaload, 1) := by decide +kernel
theorem dX12_judged_16 : decode cX12_judged 16 = .ok (.ifCond .lt 24, 3) := by decide +kernel
theorem dX12_judged_19 : decode cX12_judged 19 = .ok (.aload_n 0, 1) := by decide +kernel
theorem dX12_judged_20 : decode cX12_judged 20 = .ok (.getfield 79, 3) := by decide +kernel
theorem dX12_judged_23 : decode cX12_judged 23 = .ok (.iload_n 2, 1) := by decide +kernel
theorem dX12_judged_24 : decode cX12_judged 24 = .ok (.iaload, 1) := by decide +kernel
theorem dX12_judged_25 : decode cX12_judged 25 = .ok (.bipush 59, 2) := by decide +kernel
theorem dX12_judged_27 : decode cX12_judged 27 = .ok (.if_icmp .gt 13, 3) := by decide +kernel
theorem dX12_judged_30 : decode cX12_judged 30 = .ok (.aload_n 0, 1) := by decide +kernel
theorem dX12_judged_31 : decode cX12_judged 31 = .ok (.iload_n 2, 1) := by decide +kernel
theorem dX12_judged_32 : decode cX12_judged 32 = .ok (.invokevirtual 331, 3) := by decide +kernel
theorem dX12_judged_35 : decode cX12_judged 35 = .ok (.bipush 60, 2) := by decide +kernel
theorem dX12_judged_37 : decode cX12_judged 37 = .ok (.if_icmp .le 10, 3) := by decide +kernel
theorem dX12_judged_40 : decode cX12_judged 40 = .ok (.iconst 1, 1) := by decide +kernel
theorem dX12_judged_41 : decode cX12_judged 41 = .ok (.bipush 10, 2) := by decide +kernel
theorem dX12_judged_43 : decode cX12_judged 43 = .ok (.iload_n 2, 1) := by decide +kernel
theorem dX12_judged_44 : decode cX12_judged 44 = .ok (.imul, 1) := by decide +kernel
theorem dX12_judged_45 : decode cX12_judged 45 = .ok (.iadd, 1) := by decide +kernel
theorem dX12_judged_46 : decode cX12_judged 46 = .ok (.ireturn, 1) := by decide +kernel
theorem dX12_judged_47 : decode cX12_judged 47 = .ok (.iinc 2 1, 3) := by decide +kernel
theorem dX12_judged_50 : decode cX12_judged 50 = .ok (.goto (-48), 3) := by decide +kernel
theorem dX12_judged_53 : decode cX12_judged 53 = .ok (.iconst 0, 1) := by decide +kernel
theorem dX12_judged_54 : decode cX12_judged 54 = .ok (.istore_n 2, 1) := by decide +kernel
theorem dX12_judged_55 : decode cX12_judged 55 = .ok (.iload_n 2, 1) := by decide +kernel
theorem dX12_judged_56 : decode cX12_judged 56 = .ok (.aload_n 0, 1) := by decide +kernel
theorem dX12_judged_57 : decode cX12_judged 57 = .ok (.getfield 302, 3) := by decide +kernel
theorem dX12_judged_60 : decode cX12_judged 60 = .ok (.if_icmp .ge 60, 3) := by decide +kernel
theorem dX12_judged_63 : decode cX12_judged 63 = .ok (.aload_n 0, 1) := by decide +kernel
theorem dX12_judged_64 : decode cX12_judged 64 = .ok (.iload_n 2, 1) := by decide +kernel
theorem dX12_judged_65 : decode cX12_judged 65 = .ok (.invokevirtual 334, 3) := by decide +kernel
theorem dX12_judged_68 : decode cX12_judged 68 = .ok (.ifCond .ne 46, 3) := by decide +kernel
theorem dX12_judged_71 : decode cX12_judged 71 = .ok (.aload_n 0, 1) := by decide +kernel
theorem dX12_judged_72 : decode cX12_judged 72 = .ok (.getfield 79, 3) := by decide +kernel
theorem dX12_judged_75 : decode cX12_judged 75 = .ok (.iload_n 2, 1) := by decide +kernel
theorem dX12_judged_76 : decode cX12_judged 76 = .ok (.iaload, 1) := by decide +kernel
theorem dX12_judged_77 : decode cX12_judged 77 = .ok (.aload_n 0, 1) := by decide +kernel
theorem dX12_judged_78 : decode cX12_judged 78 = .ok (.iload_n 2, 1) := by decide +kernel
theorem dX12_judged_79 : decode cX12_judged 79 = .ok (.iconst 1, 1) := by decide +kernel
theorem dX12_judged_80 : decode cX12_judged 80 = .ok (.isub, 1) := by decide +kernel
theorem dX12_judged_81 : decode cX12_judged 81 = .ok (.invokevirtual 331, 3) := by decide +kernel
theorem dX12_judged_84 : decode cX12_judged 84 = .ok (.isub, 1) := by decide +kernel
theorem dX12_judged_85 : decode cX12_judged 85 = .ok (.i2l, 1) := by decide +kernel
theorem dX12_judged_86 : decode cX12_judged 86 = .ok (.lconst 0, 1) := by decide +kernel
theorem dX12_judged_87 : decode cX12_judged 87 = .ok (.aload_n 0, 1) := by decide +kernel
theorem dX12_judged_88 : decode cX12_judged 88 = .ok (.aload_n 0, 1) := by decide +kernel
theorem dX12_judged_89 : decode cX12_judged 89 = .ok (.getfield 76, 3) := by decide +kernel
theorem dX12_judged_92 : decode cX12_judged 92 = .ok (.iload_n 2, 1) := by decide +kernel
theorem dX12_judged_93 : decode cX12_judged 93 = .ok (.iconst 1, 1) := by decide +kernel
theorem dX12_judged_94 : decode cX12_judged 94 = .ok (.isub, 1) := by decide +kernel
theorem dX12_judged_95 : decode cX12_judged 95 = .ok (.iaload, 1) := by decide +kernel
theorem dX12_judged_96 : decode cX12_judged 96 = .ok (.iconst 2, 1) := by decide +kernel
theorem dX12_judged_97 : decode cX12_judged 97 = .ok (.invokevirtual 232, 3) := by decide +kernel
theorem dX12_judged_100 : decode cX12_judged 100 = .ok (.i2l, 1) := by decide +kernel
theorem dX12_judged_101 : decode cX12_judged 101 = .ok (.invokestatic 111, 3) := by decide +kernel
theorem dX12_judged_104 : decode cX12_judged 104 = .ok (.ifCond .ne 10, 3) := by decide +kernel
theorem dX12_judged_107 : decode cX12_judged 107 = .ok (.iconst 2, 1) := by decide +kernel
theorem dX12_judged_108 : decode cX12_judged 108 = .ok (.bipush 10, 2) := by decide +kernel
theorem dX12_judged_110 : decode cX12_judged 110 = .ok (.iload_n 2, 1) := by decide +kernel
theorem dX12_judged_111 : decode cX12_judged 111 = .ok (.imul, 1) := by decide +kernel
theorem dX12_judged_112 : decode cX12_judged 112 = .ok (.iadd, 1) := by decide +kernel
theorem dX12_judged_113 : decode cX12_judged 113 = .ok (.ireturn, 1) := by decide +kernel
theorem dX12_judged_114 : decode cX12_judged 114 = .ok (.iinc 2 1, 3) := by decide +kernel
theorem dX12_judged_117 : decode cX12_judged 117 = .ok (.goto (-62), 3) := by decide +kernel
theorem dX12_judged_120 : decode cX12_judged 120 = .ok (.iconst 0, 1) := by decide +kernel
theorem dX12_judged_121 : decode cX12_judged 121 = .ok (.istore_n 2, 1) := by decide +kernel
theorem dX12_judged_122 : decode cX12_judged 122 = .ok (.iload_n 2, 1) := by decide +kernel
theorem dX12_judged_123 : decode cX12_judged 123 = .ok (.aload_n 0, 1) := by decide +kernel
theorem dX12_judged_124 : decode cX12_judged 124 = .ok (.getfield 302, 3) := by decide +kernel
theorem dX12_judged_127 : decode cX12_judged 127 = .ok (.if_icmp .ge 55, 3) := by decide +kernel
theorem dX12_judged_130 : decode cX12_judged 130 = .ok (.aload_n 0, 1) := by decide +kernel
theorem dX12_judged_131 : decode cX12_judged 131 = .ok (.iload_n 2, 1) := by decide +kernel
theorem dX12_judged_132 : decode cX12_judged 132 = .ok (.invokevirtual 337, 3) := by decide +kernel
theorem dX12_judged_135 : decode cX12_judged 135 = .ok (.ifCond .eq 41, 3) := by decide +kernel
theorem dX12_judged_138 : decode cX12_judged 138 = .ok (.iload_n 1, 1) := by decide +kernel
theorem dX12_judged_139 : decode cX12_judged 139 = .ok (.aload_n 0, 1) := by decide +kernel
theorem dX12_judged_140 : decode cX12_judged 140 = .ok (.iload_n 2, 1) := by decide +kernel
theorem dX12_judged_141 : decode cX12_judged 141 = .ok (.invokevirtual 331, 3) := by decide +kernel
theorem dX12_judged_144 : decode cX12_judged 144 = .ok (.isub, 1) := by decide +kernel
theorem dX12_judged_145 : decode cX12_judged 145 = .ok (.i2l, 1) := by decide +kernel
theorem dX12_judged_146 : decode cX12_judged 146 = .ok (.lconst 0, 1) := by decide +kernel
theorem dX12_judged_147 : decode cX12_judged 147 = .ok (.aload_n 0, 1) := by decide +kernel
theorem dX12_judged_148 : decode cX12_judged 148 = .ok (.aload_n 0, 1) := by decide +kernel
theorem dX12_judged_149 : decode cX12_judged 149 = .ok (.aload_n 0, 1) := by decide +kernel
theorem dX12_judged_150 : decode cX12_judged 150 = .ok (.getfield 76, 3) := by decide +kernel
theorem dX12_judged_153 : decode cX12_judged 153 = .ok (.iload_n 2, 1) := by decide +kernel
theorem dX12_judged_154 : decode cX12_judged 154 = .ok (.iaload, 1) := by decide +kernel
theorem dX12_judged_155 : decode cX12_judged 155 = .ok (.invokevirtual 328, 3) := by decide +kernel
theorem dX12_judged_158 : decode cX12_judged 158 = .ok (.iconst 0, 1) := by decide +kernel
theorem dX12_judged_159 : decode cX12_judged 159 = .ok (.invokevirtual 228, 3) := by decide +kernel
theorem dX12_judged_162 : decode cX12_judged 162 = .ok (.i2l, 1) := by decide +kernel
theorem dX12_judged_163 : decode cX12_judged 163 = .ok (.invokestatic 111, 3) := by decide +kernel
theorem dX12_judged_166 : decode cX12_judged 166 = .ok (.ifCond .ne 10, 3) := by decide +kernel
theorem dX12_judged_169 : decode cX12_judged 169 = .ok (.iconst 3, 1) := by decide +kernel
theorem dX12_judged_170 : decode cX12_judged 170 = .ok (.bipush 10, 2) := by decide +kernel
theorem dX12_judged_172 : decode cX12_judged 172 = .ok (.iload_n 2, 1) := by decide +kernel
theorem dX12_judged_173 : decode cX12_judged 173 = .ok (.imul, 1) := by decide +kernel
theorem dX12_judged_174 : decode cX12_judged 174 = .ok (.iadd, 1) := by decide +kernel
theorem dX12_judged_175 : decode cX12_judged 175 = .ok (.ireturn, 1) := by decide +kernel
theorem dX12_judged_176 : decode cX12_judged 176 = .ok (.iinc 2 1, 3) := by decide +kernel
theorem dX12_judged_179 : decode cX12_judged 179 = .ok (.goto (-57), 3) := by decide +kernel
theorem dX12_judged_182 : decode cX12_judged 182 = .ok (.aload_n 0, 1) := by decide +kernel
theorem dX12_judged_183 : decode cX12_judged 183 = .ok (.invokevirtual 289, 3) := by decide +kernel
theorem dX12_judged_186 : decode cX12_judged 186 = .ok (.iconst 0, 1) := by decide +kernel
theorem dX12_judged_187 : decode cX12_judged 187 = .ok (.istore_n 2, 1) := by decide +kernel
theorem dX12_judged_188 : decode cX12_judged 188 = .ok (.iconst 0, 1) := by decide +kernel
theorem dX12_judged_189 : decode cX12_judged 189 = .ok (.istore_n 3, 1) := by decide +kernel
theorem dX12_judged_190 : decode cX12_judged 190 = .ok (.iload_n 3, 1) := by decide +kernel
theorem dX12_judged_191 : decode cX12_judged 191 = .ok (.aload_n 0, 1) := by decide +kernel
theorem dX12_judged_192 : decode cX12_judged 192 = .ok (.getfield 302, 3) := by decide +kernel
theorem dX12_judged_195 : decode cX12_judged 195 = .ok (.if_icmp .ge 95, 3) := by decide +kernel
theorem dX12_judged_198 : decode cX12_judged 198 = .ok (.aload_n 0, 1) := by decide +kernel
theorem dX12_judged_199 : decode cX12_judged 199 = .ok (.iconst 0, 1) := by decide +kernel
theorem dX12_judged_200 : decode cX12_judged 200 = .ok (.aload_n 0, 1) := by decide +kernel
theorem dX12_judged_201 : decode cX12_judged 201 = .ok (.getfield 76, 3) := by decide +kernel
theorem dX12_judged_204 : decode cX12_judged 204 = .ok (.iload_n 3, 1) := by decide +kernel
theorem dX12_judged_205 : decode cX12_judged 205 = .ok (.iaload, 1) := by decide +kernel
theorem dX12_judged_206 : decode cX12_judged 206 = .ok (.aload_n 0, 1) := by decide +kernel
theorem dX12_judged_207 : decode cX12_judged 207 = .ok (.getfield 79, 3) := by decide +kernel
theorem dX12_judged_210 : decode cX12_judged 210 = .ok (.iload_n 3, 1) := by decide +kernel
theorem dX12_judged_211 : decode cX12_judged 211 = .ok (.iaload, 1) := by decide +kernel
theorem dX12_judged_212 : decode cX12_judged 212 = .ok (.aload_n 0, 1) := by decide +kernel
theorem dX12_judged_213 : decode cX12_judged 213 = .ok (.iload_n 3, 1) := by decide +kernel
theorem dX12_judged_214 : decode cX12_judged 214 = .ok (.invokevirtual 331, 3) := by decide +kernel
theorem dX12_judged_217 : decode cX12_judged 217 = .ok (.aload_n 0, 1) := by decide +kernel
theorem dX12_judged_218 : decode cX12_judged 218 = .ok (.getfield 79, 3) := by decide +kernel
theorem dX12_judged_221 : decode cX12_judged 221 = .ok (.iload_n 3, 1) := by decide +kernel
theorem dX12_judged_222 : decode cX12_judged 222 = .ok (.iaload, 1) := by decide +kernel
theorem dX12_judged_223 : decode cX12_judged 223 = .ok (.isub, 1) := by decide +kernel
theorem dX12_judged_224 : decode cX12_judged 224 = .ok (.invokevirtual 278, 3) := by decide +kernel
theorem dX12_judged_227 : decode cX12_judged 227 = .ok (.aload_n 0, 1) := by decide +kernel
theorem dX12_judged_228 : decode cX12_judged 228 = .ok (.iload_n 3, 1) := by decide +kernel
theorem dX12_judged_229 : decode cX12_judged 229 = .ok (.invokevirtual 334, 3) := by decide +kernel
theorem dX12_judged_232 : decode cX12_judged 232 = .ok (.ifCond .eq 12, 3) := by decide +kernel
theorem dX12_judged_235 : decode cX12_judged 235 = .ok (.aload_n 0, 1) := by decide +kernel
theorem dX12_judged_236 : decode cX12_judged 236 = .ok (.getfield 79, 3) := by decide +kernel
theorem dX12_judged_239 : decode cX12_judged 239 = .ok (.iload_n 3, 1) := by decide +kernel
theorem dX12_judged_240 : decode cX12_judged 240 = .ok (.iaload, 1) := by decide +kernel
theorem dX12_judged_241 : decode cX12_judged 241 = .ok (.goto 4, 3) := by decide +kernel
theorem dX12_judged_244 : decode cX12_judged 244 = .ok (.iload_n 2, 1) := by decide +kernel
theorem dX12_judged_245 : decode cX12_judged 245 = .ok (.istore_n 2, 1) := by decide +kernel
theorem dX12_judged_246 : decode cX12_judged 246 = .ok (.aload_n 0, 1) := by decide +kernel
theorem dX12_judged_247 : decode cX12_judged 247 = .ok (.iload_n 3, 1) := by decide +kernel
theorem dX12_judged_248 : decode cX12_judged 248 = .ok (.invokevirtual 337, 3) := by decide +kernel
theorem dX12_judged_251 : decode cX12_judged 251 = .ok (.ifCond .eq 33, 3) := by decide +kernel
theorem dX12_judged_254 : decode cX12_judged 254 = .ok (.aload_n 0, 1) := by decide +kernel
theorem dX12_judged_255 : decode cX12_judged 255 = .ok (.aload_n 0, 1) := by decide +kernel
theorem dX12_judged_256 : decode cX12_judged 256 = .ok (.aload_n 0, 1) := by decide +kernel
theorem dX12_judged_257 : decode cX12_judged 257 = .ok (.getfield 76, 3) := by decide +kernel
theorem dX12_judged_260 : decode cX12_judged 260 = .ok (.iload_n 3, 1) := by decide +kernel
theorem dX12_judged_261 : decode cX12_judged 261 = .ok (.iaload, 1) := by decide +kernel
theorem dX12_judged_262 : decode cX12_judged 262 = .ok (.invokevirtual 328, 3) := by decide +kernel
theorem dX12_judged_265 : decode cX12_judged 265 = .ok (.iconst 2, 1) := by decide +kernel
theorem dX12_judged_266 : decode cX12_judged 266 = .ok (.invokevirtual 228, 3) := by decide +kernel
theorem dX12_judged_269 : decode cX12_judged 269 = .ok (.iconst 1, 1) := by decide +kernel
theorem dX12_judged_270 : decode cX12_judged 270 = .ok (.if_icmp .ne 14, 3) := by decide +kernel
theorem dX12_judged_273 : decode cX12_judged 273 = .ok (.aload_n 0, 1) := by decide +kernel
theorem dX12_judged_274 : decode cX12_judged 274 = .ok (.iconst 0, 1) := by decide +kernel
theorem dX12_judged_275 : decode cX12_judged 275 = .ok (.iload_n 2, 1) := by decide +kernel
theorem dX12_judged_276 : decode cX12_judged 276 = .ok (.aload_n 0, 1) := by decide +kernel
theorem dX12_judged_277 : decode cX12_judged 277 = .ok (.iload_n 3, 1) := by decide +kernel
theorem dX12_judged_278 : decode cX12_judged 278 = .ok (.invokevirtual 331, 3) := by decide +kernel
theorem dX12_judged_281 : decode cX12_judged 281 = .ok (.invokevirtual 282, 3) := by decide +kernel
theorem dX12_judged_284 : decode cX12_judged 284 = .ok (.iinc 3 1, 3) := by decide +kernel
theorem dX12_judged_287 : decode cX12_judged 287 = .ok (.goto (-97), 3) := by decide +kernel
theorem dX12_judged_290 : decode cX12_judged 290 = .ok (.aload_n 0, 1) := by decide +kernel
theorem dX12_judged_291 : decode cX12_judged 291 = .ok (.iconst 0, 1) := by decide +kernel
theorem dX12_judged_292 : decode cX12_judged 292 = .ok (.aload_n 0, 1) := by decide +kernel
theorem dX12_judged_293 : decode cX12_judged 293 = .ok (.getfield 19, 3) := by decide +kernel
theorem dX12_judged_296 : decode cX12_judged 296 = .ok (.iconst 5, 1) := by decide +kernel
theorem dX12_judged_297 : decode cX12_judged 297 = .ok (.iaload, 1) := by decide +kernel
theorem dX12_judged_298 : decode cX12_judged 298 = .ok (.aload_n 0, 1) := by decide +kernel
theorem dX12_judged_299 : decode cX12_judged 299 = .ok (.getfield 19, 3) := by decide +kernel
theorem dX12_judged_302 : decode cX12_judged 302 = .ok (.sipush 203, 3) := by decide +kernel
theorem dX12_judged_305 : decode cX12_judged 305 = .ok (.iaload, 1) := by decide +kernel
theorem dX12_judged_306 : decode cX12_judged 306 = .ok (.invokevirtual 285, 3) := by decide +kernel
theorem dX12_judged_309 : decode cX12_judged 309 = .ok (.istore_n 3, 1) := by decide +kernel
theorem dX12_judged_310 : decode cX12_judged 310 = .ok (.iload_n 3, 1) := by decide +kernel
theorem dX12_judged_311 : decode cX12_judged 311 = .ok (.ldc 137, 2) := by decide +kernel
theorem dX12_judged_313 : decode cX12_judged 313 = .ok (.if_icmp .ne 7, 3) := by decide +kernel
theorem dX12_judged_316 : decode cX12_judged 316 = .ok (.iconst 0, 1) := by decide +kernel
theorem dX12_judged_317 : decode cX12_judged 317 = .ok (.goto 8, 3) := by decide +kernel
theorem dX12_judged_320 : decode cX12_judged 320 = .ok (.sipush 1000, 3) := by decide +kernel
theorem dX12_judged_323 : decode cX12_judged 323 = .ok (.iload_n 3, 1) := by decide +kernel
theorem dX12_judged_324 : decode cX12_judged 324 = .ok (.iadd, 1) := by decide +kernel
theorem dX12_judged_325 : decode cX12_judged 325 = .ok (.ireturn, 1) := by decide +kernel
theorem dX12_judge_0 : decode cX12_judge 0 = .ok (.aload_n 0, 1) := by decide +kernel
theorem dX12_judge_1 : decode cX12_judge 1 = .ok (.iconst 0, 1) := by decide +kernel
theorem dX12_judge_2 : decode cX12_judge 2 = .ok (.putfield 101, 3) := by decide +kernel
theorem dX12_judge_5 : decode cX12_judge 5 = .ok (.iload_n 1, 1) := by decide +kernel
theorem dX12_judge_6 : decode cX12_judge 6 = .ok (.invokestatic 115, 3) := by decide +kernel
theorem dX12_judge_9 : decode cX12_judge 9 = .ok (.ifCond .eq 10, 3) := by decide +kernel
theorem dX12_judge_12 : decode cX12_judge 12 = .ok (.iload_n 3, 1) := by decide +kernel
theorem dX12_judge_13 : decode cX12_judge 13 = .ok (.invokestatic 318, 3) := by decide +kernel
theorem dX12_judge_16 : decode cX12_judge 16 = .ok (.ifCond .ne 6, 3) := by decide +kernel
theorem dX12_judge_19 : decode cX12_judge 19 = .ok (.ldc 121, 2) := by decide +kernel
theorem dX12_judge_21 : decode cX12_judge 21 = .ok (.ireturn, 1) := by decide +kernel
theorem dX12_judge_22 : decode cX12_judge 22 = .ok (.aload_n 0, 1) := by decide +kernel
theorem dX12_judge_23 : decode cX12_judge 23 = .ok (.getfield 221, 3) := by decide +kernel
theorem dX12_judge_26 : decode cX12_judge 26 = .ok (.ifCond .ne 6, 3) := by decide +kernel
theorem dX12_judge_29 : decode cX12_judge 29 = .ok (.ldc 253, 2) := by decide +kernel
theorem dX12_judge_31 : decode cX12_judge 31 = .ok (.ireturn, 1) := by decide +kernel
theorem dX12_judge_32 : decode cX12_judge 32 = .ok (.aload_n 0, 1) := by decide +kernel
theorem dX12_judge_33 : decode cX12_judge 33 = .ok (.getfield 7, 3) := by decide +kernel
theorem dX12_judge_36 : decode cX12_judge 36 = .ok (.iload_n 1, 1) := by decide +kernel
theorem dX12_judge_37 : decode cX12_judge 37 = .ok (.iaload, 1) := by decide +kernel
theorem dX12_judge_38 : decode cX12_judge 38 = .ok (.ifCond .ge 9, 3) := by decide +kernel
theorem dX12_judge_41 : decode cX12_judge 41 = .ok (.aload_n 0, 1) := by decide +kernel
theorem dX12_judge_42 : decode cX12_judge 42 = .ok (.iconst 1, 1) := by decide +kernel
theorem dX12_judge_43 : decode cX12_judge 43 = .ok (.invokevirtual 122, 3) := by decide +kernel
theorem dX12_judge_46 : decode cX12_judge 46 = .ok (.ireturn, 1) := by decide +kernel
theorem dX12_judge_47 : decode cX12_judge 47 = .ok (.aload_n 0, 1) := by decide +kernel
theorem dX12_judge_48 : decode cX12_judge 48 = .ok (.invokevirtual 315, 3) := by decide +kernel
theorem dX12_judge_51 : decode cX12_judge 51 = .ok (.iload_n 2, 1) := by decide +kernel
theorem dX12_judge_52 : decode cX12_judge 52 = .ok (.ifCond .lt 22, 3) := by decide +kernel
theorem dX12_judge_55 : decode cX12_judge 55 = .ok (.iload_n 2, 1) := by decide +kernel
theorem dX12_judge_56 : decode cX12_judge 56 = .ok (.i2l, 1) := by decide +kernel
theorem dX12_judge_57 : decode cX12_judge 57 = .ok (.aload_n 0, 1) := by decide +kernel
theorem dX12_judge_58 : decode cX12_judge 58 = .ok (.getfield 302, 3) := by decide +kernel
theorem dX12_judge_61 : decode cX12_judge 61 = .ok (.i2l, 1) := by decide +kernel
theorem dX12_judge_62 : decode cX12_judge 62 = .ok (.ladd, 1) := by decide +kernel
theorem dX12_judge_63 : decode cX12_judge 63 = .ok (.aload_n 0, 1) := by decide +kernel
theorem dX12_judge_64 : decode cX12_judge 64 = .ok (.getfield 13, 3) := by decide +kernel
theorem dX12_judge_67 : decode cX12_judge 67 = .ok (.iload_n 1, 1) := by decide +kernel
theorem dX12_judge_68 : decode cX12_judge 68 = .ok (.iaload, 1) := by decide +kernel
theorem dX12_judge_69 : decode cX12_judge 69 = .ok (.i2l, 1) := by decide +kernel
theorem dX12_judge_70 : decode cX12_judge 70 = .ok (.lcmp, 1) := by decide +kernel
theorem dX12_judge_71 : decode cX12_judge 71 = .ok (.ifCond .le 9, 3) := by decide +kernel
theorem dX12_judge_74 : decode cX12_judge 74 = .ok (.aload_n 0, 1) := by decide +kernel
theorem dX12_judge_75 : decode cX12_judge 75 = .ok (.iconst 2, 1) := by decide +kernel
theorem dX12_judge_76 : decode cX12_judge 76 = .ok (.invokevirtual 122, 3) := by decide +kernel
theorem dX12_judge_79 : decode cX12_judge 79 = .ok (.ireturn, 1) := by decide +kernel
theorem dX12_judge_80 : decode cX12_judge 80 = .ok (.aload_n 0, 1) := by decide +kernel
theorem dX12_judge_81 : decode cX12_judge 81 = .ok (.iconst 0, 1) := by decide +kernel
theorem dX12_judge_82 : decode cX12_judge 82 = .ok (.putfield 105, 3) := by decide +kernel
theorem dX12_judge_85 : decode cX12_judge 85 = .ok (.iconst 0, 1) := by decide +kernel
theorem dX12_judge_86 : decode cX12_judge 86 = .ok (.istore 4, 2) := by decide +kernel
theorem dX12_judge_88 : decode cX12_judge 88 = .ok (.iload 4, 2) := by decide +kernel
theorem dX12_judge_90 : decode cX12_judge 90 = .ok (.aload_n 0, 1) := by decide +kernel
theorem dX12_judge_91 : decode cX12_judge 91 = .ok (.getfield 302, 3) := by decide +kernel
theorem dX12_judge_94 : decode cX12_judge 94 = .ok (.if_icmp .ge 30, 3) := by decide +kernel
theorem dX12_judge_97 : decode cX12_judge 97 = .ok (.aload_n 0, 1) := by decide +kernel
theorem dX12_judge_98 : decode cX12_judge 98 = .ok (.getfield 79, 3) := by decide +kernel
theorem dX12_judge_101 : decode cX12_judge 101 = .ok (.iload 4, 2) := by decide +kernel
theorem dX12_judge_103 : decode cX12_judge 103 = .ok (.aload_n 0, 1) := by decide +kernel
theorem dX12_judge_104 : decode cX12_judge 104 = .ok (.getfield 16, 3) := by decide +kernel
theorem dX12_judge_107 : decode cX12_judge 107 = .ok (.bipush 40, 2) := by decide +kernel
theorem dX12_judge_109 : decode cX12_judge 109 = .ok (.iload_n 1, 1) := by decide +kernel
theorem dX12_judge_110 : decode cX12_judge 110 = .ok (.imul, 1) := by decide +kernel
theorem dX12_judge_111 : decode cX12_judge 111 = .ok (.iload_n 2, 1) := by decide +kernel
theorem dX12_judge_112 : decode cX12_judge 112 = .ok (.iadd, 1) := by decide +kernel
theorem dX12_judge_113 : decode cX12_judge 113 = .ok (.iload 4, 2) := by decide +kernel
theorem dX12_judge_115 : decode cX12_judge 115 = .ok (.iadd, 1) := by decide +kernel
theorem dX12_judge_116 : decode cX12_judge 116 = .ok (.iaload, 1) := by decide +kernel
theorem dX12_judge_117 : decode cX12_judge 117 = .ok (.iastore, 1) := by decide +kernel
theorem dX12_judge_118 : decode cX12_judge 118 = .ok (.iinc 4 1, 3) := by decide +kernel
theorem dX12_judge_121 : decode cX12_judge 121 = .ok (.goto (-33), 3) := by decide +kernel
theorem dX12_judge_124 : decode cX12_judge 124 = .ok (.aload_n 0, 1) := by decide +kernel
theorem dX12_judge_125 : decode cX12_judge 125 = .ok (.iload_n 3, 1) := by decide +kernel
theorem dX12_judge_126 : decode cX12_judge 126 = .ok (.invokevirtual 340, 3) := by decide +kernel
theorem dX12_judge_129 : decode cX12_judge 129 = .ok (.ireturn, 1) := by decide +kernel
theorem dX12_layPlan_0 : decode cX12_layPlan 0 = .ok (.aload_n 0, 1) := by decide +kernel
theorem dX12_layPlan_1 : decode cX12_layPlan 1 = .ok (.invokevirtual 289, 3) := by decide +kernel
theorem dX12_layPlan_4 : decode cX12_layPlan 4 = .ok (.iconst 0, 1) := by decide +kernel
theorem dX12_layPlan_5 : decode cX12_layPlan 5 = .ok (.istore_n 1, 1) := by decide +kernel
theorem dX12_layPlan_6 : decode cX12_layPlan 6 = .ok (.iconst 0, 1) := by decide +kernel
theorem dX12_layPlan_7 : decode cX12_layPlan 7 = .ok (.istore_n 2, 1) := by decide +kernel
theorem dX12_layPlan_8 : decode cX12_layPlan 8 = .ok (.iload_n 2, 1) := by decide +kernel
theorem dX12_layPlan_9 : decode cX12_layPlan 9 = .ok (.aload_n 0, 1) := by decide +kernel
theorem dX12_layPlan_10 : decode cX12_layPlan 10 = .ok (.getfield 302, 3) := by decide +kernel
theorem dX12_layPlan_13 : decode cX12_layPlan 13 = .ok (.if_icmp .ge 95, 3) := by decide +kernel
theorem dX12_layPlan_16 : decode cX12_layPlan 16 = .ok (.aload_n 0, 1) := by decide +kernel
theorem dX12_layPlan_17 : decode cX12_layPlan 17 = .ok (.iconst 0, 1) := by decide +kernel
theorem dX12_layPlan_18 : decode cX12_layPlan 18 = .ok (.aload_n 0, 1) := by decide +kernel
theorem dX12_layPlan_19 : decode cX12_layPlan 19 = .ok (.getfield 76, 3) := by decide +kernel
theorem dX12_layPlan_22 : decode cX12_layPlan 22 = .ok (.iload_n 2, 1) := by decide +kernel
theorem dX12_layPlan_23 : decode cX12_layPlan 23 = .ok (.iaload, 1) := by decide +kernel
theorem dX12_layPlan_24 : decode cX12_layPlan 24 = .ok (.aload_n 0, 1) := by decide +kernel
theorem dX12_layPlan_25 : decode cX12_layPlan 25 = .ok (.getfield 79, 3) := by decide +kernel
theorem dX12_layPlan_28 : decode cX12_layPlan 28 = .ok (.iload_n 2, 1) := by decide +kernel
theorem dX12_layPlan_29 : decode cX12_layPlan 29 = .ok (.iaload, 1) := by decide +kernel
theorem dX12_layPlan_30 : decode cX12_layPlan 30 = .ok (.aload_n 0, 1) := by decide +kernel
theorem dX12_layPlan_31 : decode cX12_layPlan 31 = .ok (.iload_n 2, 1) := by decide +kernel
theorem dX12_layPlan_32 : decode cX12_layPlan 32 = .ok (.invokevirtual 331, 3) := by decide +kernel
theorem dX12_layPlan_35 : decode cX12_layPlan 35 = .ok (.aload_n 0, 1) := by decide +kernel
theorem dX12_layPlan_36 : decode cX12_layPlan 36 = .ok (.getfield 79, 3) := by decide +kernel
theorem dX12_layPlan_39 : decode cX12_layPlan 39 = .ok (.iload_n 2, 1) := by decide +kernel
theorem dX12_layPlan_40 : decode cX12_layPlan 40 = .ok (.iaload, 1) := by decide +kernel
theorem dX12_layPlan_41 : decode cX12_layPlan 41 = .ok (.isub, 1) := by decide +kernel
theorem dX12_layPlan_42 : decode cX12_layPlan 42 = .ok (.invokevirtual 278, 3) := by decide +kernel
theorem dX12_layPlan_45 : decode cX12_layPlan 45 = .ok (.aload_n 0, 1) := by decide +kernel
theorem dX12_layPlan_46 : decode cX12_layPlan 46 = .ok (.iload_n 2, 1) := by decide +kernel
theorem dX12_layPlan_47 : decode cX12_layPlan 47 = .ok (.invokevirtual 334, 3) := by decide +kernel
theorem dX12_layPlan_50 : decode cX12_layPlan 50 = .ok (.ifCond .eq 12, 3) := by decide +kernel
theorem dX12_layPlan_53 : decode cX12_layPlan 53 = .ok (.aload_n 0, 1) := by decide +kernel
theorem dX12_layPlan_54 : decode cX12_layPlan 54 = .ok (.getfield 79, 3) := by decide +kernel
theorem dX12_layPlan_57 : decode cX12_layPlan 57 = .ok (.iload_n 2, 1) := by decide +kernel
theorem dX12_layPlan_58 : decode cX12_layPlan 58 = .ok (.iaload, 1) := by decide +kernel
theorem dX12_layPlan_59 : decode cX12_layPlan 59 = .ok (.goto 4, 3) := by decide +kernel
theorem dX12_layPlan_62 : decode cX12_layPlan 62 = .ok (.iload_n 1, 1) := by decide +kernel
theorem dX12_layPlan_63 : decode cX12_layPlan 63 = .ok (.istore_n 1, 1) := by decide +kernel
theorem dX12_layPlan_64 : decode cX12_layPlan 64 = .ok (.aload_n 0, 1) := by decide +kernel
theorem dX12_layPlan_65 : decode cX12_layPlan 65 = .ok (.iload_n 2, 1) := by decide +kernel
theorem dX12_layPlan_66 : decode cX12_layPlan 66 = .ok (.invokevirtual 337, 3) := by decide +kernel
theorem dX12_layPlan_69 : decode cX12_layPlan 69 = .ok (.ifCond .eq 33, 3) := by decide +kernel
theorem dX12_layPlan_72 : decode cX12_layPlan 72 = .ok (.aload_n 0, 1) := by decide +kernel
theorem dX12_layPlan_73 : decode cX12_layPlan 73 = .ok (.aload_n 0, 1) := by decide +kernel
theorem dX12_layPlan_74 : decode cX12_layPlan 74 = .ok (.aload_n 0, 1) := by decide +kernel
theorem dX12_layPlan_75 : decode cX12_layPlan 75 = .ok (.getfield 76, 3) := by decide +kernel
theorem dX12_layPlan_78 : decode cX12_layPlan 78 = .ok (.iload_n 2, 1) := by decide +kernel
theorem dX12_layPlan_79 : decode cX12_layPlan 79 = .ok (.iaload, 1) := by decide +kernel
theorem dX12_layPlan_80 : decode cX12_layPlan 80 = .ok (.invokevirtual 328, 3) := by decide +kernel
theorem dX12_layPlan_83 : decode cX12_layPlan 83 = .ok (.iconst 2, 1) := by decide +kernel
theorem dX12_layPlan_84 : decode cX12_layPlan 84 = .ok (.invokevirtual 228, 3) := by decide +kernel
theorem dX12_layPlan_87 : decode cX12_layPlan 87 = .ok (.iconst 1, 1) := by decide +kernel
theorem dX12_layPlan_88 : decode cX12_layPlan 88 = .ok (.if_icmp .ne 14, 3) := by decide +kernel
theorem dX12_layPlan_91 : decode cX12_layPlan 91 = .ok (.aload_n 0, 1) := by decide +kernel
theorem dX12_layPlan_92 : decode cX12_layPlan 92 = .ok (.iconst 0, 1) := by decide +kernel
theorem dX12_layPlan_93 : decode cX12_layPlan 93 = .ok (.iload_n 1, 1) := by decide +kernel
theorem dX12_layPlan_94 : decode cX12_layPlan 94 = .ok (.aload_n 0, 1) := by decide +kernel
theorem dX12_layPlan_95 : decode cX12_layPlan 95 = .ok (.iload_n 2, 1) := by decide +kernel
theorem dX12_layPlan_96 : decode cX12_layPlan 96 = .ok (.invokevirtual 331, 3) := by decide +kernel
theorem dX12_layPlan_99 : decode cX12_layPlan 99 = .ok (.invokevirtual 282, 3) := by decide +kernel
theorem dX12_layPlan_102 : decode cX12_layPlan 102 = .ok (.iinc 2 1, 3) := by decide +kernel
theorem dX12_layPlan_105 : decode cX12_layPlan 105 = .ok (.goto (-97), 3) := by decide +kernel
theorem dX12_layPlan_108 : decode cX12_layPlan 108 = .ok (.return_, 1) := by decide +kernel
theorem dX12_heat_0 : decode cX12_heat 0 = .ok (.aload_n 0, 1) := by decide +kernel
theorem dX12_heat_1 : decode cX12_heat 1 = .ok (.iconst 0, 1) := by decide +kernel
theorem dX12_heat_2 : decode cX12_heat 2 = .ok (.putfield 101, 3) := by decide +kernel
theorem dX12_heat_5 : decode cX12_heat 5 = .ok (.iload_n 1, 1) := by decide +kernel
theorem dX12_heat_6 : decode cX12_heat 6 = .ok (.invokestatic 318, 3) := by decide +kernel
theorem dX12_heat_9 : decode cX12_heat 9 = .ok (.ifCond .eq 10, 3) := by decide +kernel
theorem dX12_heat_12 : decode cX12_heat 12 = .ok (.iload_n 2, 1) := by decide +kernel
theorem dX12_heat_13 : decode cX12_heat 13 = .ok (.invokestatic 254, 3) := by decide +kernel
theorem dX12_heat_16 : decode cX12_heat 16 = .ok (.ifCond .ne 6, 3) := by decide +kernel
theorem dX12_heat_19 : decode cX12_heat 19 = .ok (.ldc 121, 2) := by decide +kernel
theorem dX12_heat_21 : decode cX12_heat 21 = .ok (.ireturn, 1) := by decide +kernel
theorem dX12_heat_22 : decode cX12_heat 22 = .ok (.aload_n 0, 1) := by decide +kernel
theorem dX12_heat_23 : decode cX12_heat 23 = .ok (.getfield 221, 3) := by decide +kernel
theorem dX12_heat_26 : decode cX12_heat 26 = .ok (.ifCond .ne 6, 3) := by decide +kernel
theorem dX12_heat_29 : decode cX12_heat 29 = .ok (.ldc 253, 2) := by decide +kernel
theorem dX12_heat_31 : decode cX12_heat 31 = .ok (.ireturn, 1) := by decide +kernel
theorem dX12_heat_32 : decode cX12_heat 32 = .ok (.aload_n 0, 1) := by decide +kernel
theorem dX12_heat_33 : decode cX12_heat 33 = .ok (.iload_n 1, 1) := by decide +kernel
theorem dX12_heat_34 : decode cX12_heat 34 = .ok (.invokevirtual 321, 3) := by decide +kernel
theorem dX12_heat_37 : decode cX12_heat 37 = .ok (.ifCond .ne 6, 3) := by decide +kernel
theorem dX12_heat_40 : decode cX12_heat 40 = .ok (.ldc 137, 2) := by decide +kernel
theorem dX12_heat_42 : decode cX12_heat 42 = .ok (.ireturn, 1) := by decide +kernel
theorem dX12_heat_43 : decode cX12_heat 43 = .ok (.aload_n 0, 1) := by decide +kernel
theorem dX12_heat_44 : decode cX12_heat 44 = .ok (.invokevirtual 343, 3) := by decide +kernel
theorem dX12_heat_47 : decode cX12_heat 47 = .ok (.aload_n 0, 1) := by decide +kernel
theorem dX12_heat_48 : decode cX12_heat 48 = .ok (.getfield 85, 3) := by decide +kernel
theorem dX12_heat_51 : decode cX12_heat 51 = .ok (.bipush 60, 2) := by decide +kernel
theorem dX12_heat_53 : decode cX12_heat 53 = .ok (.iconst 0, 1) := by decide +kernel
theorem dX12_heat_54 : decode cX12_heat 54 = .ok (.iastore, 1) := by decide +kernel
theorem dX12_heat_55 : decode cX12_heat 55 = .ok (.aload_n 0, 1) := by decide +kernel
theorem dX12_heat_56 : decode cX12_heat 56 = .ok (.getfield 88, 3) := by decide +kernel
theorem dX12_heat_59 : decode cX12_heat 59 = .ok (.bipush 60, 2) := by decide +kernel
theorem dX12_heat_61 : decode cX12_heat 61 = .ok (.bipush 9, 2) := by decide +kernel
theorem dX12_heat_63 : decode cX12_heat 63 = .ok (.iastore, 1) := by decide +kernel
theorem dX12_heat_64 : decode cX12_heat 64 = .ok (.bipush 59, 2) := by decide +kernel
theorem dX12_heat_66 : decode cX12_heat 66 = .ok (.istore_n 3, 1) := by decide +kernel
theorem dX12_heat_67 : decode cX12_heat 67 = .ok (.iload_n 3, 1) := by decide +kernel
theorem dX12_heat_68 : decode cX12_heat 68 = .ok (.ifCond .lt 99, 3) := by decide +kernel
theorem dX12_heat_71 : decode cX12_heat 71 = .ok (.aload_n 0, 1) := by decide +kernel
theorem dX12_heat_72 : decode cX12_heat 72 = .ok (.getfield 85, 3) := by decide +kernel
theorem dX12_heat_75 : decode cX12_heat 75 = .ok (.iload_n 3, 1) := by decide +kernel
theorem dX12_heat_76 : decode cX12_heat 76 = .ok (.iconst 1, 1) := by decide +kernel
theorem dX12_heat_77 : decode cX12_heat 77 = .ok (.iadd, 1) := by decide +kernel
theorem dX12_heat_78 : decode cX12_heat 78 = .ok (.iaload, 1) := by decide +kernel
theorem dX12_heat_79 : decode cX12_heat 79 = .ok (.aload_n 0, 1) := by decide +kernel
theorem dX12_heat_80 : decode cX12_heat 80 = .ok (.getfield 19, 3) := by decide +kernel
theorem dX12_heat_83 : decode cX12_heat 83 = .ok (.iconst 3, 1) := by decide +kernel
theorem dX12_heat_84 : decode cX12_heat 84 = .ok (.iaload, 1) := by decide +kernel
theorem dX12_heat_85 : decode cX12_heat 85 = .ok (.isub, 1) := by decide +kernel
theorem dX12_heat_86 : decode cX12_heat 86 = .ok (.istore 4, 2) := by decide +kernel
theorem dX12_heat_88 : decode cX12_heat 88 = .ok (.aload_n 0, 1) := by decide +kernel
theorem dX12_heat_89 : decode cX12_heat 89 = .ok (.getfield 88, 3) := by decide +kernel
theorem dX12_heat_92 : decode cX12_heat 92 = .ok (.iload_n 3, 1) := by decide +kernel
theorem dX12_heat_93 : decode cX12_heat 93 = .ok (.iconst 1, 1) := by decide +kernel
theorem dX12_heat_94 : decode cX12_heat 94 = .ok (.iadd, 1) := by decide +kernel
theorem dX12_heat_95 : decode cX12_heat 95 = .ok (.iaload, 1) := by decide +kernel
theorem dX12_heat_96 : decode cX12_heat 96 = .ok (.aload_n 0, 1) := by decide +kernel
theorem dX12_heat_97 : decode cX12_heat 97 = .ok (.getfield 19, 3) := by decide +kernel
theorem dX12_heat_100 : decode cX12_heat 100 = .ok (.iconst 4, 1) := by decide +kernel
theorem dX12_heat_101 : decode cX12_heat 101 = .ok (.iaload, 1) := by decide +kernel
theorem dX12_heat_102 : decode cX12_heat 102 = .ok (.iadd, 1) := by decide +kernel
theorem dX12_heat_103 : decode cX12_heat 103 = .ok (.istore 5, 2) := by decide +kernel
theorem dX12_heat_105 : decode cX12_heat 105 = .ok (.aload_n 0, 1) := by decide +kernel
theorem dX12_heat_106 : decode cX12_heat 106 = .ok (.getfield 85, 3) := by decide +kernel
theorem dX12_heat_109 : decode cX12_heat 109 = .ok (.iload_n 3, 1) := by decide +kernel
theorem dX12_heat_110 : decode cX12_heat 110 = .ok (.iload 4, 2) := by decide +kernel
theorem dX12_heat_112 : decode cX12_heat 112 = .ok (.aload_n 0, 1) := by decide +kernel
theorem dX12_heat_113 : decode cX12_heat 113 = .ok (.getfield 43, 3) := by decide +kernel
theorem dX12_heat_116 : decode cX12_heat 116 = .ok (.iload_n 3, 1) := by decide +kernel
theorem dX12_heat_117 : decode cX12_heat 117 = .ok (.iaload, 1) := by decide +kernel
theorem dX12_heat_118 : decode cX12_heat 118 = .ok (.if_icmp .le 8, 3) := by decide +kernel
theorem dX12_heat_121 : decode cX12_heat 121 = .ok (.iload 4, 2) := by decide +kernel
theorem dX12_heat_123 : decode cX12_heat 123 = .ok (.goto 9, 3) := by decide +kernel
theorem dX12_heat_126 : decode cX12_heat 126 = .ok (.aload_n 0, 1) := by decide +kernel
theorem dX12_heat_127 : decode cX12_heat 127 = .ok (.getfield 43, 3) := by decide +kernel
theorem dX12_heat_130 : decode cX12_heat 130 = .ok (.iload_n 3, 1) := by decide +kernel
theorem dX12_heat_131 : decode cX12_heat 131 = .ok (.iaload, 1) := by decide +kernel
theorem dX12_heat_132 : decode cX12_heat 132 = .ok (.iastore, 1) := by decide +kernel
theorem dX12_heat_133 : decode cX12_heat 133 = .ok (.aload_n 0, 1) := by decide +kernel
theorem dX12_heat_134 : decode cX12_heat 134 = .ok (.getfield 88, 3) := by decide +kernel
theorem dX12_heat_137 : decode cX12_heat 137 = .ok (.iload_n 3, 1) := by decide +kernel
theorem dX12_heat_138 : decode cX12_heat 138 = .ok (.iload 5, 2) := by decide +kernel
theorem dX12_heat_140 : decode cX12_heat 140 = .ok (.aload_n 0, 1) := by decide +kernel
theorem dX12_heat_141 : decode cX12_heat 141 = .ok (.getfield 46, 3) := by decide +kernel
theorem dX12_heat_144 : decode cX12_heat 144 = .ok (.iload_n 3, 1) := by decide +kernel
