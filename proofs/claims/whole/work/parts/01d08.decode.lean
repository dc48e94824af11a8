theorem dX12_next_156 : decode cX12_next 156 = .ok (.iconst 2, 1) := by decide +kernel
theorem dX12_next_157 : decode cX12_next 157 = .ok (.if_icmp .le 7, 3) := by decide +kernel
theorem dX12_next_160 : decode cX12_next 160 = .ok (.iconst 0, 1) := by decide +kernel
theorem dX12_next_161 : decode cX12_next 161 = .ok (.goto 4, 3) := by decide +kernel
theorem dX12_next_164 : decode cX12_next 164 = .ok (.iconst 3, 1) := by decide +kernel
theorem dX12_next_165 : decode cX12_next 165 = .ok (.putfield 147, 3) := by decide +kernel
theorem dX12_next_168 : decode cX12_next 168 = .ok (.goto 28, 3) := by decide +kernel
theorem dX12_next_171 : decode cX12_next 171 = .ok (.aload_n 0, 1) := by decide +kernel
theorem dX12_next_172 : decode cX12_next 172 = .ok (.dup, 1) := by decide +kernel
theorem dX12_next_173 : decode cX12_next 173 = .ok (.getfield 138, 3) := by decide +kernel
theorem dX12_next_176 : decode cX12_next 176 = .ok (.iconst 1, 1) := by decide +kernel
theorem dX12_next_177 : decode cX12_next 177 = .ok (.iadd, 1) := by decide +kernel
theorem dX12_next_178 : decode cX12_next 178 = .ok (.putfield 138, 3) := by decide +kernel
theorem dX12_next_181 : decode cX12_next 181 = .ok (.aload_n 0, 1) := by decide +kernel
theorem dX12_next_182 : decode cX12_next 182 = .ok (.iload_n 1, 1) := by decide +kernel
theorem dX12_next_183 : decode cX12_next 183 = .ok (.bipush 59, 2) := by decide +kernel
theorem dX12_next_185 : decode cX12_next 185 = .ok (.if_icmp .ne 7, 3) := by decide +kernel
theorem dX12_next_188 : decode cX12_next 188 = .ok (.iconst 4, 1) := by decide +kernel
theorem dX12_next_189 : decode cX12_next 189 = .ok (.goto 4, 3) := by decide +kernel
theorem dX12_next_192 : decode cX12_next 192 = .ok (.iconst 0, 1) := by decide +kernel
theorem dX12_next_193 : decode cX12_next 193 = .ok (.putfield 147, 3) := by decide +kernel
theorem dX12_next_196 : decode cX12_next 196 = .ok (.aload_n 0, 1) := by decide +kernel
theorem dX12_next_197 : decode cX12_next 197 = .ok (.aload_n 0, 1) := by decide +kernel
theorem dX12_next_198 : decode cX12_next 198 = .ok (.getfield 138, 3) := by decide +kernel
theorem dX12_next_201 : decode cX12_next 201 = .ok (.putfield 156, 3) := by decide +kernel
theorem dX12_next_204 : decode cX12_next 204 = .ok (.return_, 1) := by decide +kernel
theorem dX12_bad_0 : decode cX12_bad 0 = .ok (.aload_n 0, 1) := by decide +kernel
theorem dX12_bad_1 : decode cX12_bad 1 = .ok (.getfield 159, 3) := by decide +kernel
theorem dX12_bad_4 : decode cX12_bad 4 = .ok (.ifCond .ne 16, 3) := by decide +kernel
theorem dX12_bad_7 : decode cX12_bad 7 = .ok (.aload_n 0, 1) := by decide +kernel
theorem dX12_bad_8 : decode cX12_bad 8 = .ok (.iload_n 1, 1) := by decide +kernel
theorem dX12_bad_9 : decode cX12_bad 9 = .ok (.putfield 159, 3) := by decide +kernel
theorem dX12_bad_12 : decode cX12_bad 12 = .ok (.aload_n 0, 1) := by decide +kernel
theorem dX12_bad_13 : decode cX12_bad 13 = .ok (.aload_n 0, 1) := by decide +kernel
theorem dX12_bad_14 : decode cX12_bad 14 = .ok (.getfield 144, 3) := by decide +kernel
theorem dX12_bad_17 : decode cX12_bad 17 = .ok (.putfield 162, 3) := by decide +kernel
theorem dX12_bad_20 : decode cX12_bad 20 = .ok (.return_, 1) := by decide +kernel
theorem dX12_must_0 : decode cX12_must 0 = .ok (.iload_n 1, 1) := by decide +kernel
theorem dX12_must_1 : decode cX12_must 1 = .ok (.ifCond .ne 8, 3) := by decide +kernel
theorem dX12_must_4 : decode cX12_must 4 = .ok (.aload_n 0, 1) := by decide +kernel
theorem dX12_must_5 : decode cX12_must 5 = .ok (.iconst 1, 1) := by decide +kernel
theorem dX12_must_6 : decode cX12_must 6 = .ok (.invokevirtual 165, 3) := by decide +kernel
theorem dX12_must_9 : decode cX12_must 9 = .ok (.aload_n 0, 1) := by decide +kernel
theorem dX12_must_10 : decode cX12_must 10 = .ok (.getfield 159, 3) := by decide +kernel
theorem dX12_must_13 : decode cX12_must 13 = .ok (.ifCond .ne 7, 3) := by decide +kernel
theorem dX12_must_16 : decode cX12_must 16 = .ok (.aload_n 0, 1) := by decide +kernel
theorem dX12_must_17 : decode cX12_must 17 = .ok (.invokevirtual 169, 3) := by decide +kernel
theorem dX12_must_20 : decode cX12_must 20 = .ok (.return_, 1) := by decide +kernel
theorem dX12_word_0 : decode cX12_word 0 = .ok (.lconst 0, 1) := by decide +kernel
theorem dX12_word_1 : decode cX12_word 1 = .ok (.lstore_n 1, 1) := by decide +kernel
theorem dX12_word_2 : decode cX12_word 2 = .ok (.aload_n 0, 1) := by decide +kernel
theorem dX12_word_3 : decode cX12_word 3 = .ok (.getfield 144, 3) := by decide +kernel
theorem dX12_word_6 : decode cX12_word 6 = .ok (.istore_n 3, 1) := by decide +kernel
theorem dX12_word_7 : decode cX12_word 7 = .ok (.iload_n 3, 1) := by decide +kernel
theorem dX12_word_8 : decode cX12_word 8 = .ok (.aload_n 0, 1) := by decide +kernel
theorem dX12_word_9 : decode cX12_word 9 = .ok (.getfield 156, 3) := by decide +kernel
theorem dX12_word_12 : decode cX12_word 12 = .ok (.if_icmp .ge 44, 3) := by decide +kernel
theorem dX12_word_15 : decode cX12_word 15 = .ok (.aload_n 0, 1) := by decide +kernel
theorem dX12_word_16 : decode cX12_word 16 = .ok (.getfield 147, 3) := by decide +kernel
theorem dX12_word_19 : decode cX12_word 19 = .ok (.iconst 2, 1) := by decide +kernel
theorem dX12_word_20 : decode cX12_word 20 = .ok (.if_icmp .ne 36, 3) := by decide +kernel
theorem dX12_word_23 : decode cX12_word 23 = .ok (.aload_n 0, 1) := by decide +kernel
theorem dX12_word_24 : decode cX12_word 24 = .ok (.getfield 156, 3) := by decide +kernel
theorem dX12_word_27 : decode cX12_word 27 = .ok (.aload_n 0, 1) := by decide +kernel
theorem dX12_word_28 : decode cX12_word 28 = .ok (.getfield 144, 3) := by decide +kernel
theorem dX12_word_31 : decode cX12_word 31 = .ok (.isub, 1) := by decide +kernel
theorem dX12_word_32 : decode cX12_word 32 = .ok (.bipush 8, 2) := by decide +kernel
theorem dX12_word_34 : decode cX12_word 34 = .ok (.if_icmp .ge 22, 3) := by decide +kernel
theorem dX12_word_37 : decode cX12_word 37 = .ok (.lload_n 1, 1) := by decide +kernel
theorem dX12_word_38 : decode cX12_word 38 = .ok (.bipush 8, 2) := by decide +kernel
theorem dX12_word_40 : decode cX12_word 40 = .ok (.lshl, 1) := by decide +kernel
theorem dX12_word_41 : decode cX12_word 41 = .ok (.aload_n 0, 1) := by decide +kernel
theorem dX12_word_42 : decode cX12_word 42 = .ok (.getfield 25, 3) := by decide +kernel
theorem dX12_word_45 : decode cX12_word 45 = .ok (.iload_n 3, 1) := by decide +kernel
theorem dX12_word_46 : decode cX12_word 46 = .ok (.iaload, 1) := by decide +kernel
theorem dX12_word_47 : decode cX12_word 47 = .ok (.i2l, 1) := by decide +kernel
theorem dX12_word_48 : decode cX12_word 48 = .ok (.lor, 1) := by decide +kernel
theorem dX12_word_49 : decode cX12_word 49 = .ok (.lstore_n 1, 1) := by decide +kernel
theorem dX12_word_50 : decode cX12_word 50 = .ok (.iinc 3 1, 3) := by decide +kernel
theorem dX12_word_53 : decode cX12_word 53 = .ok (.goto (-46), 3) := by decide +kernel
theorem dX12_word_56 : decode cX12_word 56 = .ok (.aload_n 0, 1) := by decide +kernel
theorem dX12_word_57 : decode cX12_word 57 = .ok (.getfield 159, 3) := by decide +kernel
theorem dX12_word_60 : decode cX12_word 60 = .ok (.ifCond .ne 7, 3) := by decide +kernel
theorem dX12_word_63 : decode cX12_word 63 = .ok (.lload_n 1, 1) := by decide +kernel
theorem dX12_word_64 : decode cX12_word 64 = .ok (.goto 4, 3) := by decide +kernel
theorem dX12_word_67 : decode cX12_word 67 = .ok (.lconst 0, 1) := by decide +kernel
theorem dX12_word_68 : decode cX12_word 68 = .ok (.lreturn, 1) := by decide +kernel
theorem dX12_number_0 : decode cX12_number 0 = .ok (.aload_n 0, 1) := by decide +kernel
theorem dX12_number_1 : decode cX12_number 1 = .ok (.getfield 159, 3) := by decide +kernel
theorem dX12_number_4 : decode cX12_number 4 = .ok (.ifCond .le 4, 3) := by decide +kernel
theorem dX12_number_7 : decode cX12_number 7 = .ok (.return_, 1) := by decide +kernel
theorem dX12_number_8 : decode cX12_number 8 = .ok (.iconst 0, 1) := by decide +kernel
theorem dX12_number_9 : decode cX12_number 9 = .ok (.istore 4, 2) := by decide +kernel
theorem dX12_number_11 : decode cX12_number 11 = .ok (.aload_n 0, 1) := by decide +kernel
theorem dX12_number_12 : decode cX12_number 12 = .ok (.getfield 144, 3) := by decide +kernel
theorem dX12_number_15 : decode cX12_number 15 = .ok (.istore 5, 2) := by decide +kernel
theorem dX12_number_17 : decode cX12_number 17 = .ok (.iload 5, 2) := by decide +kernel
theorem dX12_number_19 : decode cX12_number 19 = .ok (.aload_n 0, 1) := by decide +kernel
theorem dX12_number_20 : decode cX12_number 20 = .ok (.getfield 156, 3) := by decide +kernel
theorem dX12_number_23 : decode cX12_number 23 = .ok (.if_icmp .ge 35, 3) := by decide +kernel
theorem dX12_number_26 : decode cX12_number 26 = .ok (.aload_n 0, 1) := by decide +kernel
theorem dX12_number_27 : decode cX12_number 27 = .ok (.getfield 147, 3) := by decide +kernel
theorem dX12_number_30 : decode cX12_number 30 = .ok (.iconst 3, 1) := by decide +kernel
theorem dX12_number_31 : decode cX12_number 31 = .ok (.if_icmp .ne 27, 3) := by decide +kernel
theorem dX12_number_34 : decode cX12_number 34 = .ok (.bipush 10, 2) := by decide +kernel
theorem dX12_number_36 : decode cX12_number 36 = .ok (.iload 4, 2) := by decide +kernel
theorem dX12_number_38 : decode cX12_number 38 = .ok (.imul, 1) := by decide +kernel
theorem dX12_number_39 : decode cX12_number 39 = .ok (.aload_n 0, 1) := by decide +kernel
theorem dX12_number_40 : decode cX12_number 40 = .ok (.getfield 25, 3) := by decide +kernel
theorem dX12_number_43 : decode cX12_number 43 = .ok (.iload 5, 2) := by decide +kernel
theorem dX12_number_45 : decode cX12_number 45 = .ok (.iaload, 1) := by decide +kernel
theorem dX12_number_46 : decode cX12_number 46 = .ok (.iadd, 1) := by decide +kernel
theorem dX12_number_47 : decode cX12_number 47 = .ok (.bipush 48, 2) := by decide +kernel
theorem dX12_number_49 : decode cX12_number 49 = .ok (.isub, 1) := by decide +kernel
theorem dX12_number_50 : decode cX12_number 50 = .ok (.istore 4, 2) := by decide +kernel
theorem dX12_number_52 : decode cX12_number 52 = .ok (.iinc 5 1, 3) := by decide +kernel
theorem dX12_number_55 : decode cX12_number 55 = .ok (.goto (-38), 3) := by decide +kernel
theorem dX12_number_58 : decode cX12_number 58 = .ok (.aload_n 0, 1) := by decide +kernel
theorem dX12_number_59 : decode cX12_number 59 = .ok (.getfield 147, 3) := by decide +kernel
theorem dX12_number_62 : decode cX12_number 62 = .ok (.iconst 3, 1) := by decide +kernel
theorem dX12_number_63 : decode cX12_number 63 = .ok (.if_icmp .ne 21, 3) := by decide +kernel
theorem dX12_number_66 : decode cX12_number 66 = .ok (.iload 4, 2) := by decide +kernel
theorem dX12_number_68 : decode cX12_number 68 = .ok (.i2l, 1) := by decide +kernel
theorem dX12_number_69 : decode cX12_number 69 = .ok (.iload_n 2, 1) := by decide +kernel
theorem dX12_number_70 : decode cX12_number 70 = .ok (.i2l, 1) := by decide +kernel
theorem dX12_number_71 : decode cX12_number 71 = .ok (.iload_n 3, 1) := by decide +kernel
theorem dX12_number_72 : decode cX12_number 72 = .ok (.i2l, 1) := by decide +kernel
theorem dX12_number_73 : decode cX12_number 73 = .ok (.invokestatic 111, 3) := by decide +kernel
theorem dX12_number_76 : decode cX12_number 76 = .ok (.ifCond .ne 8, 3) := by decide +kernel
theorem dX12_number_79 : decode cX12_number 79 = .ok (.aload_n 0, 1) := by decide +kernel
theorem dX12_number_80 : decode cX12_number 80 = .ok (.iconst 2, 1) := by decide +kernel
theorem dX12_number_81 : decode cX12_number 81 = .ok (.invokevirtual 165, 3) := by decide +kernel
theorem dX12_number_84 : decode cX12_number 84 = .ok (.aload_n 0, 1) := by decide +kernel
theorem dX12_number_85 : decode cX12_number 85 = .ok (.aload_n 0, 1) := by decide +kernel
theorem dX12_number_86 : decode cX12_number 86 = .ok (.getfield 147, 3) := by decide +kernel
theorem dX12_number_89 : decode cX12_number 89 = .ok (.iconst 3, 1) := by decide +kernel
theorem dX12_number_90 : decode cX12_number 90 = .ok (.if_icmp .ne 7, 3) := by decide +kernel
theorem dX12_number_93 : decode cX12_number 93 = .ok (.iconst 1, 1) := by decide +kernel
theorem dX12_number_94 : decode cX12_number 94 = .ok (.goto 4, 3) := by decide +kernel
theorem dX12_number_97 : decode cX12_number 97 = .ok (.iconst 0, 1) := by decide +kernel
theorem dX12_number_98 : decode cX12_number 98 = .ok (.invokevirtual 172, 3) := by decide +kernel
theorem dX12_number_101 : decode cX12_number 101 = .ok (.aload_n 0, 1) := by decide +kernel
theorem dX12_number_102 : decode cX12_number 102 = .ok (.getfield 159, 3) := by decide +kernel
theorem dX12_number_105 : decode cX12_number 105 = .ok (.ifCond .ne 11, 3) := by decide +kernel
theorem dX12_number_108 : decode cX12_number 108 = .ok (.aload_n 0, 1) := by decide +kernel
theorem dX12_number_109 : decode cX12_number 109 = .ok (.getfield 22, 3) := by decide +kernel
theorem dX12_number_112 : decode cX12_number 112 = .ok (.iload_n 1, 1) := by decide +kernel
theorem dX12_number_113 : decode cX12_number 113 = .ok (.iload 4, 2) := by decide +kernel
theorem dX12_number_115 : decode cX12_number 115 = .ok (.iastore, 1) := by decide +kernel
theorem dX12_number_116 : decode cX12_number 116 = .ok (.return_, 1) := by decide +kernel
theorem dX12_mustEnd_0 : decode cX12_mustEnd 0 = .ok (.aload_n 0, 1) := by decide +kernel
theorem dX12_mustEnd_1 : decode cX12_mustEnd 1 = .ok (.getfield 159, 3) := by decide +kernel
theorem dX12_mustEnd_4 : decode cX12_mustEnd 4 = .ok (.ifCond .ne 20, 3) := by decide +kernel
theorem dX12_mustEnd_7 : decode cX12_mustEnd 7 = .ok (.aload_n 0, 1) := by decide +kernel
theorem dX12_mustEnd_8 : decode cX12_mustEnd 8 = .ok (.aload_n 0, 1) := by decide +kernel
theorem dX12_mustEnd_9 : decode cX12_mustEnd 9 = .ok (.getfield 147, 3) := by decide +kernel
theorem dX12_mustEnd_12 : decode cX12_mustEnd 12 = .ok (.iconst 4, 1) := by decide +kernel
theorem dX12_mustEnd_13 : decode cX12_mustEnd 13 = .ok (.if_icmp .ne 7, 3) := by decide +kernel
theorem dX12_mustEnd_16 : decode cX12_mustEnd 16 = .ok (.iconst 1, 1) := by decide +kernel
theorem dX12_mustEnd_17 : decode cX12_mustEnd 17 = .ok (.goto 4, 3) := by decide +kernel
theorem dX12_mustEnd_20 : decode cX12_mustEnd 20 = .ok (.iconst 0, 1) := by decide +kernel
theorem dX12_mustEnd_21 : decode cX12_mustEnd 21 = .ok (.invokevirtual 172, 3) := by decide +kernel
theorem dX12_mustEnd_24 : decode cX12_mustEnd 24 = .ok (.return_, 1) := by decide +kernel
theorem dX12_kindOfWord_0 : decode cX12_kindOfWord 0 = .ok (.aload_n 0, 1) := by decide +kernel
theorem dX12_kindOfWord_1 : decode cX12_kindOfWord 1 = .ok (.invokevirtual 176, 3) := by decide +kernel
theorem dX12_kindOfWord_4 : decode cX12_kindOfWord 4 = .ok (.lstore_n 1, 1) := by decide +kernel
theorem dX12_kindOfWord_5 : decode cX12_kindOfWord 5 = .ok (.lload_n 1, 1) := by decide +kernel
theorem dX12_kindOfWord_6 : decode cX12_kindOfWord 6 = .ok (.ldc2_w 180, 3) := by decide +kernel
theorem dX12_kindOfWord_9 : decode cX12_kindOfWord 9 = .ok (.lcmp, 1) := by decide +kernel
theorem dX12_kindOfWord_10 : decode cX12_kindOfWord 10 = .ok (.ifCond .ne 7, 3) := by decide +kernel
theorem dX12_kindOfWord_13 : decode cX12_kindOfWord 13 = .ok (.iconst 1, 1) := by decide +kernel
theorem dX12_kindOfWord_14 : decode cX12_kindOfWord 14 = .ok (.goto 53, 3) := by decide +kernel
theorem dX12_kindOfWord_17 : decode cX12_kindOfWord 17 = .ok (.lload_n 1, 1) := by decide +kernel
theorem dX12_kindOfWord_18 : decode cX12_kindOfWord 18 = .ok (.ldc2_w 182, 3) := by decide +kernel
theorem dX12_kindOfWord_21 : decode cX12_kindOfWord 21 = .ok (.lcmp, 1) := by decide +kernel
theorem dX12_kindOfWord_22 : decode cX12_kindOfWord 22 = .ok (.ifCond .ne 7, 3) := by decide +kernel
theorem dX12_kindOfWord_25 : decode cX12_kindOfWord 25 = .ok (.iconst 2, 1) := by decide +kernel
theorem dX12_kindOfWord_26 : decode cX12_kindOfWord 26 = .ok (.goto 41, 3) := by decide +kernel
theorem dX12_kindOfWord_29 : decode cX12_kindOfWord 29 = .ok (.lload_n 1, 1) := by decide +kernel
theorem dX12_kindOfWord_30 : decode cX12_kindOfWord 30 = .ok (.ldc2_w 184, 3) := by decide +kernel
theorem dX12_kindOfWord_33 : decode cX12_kindOfWord 33 = .ok (.lcmp, 1) := by decide +kernel
theorem dX12_kindOfWord_34 : decode cX12_kindOfWord 34 = .ok (.ifCond .ne 7, 3) := by decide +kernel
theorem dX12_kindOfWord_37 : decode cX12_kindOfWord 37 = .ok (.iconst 3, 1) := by decide +kernel
theorem dX12_kindOfWord_38 : decode cX12_kindOfWord 38 = .ok (.goto 29, 3) := by decide +kernel
theorem dX12_kindOfWord_41 : decode cX12_kindOfWord 41 = .ok (.lload_n 1, 1) := by decide +kernel
theorem dX12_kindOfWord_42 : decode cX12_kindOfWord 42 = .ok (.ldc2_w 186, 3) := by decide +kernel
theorem dX12_kindOfWord_45 : decode cX12_kindOfWord 45 = .ok (.lcmp, 1) := by decide +kernel
theorem dX12_kindOfWord_46 : decode cX12_kindOfWord 46 = .ok (.ifCond .ne 7, 3) := by decide +kernel
theorem dX12_kindOfWord_49 : decode cX12_kindOfWord 49 = .ok (.iconst 4, 1) := by decide +kernel
theorem dX12_kindOfWord_50 : decode cX12_kindOfWord 50 = .ok (.goto 17, 3) := by decide +kernel
theorem dX12_kindOfWord_53 : decode cX12_kindOfWord 53 = .ok (.lload_n 1, 1) := by decide +kernel
theorem dX12_kindOfWord_54 : decode cX12_kindOfWord 54 = .ok (.ldc2_w 188, 3) := by decide +kernel
theorem dX12_kindOfWord_57 : decode cX12_kindOfWord 57 = .ok (.lcmp, 1) := by decide +kernel
theorem dX12_kindOfWord_58 : decode cX12_kindOfWord 58 = .ok (.ifCond .ne 7, 3) := by decide +kernel
theorem dX12_kindOfWord_61 : decode cX12_kindOfWord 61 = .ok (.iconst 5, 1) := by decide +kernel
theorem dX12_kindOfWord_62 : decode cX12_kindOfWord 62 = .ok (.goto 5, 3) := by decide +kernel
theorem dX12_kindOfWord_65 : decode cX12_kindOfWord 65 = .ok (.ldc 137, 2) := by decide +kernel
theorem dX12_kindOfWord_67 : decode cX12_kindOfWord 67 = .ok (.ireturn, 1) := by decide +kernel
theorem dX12_readAway_0 : decode cX12_readAway 0 = .ok (.aload_n 0, 1) := by decide +kernel
theorem dX12_readAway_1 : decode cX12_readAway 1 = .ok (.getfield 22, 3) := by decide +kernel
theorem dX12_readAway_4 : decode cX12_readAway 4 = .ok (.bipush 7, 2) := by decide +kernel
theorem dX12_readAway_6 : decode cX12_readAway 6 = .ok (.iaload, 1) := by decide +kernel
theorem dX12_readAway_7 : decode cX12_readAway 7 = .ok (.iconst 4, 1) := by decide +kernel
theorem dX12_readAway_8 : decode cX12_readAway 8 = .ok (.if_icmp .ne 8, 3) := by decide +kernel
theorem dX12_readAway_11 : decode cX12_readAway 11 = .ok (.aload_n 0, 1) := by decide +kernel
theorem dX12_readAway_12 : decode cX12_readAway 12 = .ok (.iconst 3, 1) := by decide +kernel
theorem dX12_readAway_13 : decode cX12_readAway 13 = .ok (.invokevirtual 165, 3) := by decide +kernel
theorem dX12_readAway_16 : decode cX12_readAway 16 = .ok (.aload_n 0, 1) := by decide +kernel
theorem dX12_readAway_17 : decode cX12_readAway 17 = .ok (.iconst 1, 1) := by decide +kernel
theorem dX12_readAway_18 : decode cX12_readAway 18 = .ok (.invokevirtual 172, 3) := by decide +kernel
theorem dX12_readAway_21 : decode cX12_readAway 21 = .ok (.bipush 8, 2) := by decide +kernel
theorem dX12_readAway_23 : decode cX12_readAway 23 = .ok (.iconst 2, 1) := by decide +kernel
theorem dX12_readAway_24 : decode cX12_readAway 24 = .ok (.aload_n 0, 1) := by decide +kernel
theorem dX12_readAway_25 : decode cX12_readAway 25 = .ok (.getfield 22, 3) := by decide +kernel
theorem dX12_readAway_28 : decode cX12_readAway 28 = .ok (.bipush 7, 2) := by decide +kernel
theorem dX12_readAway_30 : decode cX12_readAway 30 = .ok (.iaload, 1) := by decide +kernel
theorem dX12_readAway_31 : decode cX12_readAway 31 = .ok (.imul, 1) := by decide +kernel
theorem dX12_readAway_32 : decode cX12_readAway 32 = .ok (.iadd, 1) := by decide +kernel
theorem dX12_readAway_33 : decode cX12_readAway 33 = .ok (.istore_n 1, 1) := by decide +kernel
theorem dX12_readAway_34 : decode cX12_readAway 34 = .ok (.aload_n 0, 1) := by decide +kernel
theorem dX12_readAway_35 : decode cX12_readAway 35 = .ok (.iload_n 1, 1) := by decide +kernel
theorem dX12_readAway_36 : decode cX12_readAway 36 = .ok (.iconst 0, 1) := by decide +kernel
theorem dX12_readAway_37 : decode cX12_readAway 37 = .ok (.bipush 59, 2) := by decide +kernel
theorem dX12_readAway_39 : decode cX12_readAway 39 = .ok (.invokevirtual 190, 3) := by decide +kernel
theorem dX12_readAway_42 : decode cX12_readAway 42 = .ok (.aload_n 0, 1) := by decide +kernel
theorem dX12_readAway_43 : decode cX12_readAway 43 = .ok (.iload_n 1, 1) := by decide +kernel
theorem dX12_readAway_44 : decode cX12_readAway 44 = .ok (.iconst 1, 1) := by decide +kernel
theorem dX12_readAway_45 : decode cX12_readAway 45 = .ok (.iadd, 1) := by decide +kernel
theorem dX12_readAway_46 : decode cX12_readAway 46 = .ok (.aload_n 0, 1) := by decide +kernel
theorem dX12_readAway_47 : decode cX12_readAway 47 = .ok (.getfield 159, 3) := by decide +kernel
theorem dX12_readAway_50 : decode cX12_readAway 50 = .ok (.ifCond .ne 12, 3) := by decide +kernel
theorem dX12_readAway_53 : decode cX12_readAway 53 = .ok (.aload_n 0, 1) := by decide +kernel
theorem dX12_readAway_54 : decode cX12_readAway 54 = .ok (.getfield 22, 3) := by decide +kernel
theorem dX12_readAway_57 : decode cX12_readAway 57 = .ok (.iload_n 1, 1) := by decide +kernel
theorem dX12_readAway_58 : decode cX12_readAway 58 = .ok (.iaload, 1) := by decide +kernel
theorem dX12_readAway_59 : decode cX12_readAway 59 = .ok (.goto 4, 3) := by decide +kernel
theorem dX12_readAway_62 : decode cX12_readAway 62 = .ok (.iconst 0, 1) := by decide +kernel
theorem dX12_readAway_63 : decode cX12_readAway 63 = .ok (.bipush 59, 2) := by decide +kernel
theorem dX12_readAway_65 : decode cX12_readAway 65 = .ok (.invokevirtual 190, 3) := by decide +kernel
theorem dX12_readAway_68 : decode cX12_readAway 68 = .ok (.aload_n 0, 1) := by decide +kernel
theorem dX12_readAway_69 : decode cX12_readAway 69 = .ok (.invokevirtual 194, 3) := by decide +kernel
theorem dX12_readAway_72 : decode cX12_readAway 72 = .ok (.aload_n 0, 1) := by decide +kernel
theorem dX12_readAway_73 : decode cX12_readAway 73 = .ok (.getfield 22, 3) := by decide +kernel
theorem dX12_readAway_76 : decode cX12_readAway 76 = .ok (.bipush 7, 2) := by decide +kernel
theorem dX12_readAway_78 : decode cX12_readAway 78 = .ok (.dup2, 1) := by decide +kernel
theorem dX12_readAway_79 : decode cX12_readAway 79 = .ok (.iaload, 1) := by decide +kernel
theorem dX12_readAway_80 : decode cX12_readAway 80 = .ok (.aload_n 0, 1) := by decide +kernel
theorem dX12_readAway_81 : decode cX12_readAway 81 = .ok (.getfield 159, 3) := by decide +kernel
theorem dX12_readAway_84 : decode cX12_readAway 84 = .ok (.ifCond .ne 7, 3) := by decide +kernel
theorem dX12_readAway_87 : decode cX12_readAway 87 = .ok (.iconst 1, 1) := by decide +kernel
theorem dX12_readAway_88 : decode cX12_readAway 88 = .ok (.goto 4, 3) := by decide +kernel
theorem dX12_readAway_91 : decode cX12_readAway 91 = .ok (.iconst 0, 1) := by decide +kernel
theorem dX12_readAway_92 : decode cX12_readAway 92 = .ok (.iadd, 1) := by decide +kernel
theorem dX12_readAway_93 : decode cX12_readAway 93 = .ok (.iastore, 1) := by decide +kernel
theorem dX12_readAway_94 : decode cX12_readAway 94 = .ok (.return_, 1) := by decide +kernel
theorem dX12_readStep_0 : decode cX12_readStep 0 = .ok (.bipush 18, 2) := by decide +kernel
theorem dX12_readStep_2 : decode cX12_readStep 2 = .ok (.iconst 5, 1) := by decide +kernel
theorem dX12_readStep_3 : decode cX12_readStep 3 = .ok (.iload_n 2, 1) := by decide +kernel
theorem dX12_readStep_4 : decode cX12_readStep 4 = .ok (.imul, 1) := by decide +kernel
theorem dX12_readStep_5 : decode cX12_readStep 5 = .ok (.iadd, 1) := by decide +kernel
theorem dX12_readStep_6 : decode cX12_readStep 6 = .ok (.iconst 3, 1) := by decide +kernel
theorem dX12_readStep_7 : decode cX12_readStep 7 = .ok (.iadd, 1) := by decide +kernel
theorem dX12_readStep_8 : decode cX12_readStep 8 = .ok (.istore_n 3, 1) := by decide +kernel
theorem dX12_readStep_9 : decode cX12_readStep 9 = .ok (.aload_n 0, 1) := by decide +kernel
theorem dX12_readStep_10 : decode cX12_readStep 10 = .ok (.getfield 22, 3) := by decide +kernel
theorem dX12_readStep_13 : decode cX12_readStep 13 = .ok (.iload_n 3, 1) := by decide +kernel
theorem dX12_readStep_14 : decode cX12_readStep 14 = .ok (.iaload, 1) := by decide +kernel
theorem dX12_readStep_15 : decode cX12_readStep 15 = .ok (.iconst 3, 1) := by decide +kernel
theorem dX12_readStep_16 : decode cX12_readStep 16 = .ok (.if_icmp .ne 8, 3) := by decide +kernel
theorem dX12_readStep_19 : decode cX12_readStep 19 = .ok (.aload_n 0, 1) := by decide +kernel
theorem dX12_readStep_20 : decode cX12_readStep 20 = .ok (.iconst 3, 1) := by decide +kernel
theorem dX12_readStep_21 : decode cX12_readStep 21 = .ok (.invokevirtual 165, 3) := by decide +kernel
theorem dX12_readStep_24 : decode cX12_readStep 24 = .ok (.aload_n 0, 1) := by decide +kernel
theorem dX12_readStep_25 : decode cX12_readStep 25 = .ok (.iconst 1, 1) := by decide +kernel
theorem dX12_readStep_26 : decode cX12_readStep 26 = .ok (.invokevirtual 172, 3) := by decide +kernel
theorem dX12_readStep_29 : decode cX12_readStep 29 = .ok (.aload_n 0, 1) := by decide +kernel
theorem dX12_readStep_30 : decode cX12_readStep 30 = .ok (.getfield 159, 3) := by decide +kernel
theorem dX12_readStep_33 : decode cX12_readStep 33 = .ok (.ifCond .le 4, 3) := by decide +kernel
theorem dX12_readStep_36 : decode cX12_readStep 36 = .ok (.return_, 1) := by decide +kernel
theorem dX12_readStep_37 : decode cX12_readStep 37 = .ok (.bipush 58, 2) := by decide +kernel
theorem dX12_readStep_39 : decode cX12_readStep 39 = .ok (.bipush 6, 2) := by decide +kernel
theorem dX12_readStep_41 : decode cX12_readStep 41 = .ok (.aload_n 0, 1) := by decide +kernel
theorem dX12_readStep_42 : decode cX12_readStep 42 = .ok (.getfield 22, 3) := by decide +kernel
theorem dX12_readStep_45 : decode cX12_readStep 45 = .ok (.bipush 17, 2) := by decide +kernel
theorem dX12_readStep_47 : decode cX12_readStep 47 = .ok (.iaload, 1) := by decide +kernel
theorem dX12_readStep_48 : decode cX12_readStep 48 = .ok (.imul, 1) := by decide +kernel
theorem dX12_readStep_49 : decode cX12_readStep 49 = .ok (.iadd, 1) := by decide +kernel
theorem dX12_readStep_50 : decode cX12_readStep 50 = .ok (.istore 4, 2) := by decide +kernel
theorem dX12_readStep_52 : decode cX12_readStep 52 = .ok (.aload_n 0, 1) := by decide +kernel
theorem dX12_readStep_53 : decode cX12_readStep 53 = .ok (.getfield 22, 3) := by decide +kernel
theorem dX12_readStep_56 : decode cX12_readStep 56 = .ok (.iload 4, 2) := by decide +kernel
theorem dX12_readStep_58 : decode cX12_readStep 58 = .ok (.iload_n 1, 1) := by decide +kernel
theorem dX12_readStep_59 : decode cX12_readStep 59 = .ok (.iastore, 1) := by decide +kernel
theorem dX12_readStep_60 : decode cX12_readStep 60 = .ok (.aload_n 0, 1) := by decide +kernel
theorem dX12_readStep_61 : decode cX12_readStep 61 = .ok (.getfield 22, 3) := by decide +kernel
theorem dX12_readStep_64 : decode cX12_readStep 64 = .ok (.iload 4, 2) := by decide +kernel
theorem dX12_readStep_66 : decode cX12_readStep 66 = .ok (.iconst 3, 1) := by decide +kernel
theorem dX12_readStep_67 : decode cX12_readStep 67 = .ok (.iadd, 1) := by decide +kernel
theorem dX12_readStep_68 : decode cX12_readStep 68 = .ok (.iload_n 1, 1) := by decide +kernel
theorem dX12_readStep_69 : decode cX12_readStep 69 = .ok (.iconst 3, 1) := by decide +kernel
theorem dX12_readStep_70 : decode cX12_readStep 70 = .ok (.if_icmp .ne 7, 3) := by decide +kernel
theorem dX12_readStep_73 : decode cX12_readStep 73 = .ok (.iconst 2, 1) := by decide +kernel
theorem dX12_readStep_74 : decode cX12_readStep 74 = .ok (.goto 4, 3) := by decide +kernel
theorem dX12_readStep_77 : decode cX12_readStep 77 = .ok (.iconst 0, 1) := by decide +kernel
theorem dX12_readStep_78 : decode cX12_readStep 78 = .ok (.iastore, 1) := by decide +kernel
theorem dX12_readStep_79 : decode cX12_readStep 79 = .ok (.aload_n 0, 1) := by decide +kernel
theorem dX12_readStep_80 : decode cX12_readStep 80 = .ok (.getfield 22, 3) := by decide +kernel
theorem dX12_readStep_83 : decode cX12_readStep 83 = .ok (.iload 4, 2) := by decide +kernel
theorem dX12_readStep_85 : decode cX12_readStep 85 = .ok (.iconst 4, 1) := by decide +kernel
theorem dX12_readStep_86 : decode cX12_readStep 86 = .ok (.iadd, 1) := by decide +kernel
theorem dX12_readStep_87 : decode cX12_readStep 87 = .ok (.ldc 137, 2) := by decide +kernel
theorem dX12_readStep_89 : decode cX12_readStep 89 = .ok (.iastore, 1) := by decide +kernel
theorem dX12_readStep_90 : decode cX12_readStep 90 = .ok (.aload_n 0, 1) := by decide +kernel
theorem dX12_readStep_91 : decode cX12_readStep 91 = .ok (.getfield 22, 3) := by decide +kernel
theorem dX12_readStep_94 : decode cX12_readStep 94 = .ok (.iload 4, 2) := by decide +kernel
theorem dX12_readStep_96 : decode cX12_readStep 96 = .ok (.iconst 5, 1) := by decide +kernel
theorem dX12_readStep_97 : decode cX12_readStep 97 = .ok (.iadd, 1) := by decide +kernel
theorem dX12_readStep_98 : decode cX12_readStep 98 = .ok (.ldc 137, 2) := by decide +kernel
theorem dX12_readStep_100 : decode cX12_readStep 100 = .ok (.iastore, 1) := by decide +kernel
theorem dX12_readStep_101 : decode cX12_readStep 101 = .ok (.aload_n 0, 1) := by decide +kernel
theorem dX12_readStep_102 : decode cX12_readStep 102 = .ok (.iload 4, 2) := by decide +kernel
theorem dX12_readStep_104 : decode cX12_readStep 104 = .ok (.iconst 1, 1) := by decide +kernel
theorem dX12_readStep_105 : decode cX12_readStep 105 = .ok (.iadd, 1) := by decide +kernel
theorem dX12_readStep_106 : decode cX12_readStep 106 = .ok (.iconst 1, 1) := by decide +kernel
theorem dX12_readStep_107 : decode cX12_readStep 107 = .ok (.bipush 30, 2) := by decide +kernel
theorem dX12_readStep_109 : decode cX12_readStep 109 = .ok (.invokevirtual 190, 3) := by decide +kernel
theorem dX12_readStep_112 : decode cX12_readStep 112 = .ok (.aload_n 0, 1) := by decide +kernel
theorem dX12_readStep_113 : decode cX12_readStep 113 = .ok (.iload 4, 2) := by decide +kernel
theorem dX12_readStep_115 : decode cX12_readStep 115 = .ok (.iconst 2, 1) := by decide +kernel
theorem dX12_readStep_116 : decode cX12_readStep 116 = .ok (.iadd, 1) := by decide +kernel
theorem dX12_readStep_117 : decode cX12_readStep 117 = .ok (.iconst 0, 1) := by decide +kernel
theorem dX12_readStep_118 : decode cX12_readStep 118 = .ok (.iconst 1, 1) := by decide +kernel
theorem dX12_readStep_119 : decode cX12_readStep 119 = .ok (.invokevirtual 190, 3) := by decide +kernel
theorem dX12_readStep_122 : decode cX12_readStep 122 = .ok (.iload_n 1, 1) := by decide +kernel
theorem dX12_readStep_123 : decode cX12_readStep 123 = .ok (.iconst 1, 1) := by decide +kernel
theorem dX12_readStep_124 : decode cX12_readStep 124 = .ok (.if_icmp .eq 8, 3) := by decide +kernel
theorem dX12_readStep_127 : decode cX12_readStep 127 = .ok (.iload_n 1, 1) := by decide +kernel
theorem dX12_readStep_128 : decode cX12_readStep 128 = .ok (.iconst 2, 1) := by decide +kernel
theorem dX12_readStep_129 : decode cX12_readStep 129 = .ok (.if_icmp .ne 33, 3) := by decide +kernel
theorem dX12_readStep_132 : decode cX12_readStep 132 = .ok (.aload_n 0, 1) := by decide +kernel
theorem dX12_readStep_133 : decode cX12_readStep 133 = .ok (.iload 4, 2) := by decide +kernel
theorem dX12_readStep_135 : decode cX12_readStep 135 = .ok (.iconst 3, 1) := by decide +kernel
theorem dX12_readStep_136 : decode cX12_readStep 136 = .ok (.iadd, 1) := by decide +kernel
theorem dX12_readStep_137 : decode cX12_readStep 137 = .ok (.iconst 0, 1) := by decide +kernel
theorem dX12_readStep_138 : decode cX12_readStep 138 = .ok (.iconst 2, 1) := by decide +kernel
theorem dX12_readStep_139 : decode cX12_readStep 139 = .ok (.invokevirtual 190, 3) := by decide +kernel
theorem dX12_readStep_142 : decode cX12_readStep 142 = .ok (.aload_n 0, 1) := by decide +kernel
theorem dX12_readStep_143 : decode cX12_readStep 143 = .ok (.iload 4, 2) := by decide +kernel
theorem dX12_readStep_145 : decode cX12_readStep 145 = .ok (.iconst 4, 1) := by decide +kernel
theorem dX12_readStep_146 : decode cX12_readStep 146 = .ok (.iadd, 1) := by decide +kernel
theorem dX12_readStep_147 : decode cX12_readStep 147 = .ok (.iconst 0, 1) := by decide +kernel
theorem dX12_readStep_148 : decode cX12_readStep 148 = .ok (.iload_n 1, 1) := by decide +kernel
theorem dX12_readStep_149 : decode cX12_readStep 149 = .ok (.iconst 1, 1) := by decide +kernel
theorem dX12_readStep_150 : decode cX12_readStep 150 = .ok (.if_icmp .ne 7, 3) := by decide +kernel
theorem dX12_readStep_153 : decode cX12_readStep 153 = .ok (.iconst 1, 1) := by decide +kernel
theorem dX12_readStep_154 : decode cX12_readStep 154 = .ok (.goto 5, 3) := by decide +kernel
theorem dX12_readStep_157 : decode cX12_readStep 157 = .ok (.bipush 9, 2) := by decide +kernel
theorem dX12_readStep_159 : decode cX12_readStep 159 = .ok (.invokevirtual 190, 3) := by decide +kernel
theorem dX12_readStep_162 : decode cX12_readStep 162 = .ok (.iload_n 1, 1) := by decide +kernel
theorem dX12_readStep_163 : decode cX12_readStep 163 = .ok (.iconst 2, 1) := by decide +kernel
theorem dX12_readStep_164 : decode cX12_readStep 164 = .ok (.if_icmp .ne 33, 3) := by decide +kernel
theorem dX12_readStep_167 : decode cX12_readStep 167 = .ok (.aload_n 0, 1) := by decide +kernel
theorem dX12_readStep_168 : decode cX12_readStep 168 = .ok (.iload 4, 2) := by decide +kernel
theorem dX12_readStep_170 : decode cX12_readStep 170 = .ok (.iconst 5, 1) := by decide +kernel
theorem dX12_readStep_171 : decode cX12_readStep 171 = .ok (.iadd, 1) := by decide +kernel
theorem dX12_readStep_172 : decode cX12_readStep 172 = .ok (.aload_n 0, 1) := by decide +kernel
theorem dX12_readStep_173 : decode cX12_readStep 173 = .ok (.getfield 159, 3) := by decide +kernel
theorem dX12_readStep_176 : decode cX12_readStep 176 = .ok (.ifCond .ne 15, 3) := by decide +kernel
theorem dX12_readStep_179 : decode cX12_readStep 179 = .ok (.aload_n 0, 1) := by decide +kernel
theorem dX12_readStep_180 : decode cX12_readStep 180 = .ok (.getfield 22, 3) := by decide +kernel
theorem dX12_readStep_183 : decode cX12_readStep 183 = .ok (.iload 4, 2) := by decide +kernel
theorem dX12_readStep_185 : decode cX12_readStep 185 = .ok (.iconst 4, 1) := by decide +kernel
theorem dX12_readStep_186 : decode cX12_readStep 186 = .ok (.iadd, 1) := by decide +kernel
theorem dX12_readStep_187 : decode cX12_readStep 187 = .ok (.iaload, 1) := by decide +kernel
theorem dX12_readStep_188 : decode cX12_readStep 188 = .ok (.goto 4, 3) := by decide +kernel
theorem dX12_readStep_191 : decode cX12_readStep 191 = .ok (.iconst 0, 1) := by decide +kernel
theorem dX12_readStep_192 : decode cX12_readStep 192 = .ok (.bipush 9, 2) := by decide +kernel
theorem dX12_readStep_194 : decode cX12_readStep 194 = .ok (.invokevirtual 190, 3) := by decide +kernel
theorem dX12_readStep_197 : decode cX12_readStep 197 = .ok (.iload_n 1, 1) := by decide +kernel
theorem dX12_readStep_198 : decode cX12_readStep 198 = .ok (.iconst 5, 1) := by decide +kernel
theorem dX12_readStep_199 : decode cX12_readStep 199 = .ok (.if_icmp .ne 14, 3) := by decide +kernel
theorem dX12_readStep_202 : decode cX12_readStep 202 = .ok (.aload_n 0, 1) := by decide +kernel
theorem dX12_readStep_203 : decode cX12_readStep 203 = .ok (.iload 4, 2) := by decide +kernel
theorem dX12_readStep_205 : decode cX12_readStep 205 = .ok (.iconst 4, 1) := by decide +kernel
theorem dX12_readStep_206 : decode cX12_readStep 206 = .ok (.iadd, 1) := by decide +kernel
theorem dX12_readStep_207 : decode cX12_readStep 207 = .ok (.iconst 0, 1) := by decide +kernel
theorem dX12_readStep_208 : decode cX12_readStep 208 = .ok (.bipush 9, 2) := by decide +kernel
theorem dX12_readStep_210 : decode cX12_readStep 210 = .ok (.invokevirtual 190, 3) := by decide +kernel
theorem dX12_readStep_213 : decode cX12_readStep 213 = .ok (.aload_n 0, 1) := by decide +kernel
theorem dX12_readStep_214 : decode cX12_readStep 214 = .ok (.invokevirtual 194, 3) := by decide +kernel
theorem dX12_readStep_217 : decode cX12_readStep 217 = .ok (.aload_n 0, 1) := by decide +kernel
theorem dX12_readStep_218 : decode cX12_readStep 218 = .ok (.getfield 22, 3) := by decide +kernel
theorem dX12_readStep_221 : decode cX12_readStep 221 = .ok (.iload_n 3, 1) := by decide +kernel
theorem dX12_readStep_222 : decode cX12_readStep 222 = .ok (.dup2, 1) := by decide +kernel
theorem dX12_readStep_223 : decode cX12_readStep 223 = .ok (.iaload, 1) := by decide +kernel
theorem dX12_readStep_224 : decode cX12_readStep 224 = .ok (.iconst 1, 1) := by decide +kernel
theorem dX12_readStep_225 : decode cX12_readStep 225 = .ok (.iadd, 1) := by decide +kernel
theorem dX12_readStep_226 : decode cX12_readStep 226 = .ok (.iastore, 1) := by decide +kernel
theorem dX12_readStep_227 : decode cX12_readStep 227 = .ok (.aload_n 0, 1) := by decide +kernel
theorem dX12_readStep_228 : decode cX12_readStep 228 = .ok (.getfield 22, 3) := by decide +kernel
theorem dX12_readStep_231 : decode cX12_readStep 231 = .ok (.bipush 17, 2) := by decide +kernel
theorem dX12_readStep_233 : decode cX12_readStep 233 = .ok (.dup2, 1) := by decide +kernel
theorem dX12_readStep_234 : decode cX12_readStep 234 = .ok (.iaload, 1) := by decide +kernel
theorem dX12_readStep_235 : decode cX12_readStep 235 = .ok (.iconst 1, 1) := by decide +kernel
theorem dX12_readStep_236 : decode cX12_readStep 236 = .ok (.iadd, 1) := by decide +kernel
theorem dX12_readStep_237 : decode cX12_readStep 237 = .ok (.iastore, 1) := by decide +kernel
theorem dX12_readStep_238 : decode cX12_readStep 238 = .ok (.return_, 1) := by decide +kernel
theorem dX12_readDish_0 : decode cX12_readDish 0 = .ok (.aload_n 0, 1) := by decide +kernel
theorem dX12_readDish_1 : decode cX12_readDish 1 = .ok (.getfield 22, 3) := by decide +kernel
theorem dX12_readDish_4 : decode cX12_readDish 4 = .ok (.bipush 16, 2) := by decide +kernel
theorem dX12_readDish_6 : decode cX12_readDish 6 = .ok (.iaload, 1) := by decide +kernel
theorem dX12_readDish_7 : decode cX12_readDish 7 = .ok (.bipush 8, 2) := by decide +kernel
theorem dX12_readDish_9 : decode cX12_readDish 9 = .ok (.if_icmp .ne 8, 3) := by decide +kernel
theorem dX12_readDish_12 : decode cX12_readDish 12 = .ok (.aload_n 0, 1) := by decide +kernel
theorem dX12_readDish_13 : decode cX12_readDish 13 = .ok (.iconst 3, 1) := by decide +kernel
theorem dX12_readDish_14 : decode cX12_readDish 14 = .ok (.invokevirtual 165, 3) := by decide +kernel
theorem dX12_readDish_17 : decode cX12_readDish 17 = .ok (.aload_n 0, 1) := by decide +kernel
theorem dX12_readDish_18 : decode cX12_readDish 18 = .ok (.iconst 1, 1) := by decide +kernel
theorem dX12_readDish_19 : decode cX12_readDish 19 = .ok (.invokevirtual 172, 3) := by decide +kernel
theorem dX12_readDish_22 : decode cX12_readDish 22 = .ok (.aload_n 0, 1) := by decide +kernel
theorem dX12_readDish_23 : decode cX12_readDish 23 = .ok (.getfield 22, 3) := by decide +kernel
theorem dX12_readDish_26 : decode cX12_readDish 26 = .ok (.bipush 16, 2) := by decide +kernel
theorem dX12_readDish_28 : decode cX12_readDish 28 = .ok (.iaload, 1) := by decide +kernel
theorem dX12_readDish_29 : decode cX12_readDish 29 = .ok (.istore_n 1, 1) := by decide +kernel
theorem dX12_readDish_30 : decode cX12_readDish 30 = .ok (.bipush 18, 2) := by decide +kernel
theorem dX12_readDish_32 : decode cX12_readDish 32 = .ok (.iconst 5, 1) := by decide +kernel
theorem dX12_readDish_33 : decode cX12_readDish 33 = .ok (.iload_n 1, 1) := by decide +kernel
theorem dX12_readDish_34 : decode cX12_readDish 34 = .ok (.imul, 1) := by decide +kernel
theorem dX12_readDish_35 : decode cX12_readDish 35 = .ok (.iadd, 1) := by decide +kernel
theorem dX12_readDish_36 : decode cX12_readDish 36 = .ok (.istore_n 2, 1) := by decide +kernel
theorem dX12_readDish_37 : decode cX12_readDish 37 = .ok (.aload_n 0, 1) := by decide +kernel
theorem dX12_readDish_38 : decode cX12_readDish 38 = .ok (.iload_n 2, 1) := by decide +kernel
theorem dX12_readDish_39 : decode cX12_readDish 39 = .ok (.iconst 0, 1) := by decide +kernel
theorem dX12_readDish_40 : decode cX12_readDish 40 = .ok (.iconst 2, 1) := by decide +kernel
theorem dX12_readDish_41 : decode cX12_readDish 41 = .ok (.invokevirtual 190, 3) := by decide +kernel
theorem dX12_readDish_44 : decode cX12_readDish 44 = .ok (.aload_n 0, 1) := by decide +kernel
theorem dX12_readDish_45 : decode cX12_readDish 45 = .ok (.iload_n 2, 1) := by decide +kernel
theorem dX12_readDish_46 : decode cX12_readDish 46 = .ok (.iconst 1, 1) := by decide +kernel
theorem dX12_readDish_47 : decode cX12_readDish 47 = .ok (.iadd, 1) := by decide +kernel
theorem dX12_readDish_48 : decode cX12_readDish 48 = .ok (.iconst 0, 1) := by decide +kernel
theorem dX12_readDish_49 : decode cX12_readDish 49 = .ok (.bipush 9, 2) := by decide +kernel
theorem dX12_readDish_51 : decode cX12_readDish 51 = .ok (.invokevirtual 190, 3) := by decide +kernel
theorem dX12_readDish_54 : decode cX12_readDish 54 = .ok (.aload_n 0, 1) := by decide +kernel
theorem dX12_readDish_55 : decode cX12_readDish 55 = .ok (.iload_n 2, 1) := by decide +kernel
theorem dX12_readDish_56 : decode cX12_readDish 56 = .ok (.iconst 2, 1) := by decide +kernel
theorem dX12_readDish_57 : decode cX12_readDish 57 = .ok (.iadd, 1) := by decide +kernel
theorem dX12_readDish_58 : decode cX12_readDish 58 = .ok (.iconst 0, 1) := by decide +kernel
theorem dX12_readDish_59 : decode cX12_readDish 59 = .ok (.iconst 1, 1) := by decide +kernel
theorem dX12_readDish_60 : decode cX12_readDish 60 = .ok (.invokevirtual 190, 3) := by decide +kernel
theorem dX12_readDish_63 : decode cX12_readDish 63 = .ok (.aload_n 0, 1) := by decide +kernel
theorem dX12_readDish_64 : decode cX12_readDish 64 = .ok (.invokevirtual 194, 3) := by decide +kernel
theorem dX12_readDish_67 : decode cX12_readDish 67 = .ok (.aload_n 0, 1) := by decide +kernel
theorem dX12_readDish_68 : decode cX12_readDish 68 = .ok (.getfield 159, 3) := by decide +kernel
theorem dX12_readDish_71 : decode cX12_readDish 71 = .ok (.ifCond .le 4, 3) := by decide +kernel
theorem dX12_readDish_74 : decode cX12_readDish 74 = .ok (.return_, 1) := by decide +kernel
theorem dX12_readDish_75 : decode cX12_readDish 75 = .ok (.aload_n 0, 1) := by decide +kernel
theorem dX12_readDish_76 : decode cX12_readDish 76 = .ok (.getfield 22, 3) := by decide +kernel
theorem dX12_readDish_79 : decode cX12_readDish 79 = .ok (.iload_n 2, 1) := by decide +kernel
theorem dX12_readDish_80 : decode cX12_readDish 80 = .ok (.iconst 4, 1) := by decide +kernel
theorem dX12_readDish_81 : decode cX12_readDish 81 = .ok (.iadd, 1) := by decide +kernel
theorem dX12_readDish_82 : decode cX12_readDish 82 = .ok (.aload_n 0, 1) := by decide +kernel
theorem dX12_readDish_83 : decode cX12_readDish 83 = .ok (.getfield 22, 3) := by decide +kernel
theorem dX12_readDish_86 : decode cX12_readDish 86 = .ok (.bipush 17, 2) := by decide +kernel
theorem dX12_readDish_88 : decode cX12_readDish 88 = .ok (.iaload, 1) := by decide +kernel
theorem dX12_readDish_89 : decode cX12_readDish 89 = .ok (.iastore, 1) := by decide +kernel
theorem dX12_readDish_90 : decode cX12_readDish 90 = .ok (.aload_n 0, 1) := by decide +kernel
theorem dX12_readDish_91 : decode cX12_readDish 91 = .ok (.getfield 22, 3) := by decide +kernel
theorem dX12_readDish_94 : decode cX12_readDish 94 = .ok (.iload_n 2, 1) := by decide +kernel
theorem dX12_readDish_95 : decode cX12_readDish 95 = .ok (.iconst 3, 1) := by decide +kernel
theorem dX12_readDish_96 : decode cX12_readDish 96 = .ok (.iadd, 1) := by decide +kernel
theorem dX12_readDish_97 : decode cX12_readDish 97 = .ok (.iconst 0, 1) := by decide +kernel
theorem dX12_readDish_98 : decode cX12_readDish 98 = .ok (.iastore, 1) := by decide +kernel
theorem dX12_readDish_99 : decode cX12_readDish 99 = .ok (.aload_n 0, 1) := by decide +kernel
theorem dX12_readDish_100 : decode cX12_readDish 100 = .ok (.invokevirtual 197, 3) := by decide +kernel
theorem dX12_readDish_103 : decode cX12_readDish 103 = .ok (.istore_n 3, 1) := by decide +kernel
theorem dX12_readDish_104 : decode cX12_readDish 104 = .ok (.iload_n 3, 1) := by decide +kernel
theorem dX12_readDish_105 : decode cX12_readDish 105 = .ok (.ldc 137, 2) := by decide +kernel
theorem dX12_readDish_107 : decode cX12_readDish 107 = .ok (.if_icmp .ne 8, 3) := by decide +kernel
theorem dX12_readDish_110 : decode cX12_readDish 110 = .ok (.aload_n 0, 1) := by decide +kernel
theorem dX12_readDish_111 : decode cX12_readDish 111 = .ok (.iconst 1, 1) := by decide +kernel
theorem dX12_readDish_112 : decode cX12_readDish 112 = .ok (.invokevirtual 165, 3) := by decide +kernel
theorem dX12_readDish_115 : decode cX12_readDish 115 = .ok (.aload_n 0, 1) := by decide +kernel
theorem dX12_readDish_116 : decode cX12_readDish 116 = .ok (.getfield 159, 3) := by decide +kernel
theorem dX12_readDish_119 : decode cX12_readDish 119 = .ok (.ifCond .ne 23, 3) := by decide +kernel
theorem dX12_readDish_122 : decode cX12_readDish 122 = .ok (.iload_n 3, 1) := by decide +kernel
theorem dX12_readDish_123 : decode cX12_readDish 123 = .ok (.ldc 137, 2) := by decide +kernel
theorem dX12_readDish_125 : decode cX12_readDish 125 = .ok (.if_icmp .eq 17, 3) := by decide +kernel
theorem dX12_readDish_128 : decode cX12_readDish 128 = .ok (.aload_n 0, 1) := by decide +kernel
theorem dX12_readDish_129 : decode cX12_readDish 129 = .ok (.iload_n 3, 1) := by decide +kernel
theorem dX12_readDish_130 : decode cX12_readDish 130 = .ok (.iload_n 1, 1) := by decide +kernel
theorem dX12_readDish_131 : decode cX12_readDish 131 = .ok (.invokevirtual 201, 3) := by decide +kernel
theorem dX12_readDish_134 : decode cX12_readDish 134 = .ok (.aload_n 0, 1) := by decide +kernel
theorem dX12_readDish_135 : decode cX12_readDish 135 = .ok (.invokevirtual 197, 3) := by decide +kernel
theorem dX12_readDish_138 : decode cX12_readDish 138 = .ok (.istore_n 3, 1) := by decide +kernel
theorem dX12_readDish_139 : decode cX12_readDish 139 = .ok (.goto (-24), 3) := by decide +kernel
theorem dX12_readDish_142 : decode cX12_readDish 142 = .ok (.aload_n 0, 1) := by decide +kernel
theorem dX12_readDish_143 : decode cX12_readDish 143 = .ok (.getfield 22, 3) := by decide +kernel
theorem dX12_readDish_146 : decode cX12_readDish 146 = .ok (.bipush 16, 2) := by decide +kernel
theorem dX12_readDish_148 : decode cX12_readDish 148 = .ok (.dup2, 1) := by decide +kernel
theorem dX12_readDish_149 : decode cX12_readDish 149 = .ok (.iaload, 1) := by decide +kernel
theorem dX12_readDish_150 : decode cX12_readDish 150 = .ok (.iconst 1, 1) := by decide +kernel
theorem dX12_readDish_151 : decode cX12_readDish 151 = .ok (.iadd, 1) := by decide +kernel
theorem dX12_readDish_152 : decode cX12_readDish 152 = .ok (.iastore, 1) := by decide +kernel
theorem dX12_readDish_153 : decode cX12_readDish 153 = .ok (.return_, 1) := by decide +kernel
theorem dX12_book_0 : decode cX12_book 0 = .ok (.aload_n 0, 1) := by decide +kernel
theorem dX12_book_1 : decode cX12_book 1 = .ok (.iconst 0, 1) := by decide +kernel
theorem dX12_book_2 : decode cX12_book 2 = .ok (.putfield 101, 3) := by decide +kernel
theorem dX12_book_5 : decode cX12_book 5 = .ok (.aload_n 0, 1) := by decide +kernel
theorem dX12_book_6 : decode cX12_book 6 = .ok (.aload_n 0, 1) := by decide +kernel
theorem dX12_book_7 : decode cX12_book 7 = .ok (.getfield 128, 3) := by decide +kernel
theorem dX12_book_10 : decode cX12_book 10 = .ok (.putfield 134, 3) := by decide +kernel
theorem dX12_book_13 : decode cX12_book 13 = .ok (.aload_n 0, 1) := by decide +kernel
theorem dX12_book_14 : decode cX12_book 14 = .ok (.iconst 0, 1) := by decide +kernel
theorem dX12_book_15 : decode cX12_book 15 = .ok (.putfield 128, 3) := by decide +kernel
theorem dX12_book_18 : decode cX12_book 18 = .ok (.aload_n 0, 1) := by decide +kernel
theorem dX12_book_19 : decode cX12_book 19 = .ok (.iconst 0, 1) := by decide +kernel
theorem dX12_book_20 : decode cX12_book 20 = .ok (.putfield 138, 3) := by decide +kernel
theorem dX12_book_23 : decode cX12_book 23 = .ok (.aload_n 0, 1) := by decide +kernel
theorem dX12_book_24 : decode cX12_book 24 = .ok (.iconst 0, 1) := by decide +kernel
theorem dX12_book_25 : decode cX12_book 25 = .ok (.putfield 159, 3) := by decide +kernel
theorem dX12_book_28 : decode cX12_book 28 = .ok (.iconst 0, 1) := by decide +kernel
theorem dX12_book_29 : decode cX12_book 29 = .ok (.istore_n 1, 1) := by decide +kernel
theorem dX12_book_30 : decode cX12_book 30 = .ok (.iload_n 1, 1) := by decide +kernel
theorem dX12_book_31 : decode cX12_book 31 = .ok (.sipush 204, 3) := by decide +kernel
theorem dX12_book_34 : decode cX12_book 34 = .ok (.if_icmp .ge 16, 3) := by decide +kernel
theorem dX12_book_37 : decode cX12_book 37 = .ok (.aload_n 0, 1) := by decide +kernel
theorem dX12_book_38 : decode cX12_book 38 = .ok (.getfield 22, 3) := by decide +kernel
theorem dX12_book_41 : decode cX12_book 41 = .ok (.iload_n 1, 1) := by decide +kernel
theorem dX12_book_42 : decode cX12_book 42 = .ok (.iconst 0, 1) := by decide +kernel
theorem dX12_book_43 : decode cX12_book 43 = .ok (.iastore, 1) := by decide +kernel
theorem dX12_book_44 : decode cX12_book 44 = .ok (.iinc 1 1, 3) := by decide +kernel
theorem dX12_book_47 : decode cX12_book 47 = .ok (.goto (-17), 3) := by decide +kernel
theorem dX12_book_50 : decode cX12_book 50 = .ok (.aload_n 0, 1) := by decide +kernel
theorem dX12_book_51 : decode cX12_book 51 = .ok (.invokevirtual 169, 3) := by decide +kernel
theorem dX12_book_54 : decode cX12_book 54 = .ok (.aload_n 0, 1) := by decide +kernel
theorem dX12_book_55 : decode cX12_book 55 = .ok (.aload_n 0, 1) := by decide +kernel
theorem dX12_book_56 : decode cX12_book 56 = .ok (.invokevirtual 176, 3) := by decide +kernel
theorem dX12_book_59 : decode cX12_book 59 = .ok (.ldc2_w 205, 3) := by decide +kernel
theorem dX12_book_62 : decode cX12_book 62 = .ok (.lcmp, 1) := by decide +kernel
theorem dX12_book_63 : decode cX12_book 63 = .ok (.ifCond .ne 7, 3) := by decide +kernel
theorem dX12_book_66 : decode cX12_book 66 = .ok (.iconst 1, 1) := by decide +kernel
theorem dX12_book_67 : decode cX12_book 67 = .ok (.goto 4, 3) := by decide +kernel
theorem dX12_book_70 : decode cX12_book 70 = .ok (.iconst 0, 1) := by decide +kernel
theorem dX12_book_71 : decode cX12_book 71 = .ok (.invokevirtual 172, 3) := by decide +kernel
theorem dX12_book_74 : decode cX12_book 74 = .ok (.iconst 0, 1) := by decide +kernel
theorem dX12_book_75 : decode cX12_book 75 = .ok (.istore_n 1, 1) := by decide +kernel
theorem dX12_book_76 : decode cX12_book 76 = .ok (.iload_n 1, 1) := by decide +kernel
theorem dX12_book_77 : decode cX12_book 77 = .ok (.bipush 7, 2) := by decide +kernel
theorem dX12_book_79 : decode cX12_book 79 = .ok (.if_icmp .ge 40, 3) := by decide +kernel
theorem dX12_book_82 : decode cX12_book 82 = .ok (.aload_n 0, 1) := by decide +kernel
theorem dX12_book_83 : decode cX12_book 83 = .ok (.iload_n 1, 1) := by decide +kernel
theorem dX12_book_84 : decode cX12_book 84 = .ok (.iload_n 1, 1) := by decide +kernel
theorem dX12_book_85 : decode cX12_book 85 = .ok (.iconst 5, 1) := by decide +kernel
theorem dX12_book_86 : decode cX12_book 86 = .ok (.if_icmp .ne 7, 3) := by decide +kernel
theorem dX12_book_89 : decode cX12_book 89 = .ok (.iconst 1, 1) := by decide +kernel
theorem dX12_book_90 : decode cX12_book 90 = .ok (.goto 4, 3) := by decide +kernel
theorem dX12_book_93 : decode cX12_book 93 = .ok (.iconst 0, 1) := by decide +kernel
theorem dX12_book_94 : decode cX12_book 94 = .ok (.iload_n 1, 1) := by decide +kernel
theorem dX12_book_95 : decode cX12_book 95 = .ok (.iconst 3, 1) := by decide +kernel
theorem dX12_book_96 : decode cX12_book 96 = .ok (.if_icmp .lt 8, 3) := by decide +kernel
theorem dX12_book_99 : decode cX12_book 99 = .ok (.iload_n 1, 1) := by decide +kernel
theorem dX12_book_100 : decode cX12_book 100 = .ok (.iconst 5, 1) := by decide +kernel
theorem dX12_book_101 : decode cX12_book 101 = .ok (.if_icmp .ne 7, 3) := by decide +kernel
theorem dX12_book_104 : decode cX12_book 104 = .ok (.iconst 3, 1) := by decide +kernel
theorem dX12_book_105 : decode cX12_book 105 = .ok (.goto 5, 3) := by decide +kernel
theorem dX12_book_108 : decode cX12_book 108 = .ok (.bipush 9, 2) := by decide +kernel
theorem dX12_book_110 : decode cX12_book 110 = .ok (.invokevirtual 190, 3) := by decide +kernel
theorem dX12_book_113 : decode cX12_book 113 = .ok (.iinc 1 1, 3) := by decide +kernel
theorem dX12_book_116 : decode cX12_book 116 = .ok (.goto (-40), 3) := by decide +kernel
theorem dX12_book_119 : decode cX12_book 119 = .ok (.aload_n 0, 1) := by decide +kernel
theorem dX12_book_120 : decode cX12_book 120 = .ok (.invokevirtual 194, 3) := by decide +kernel
theorem dX12_book_123 : decode cX12_book 123 = .ok (.aload_n 0, 1) := by decide +kernel
theorem dX12_book_124 : decode cX12_book 124 = .ok (.invokevirtual 176, 3) := by decide +kernel
theorem dX12_book_127 : decode cX12_book 127 = .ok (.ldc2_w 207, 3) := by decide +kernel
theorem dX12_book_130 : decode cX12_book 130 = .ok (.lcmp, 1) := by decide +kernel
theorem dX12_book_131 : decode cX12_book 131 = .ok (.ifCond .ne 10, 3) := by decide +kernel
theorem dX12_book_134 : decode cX12_book 134 = .ok (.aload_n 0, 1) := by decide +kernel
theorem dX12_book_135 : decode cX12_book 135 = .ok (.invokevirtual 209, 3) := by decide +kernel
theorem dX12_book_138 : decode cX12_book 138 = .ok (.goto (-15), 3) := by decide +kernel
theorem dX12_book_141 : decode cX12_book 141 = .ok (.aload_n 0, 1) := by decide +kernel
theorem dX12_book_142 : decode cX12_book 142 = .ok (.getfield 159, 3) := by decide +kernel
theorem dX12_book_145 : decode cX12_book 145 = .ok (.ifCond .ne 19, 3) := by decide +kernel
theorem dX12_book_148 : decode cX12_book 148 = .ok (.aload_n 0, 1) := by decide +kernel
theorem dX12_book_149 : decode cX12_book 149 = .ok (.invokevirtual 176, 3) := by decide +kernel
theorem dX12_book_152 : decode cX12_book 152 = .ok (.ldc2_w 212, 3) := by decide +kernel
theorem dX12_book_155 : decode cX12_book 155 = .ok (.lcmp, 1) := by decide +kernel
theorem dX12_book_156 : decode cX12_book 156 = .ok (.ifCond .eq 8, 3) := by decide +kernel
theorem dX12_book_159 : decode cX12_book 159 = .ok (.aload_n 0, 1) := by decide +kernel
theorem dX12_book_160 : decode cX12_book 160 = .ok (.iconst 1, 1) := by decide +kernel
theorem dX12_book_161 : decode cX12_book 161 = .ok (.invokevirtual 165, 3) := by decide +kernel
theorem dX12_book_164 : decode cX12_book 164 = .ok (.aload_n 0, 1) := by decide +kernel
theorem dX12_book_165 : decode cX12_book 165 = .ok (.invokevirtual 176, 3) := by decide +kernel
theorem dX12_book_168 : decode cX12_book 168 = .ok (.ldc2_w 212, 3) := by decide +kernel
theorem dX12_book_171 : decode cX12_book 171 = .ok (.lcmp, 1) := by decide +kernel
theorem dX12_book_172 : decode cX12_book 172 = .ok (.ifCond .ne 10, 3) := by decide +kernel
theorem dX12_book_175 : decode cX12_book 175 = .ok (.aload_n 0, 1) := by decide +kernel
theorem dX12_book_176 : decode cX12_book 176 = .ok (.invokevirtual 214, 3) := by decide +kernel
theorem dX12_book_179 : decode cX12_book 179 = .ok (.goto (-15), 3) := by decide +kernel
theorem dX12_book_182 : decode cX12_book 182 = .ok (.aload_n 0, 1) := by decide +kernel
theorem dX12_book_183 : decode cX12_book 183 = .ok (.getfield 159, 3) := by decide +kernel
theorem dX12_book_186 : decode cX12_book 186 = .ok (.ifCond .ne 16, 3) := by decide +kernel
theorem dX12_book_189 : decode cX12_book 189 = .ok (.aload_n 0, 1) := by decide +kernel
theorem dX12_book_190 : decode cX12_book 190 = .ok (.getfield 147, 3) := by decide +kernel
theorem dX12_book_193 : decode cX12_book 193 = .ok (.iconst 1, 1) := by decide +kernel
theorem dX12_book_194 : decode cX12_book 194 = .ok (.if_icmp .eq 8, 3) := by decide +kernel
theorem dX12_book_197 : decode cX12_book 197 = .ok (.aload_n 0, 1) := by decide +kernel
theorem dX12_book_198 : decode cX12_book 198 = .ok (.iconst 1, 1) := by decide +kernel
theorem dX12_book_199 : decode cX12_book 199 = .ok (.invokevirtual 165, 3) := by decide +kernel
theorem dX12_book_202 : decode cX12_book 202 = .ok (.aload_n 0, 1) := by decide +kernel
theorem dX12_book_203 : decode cX12_book 203 = .ok (.getfield 159, 3) := by decide +kernel
theorem dX12_book_206 : decode cX12_book 206 = .ok (.ifCond .le 19, 3) := by decide +kernel
theorem dX12_book_209 : decode cX12_book 209 = .ok (.aload_n 0, 1) := by decide +kernel
theorem dX12_book_210 : decode cX12_book 210 = .ok (.aload_n 0, 1) := by decide +kernel
theorem dX12_book_211 : decode cX12_book 211 = .ok (.getfield 159, 3) := by decide +kernel
theorem dX12_book_214 : decode cX12_book 214 = .ok (.putfield 217, 3) := by decide +kernel
theorem dX12_book_217 : decode cX12_book 217 = .ok (.ldc 220, 2) := by decide +kernel
theorem dX12_book_219 : decode cX12_book 219 = .ok (.aload_n 0, 1) := by decide +kernel
theorem dX12_book_220 : decode cX12_book 220 = .ok (.getfield 162, 3) := by decide +kernel
theorem dX12_book_223 : decode cX12_book 223 = .ok (.isub, 1) := by decide +kernel
theorem dX12_book_224 : decode cX12_book 224 = .ok (.ireturn, 1) := by decide +kernel
theorem dX12_book_225 : decode cX12_book 225 = .ok (.aload_n 0, 1) := by decide +kernel
theorem dX12_book_226 : decode cX12_book 226 = .ok (.getfield 22, 3) := by decide +kernel
theorem dX12_book_229 : decode cX12_book 229 = .ok (.sipush 202, 3) := by decide +kernel
theorem dX12_book_232 : decode cX12_book 232 = .ok (.iconst 1, 1) := by decide +kernel
theorem dX12_book_233 : decode cX12_book 233 = .ok (.iastore, 1) := by decide +kernel
theorem dX12_book_234 : decode cX12_book 234 = .ok (.aload_n 0, 1) := by decide +kernel
theorem dX12_book_235 : decode cX12_book 235 = .ok (.getfield 22, 3) := by decide +kernel
theorem dX12_book_238 : decode cX12_book 238 = .ok (.sipush 203, 3) := by decide +kernel
theorem dX12_book_241 : decode cX12_book 241 = .ok (.bipush 60, 2) := by decide +kernel
theorem dX12_book_243 : decode cX12_book 243 = .ok (.iastore, 1) := by decide +kernel
theorem dX12_book_244 : decode cX12_book 244 = .ok (.iconst 0, 1) := by decide +kernel
theorem dX12_book_245 : decode cX12_book 245 = .ok (.istore_n 1, 1) := by decide +kernel
theorem dX12_book_246 : decode cX12_book 246 = .ok (.iload_n 1, 1) := by decide +kernel
theorem dX12_book_247 : decode cX12_book 247 = .ok (.sipush 204, 3) := by decide +kernel
theorem dX12_book_250 : decode cX12_book 250 = .ok (.if_icmp .ge 21, 3) := by decide +kernel
theorem dX12_book_253 : decode cX12_book 253 = .ok (.aload_n 0, 1) := by decide +kernel
theorem dX12_book_254 : decode cX12_book 254 = .ok (.getfield 19, 3) := by decide +kernel
theorem dX12_book_257 : decode cX12_book 257 = .ok (.iload_n 1, 1) := by decide +kernel
theorem dX12_book_258 : decode cX12_book 258 = .ok (.aload_n 0, 1) := by decide +kernel
theorem dX12_book_259 : decode cX12_book 259 = .ok (.getfield 22, 3) := by decide +kernel
theorem dX12_book_262 : decode cX12_book 262 = .ok (.iload_n 1, 1) := by decide +kernel
theorem dX12_book_263 : decode cX12_book 263 = .ok (.iaload, 1) := by decide +kernel
theorem dX12_book_264 : decode cX12_book 264 = .ok (.iastore, 1) := by decide +kernel
theorem dX12_book_265 : decode cX12_book 265 = .ok (.iinc 1 1, 3) := by decide +kernel
theorem dX12_book_268 : decode cX12_book 268 = .ok (.goto (-22), 3) := by decide +kernel
theorem dX12_book_271 : decode cX12_book 271 = .ok (.aload_n 0, 1) := by decide +kernel
theorem dX12_book_272 : decode cX12_book 272 = .ok (.iconst 1, 1) := by decide +kernel
theorem dX12_book_273 : decode cX12_book 273 = .ok (.putfield 221, 3) := by decide +kernel
theorem dX12_book_276 : decode cX12_book 276 = .ok (.aload_n 0, 1) := by decide +kernel
theorem dX12_book_277 : decode cX12_book 277 = .ok (.invokevirtual 225, 3) := by decide +kernel
theorem dX12_book_280 : decode cX12_book 280 = .ok (.aload_n 0, 1) := by decide +kernel
theorem dX12_book_281 : decode cX12_book 281 = .ok (.getfield 19, 3) := by decide +kernel
theorem dX12_book_284 : decode cX12_book 284 = .ok (.bipush 16, 2) := by decide +kernel
theorem dX12_book_286 : decode cX12_book 286 = .ok (.iaload, 1) := by decide +kernel
theorem dX12_book_287 : decode cX12_book 287 = .ok (.ireturn, 1) := by decide +kernel
theorem dX12_fault_0 : decode cX12_fault 0 = .ok (.aload_n 0, 1) := by decide +kernel
theorem dX12_fault_1 : decode cX12_fault 1 = .ok (.iconst 0, 1) := by decide +kernel
theorem dX12_fault_2 : decode cX12_fault 2 = .ok (.putfield 101, 3) := by decide +kernel
theorem dX12_fault_5 : decode cX12_fault 5 = .ok (.aload_n 0, 1) := by decide +kernel
theorem dX12_fault_6 : decode cX12_fault 6 = .ok (.getfield 217, 3) := by decide +kernel
theorem dX12_fault_9 : decode cX12_fault 9 = .ok (.ireturn, 1) := by decide +kernel
theorem dX12_dishOf_0 : decode cX12_dishOf 0 = .ok (.aload_n 0, 1) := by decide +kernel
theorem dX12_dishOf_1 : decode cX12_dishOf 1 = .ok (.getfield 19, 3) := by decide +kernel
theorem dX12_dishOf_4 : decode cX12_dishOf 4 = .ok (.bipush 18, 2) := by decide +kernel
theorem dX12_dishOf_6 : decode cX12_dishOf 6 = .ok (.iconst 5, 1) := by decide +kernel
theorem dX12_dishOf_7 : decode cX12_dishOf 7 = .ok (.iload_n 1, 1) := by decide +kernel
theorem dX12_dishOf_8 : decode cX12_dishOf 8 = .ok (.imul, 1) := by decide +kernel
theorem dX12_dishOf_9 : decode cX12_dishOf 9 = .ok (.iadd, 1) := by decide +kernel
theorem dX12_dishOf_10 : decode cX12_dishOf 10 = .ok (.iload_n 2, 1) := by decide +kernel
theorem dX12_dishOf_11 : decode cX12_dishOf 11 = .ok (.iadd, 1) := by decide +kernel
theorem dX12_dishOf_12 : decode cX12_dishOf 12 = .ok (.iaload, 1) := by decide +kernel
theorem dX12_dishOf_13 : decode cX12_dishOf 13 = .ok (.ireturn, 1) := by decide +kernel
theorem dX12_stepOf_0 : decode cX12_stepOf 0 = .ok (.aload_n 0, 1) := by decide +kernel
theorem dX12_stepOf_1 : decode cX12_stepOf 1 = .ok (.getfield 19, 3) := by decide +kernel
theorem dX12_stepOf_4 : decode cX12_stepOf 4 = .ok (.bipush 58, 2) := by decide +kernel
theorem dX12_stepOf_6 : decode cX12_stepOf 6 = .ok (.bipush 6, 2) := by decide +kernel
theorem dX12_stepOf_8 : decode cX12_stepOf 8 = .ok (.iload_n 1, 1) := by decide +kernel
theorem dX12_stepOf_9 : decode cX12_stepOf 9 = .ok (.imul, 1) := by decide +kernel
theorem dX12_stepOf_10 : decode cX12_stepOf 10 = .ok (.iadd, 1) := by decide +kernel
theorem dX12_stepOf_11 : decode cX12_stepOf 11 = .ok (.iload_n 2, 1) := by decide +kernel
theorem dX12_stepOf_12 : decode cX12_stepOf 12 = .ok (.iadd, 1) := by decide +kernel
theorem dX12_stepOf_13 : decode cX12_stepOf 13 = .ok (.iaload, 1) := by decide +kernel
theorem dX12_stepOf_14 : decode cX12_stepOf 14 = .ok (.ireturn, 1) := by decide +kernel
theorem dX12_isDish_0 : decode cX12_isDish 0 = .ok (.iload_n 1, 1) := by decide +kernel
theorem dX12_isDish_1 : decode cX12_isDish 1 = .ok (.i2l, 1) := by decide +kernel
theorem dX12_isDish_2 : decode cX12_isDish 2 = .ok (.lconst 0, 1) := by decide +kernel
theorem dX12_isDish_3 : decode cX12_isDish 3 = .ok (.aload_n 0, 1) := by decide +kernel
theorem dX12_isDish_4 : decode cX12_isDish 4 = .ok (.getfield 19, 3) := by decide +kernel
theorem dX12_isDish_7 : decode cX12_isDish 7 = .ok (.bipush 16, 2) := by decide +kernel
theorem dX12_isDish_9 : decode cX12_isDish 9 = .ok (.iaload, 1) := by decide +kernel
theorem dX12_isDish_10 : decode cX12_isDish 10 = .ok (.iconst 1, 1) := by decide +kernel
theorem dX12_isDish_11 : decode cX12_isDish 11 = .ok (.isub, 1) := by decide +kernel
theorem dX12_isDish_12 : decode cX12_isDish 12 = .ok (.i2l, 1) := by decide +kernel
theorem dX12_isDish_13 : decode cX12_isDish 13 = .ok (.invokestatic 111, 3) := by decide +kernel
theorem dX12_isDish_16 : decode cX12_isDish 16 = .ok (.ireturn, 1) := by decide +kernel
theorem dX12_isStep_0 : decode cX12_isStep 0 = .ok (.iload_n 1, 1) := by decide +kernel
theorem dX12_isStep_1 : decode cX12_isStep 1 = .ok (.i2l, 1) := by decide +kernel
theorem dX12_isStep_2 : decode cX12_isStep 2 = .ok (.lconst 0, 1) := by decide +kernel
theorem dX12_isStep_3 : decode cX12_isStep 3 = .ok (.aload_n 0, 1) := by decide +kernel
theorem dX12_isStep_4 : decode cX12_isStep 4 = .ok (.getfield 19, 3) := by decide +kernel
theorem dX12_isStep_7 : decode cX12_isStep 7 = .ok (.bipush 17, 2) := by decide +kernel
theorem dX12_isStep_9 : decode cX12_isStep 9 = .ok (.iaload, 1) := by decide +kernel
theorem dX12_isStep_10 : decode cX12_isStep 10 = .ok (.iconst 1, 1) := by decide +kernel
theorem dX12_isStep_11 : decode cX12_isStep 11 = .ok (.isub, 1) := by decide +kernel
theorem dX12_isStep_12 : decode cX12_isStep 12 = .ok (.i2l, 1) := by decide +kernel
theorem dX12_isStep_13 : decode cX12_isStep 13 = .ok (.invokestatic 111, 3) := by decide +kernel
theorem dX12_isStep_16 : decode cX12_isStep 16 = .ok (.ireturn, 1) := by decide +kernel
theorem dX12_waitsOf_0 : decode cX12_waitsOf 0 = .ok (.iload_n 2, 1) := by decide +kernel
theorem dX12_waitsOf_1 : decode cX12_waitsOf 1 = .ok (.aload_n 0, 1) := by decide +kernel
theorem dX12_waitsOf_2 : decode cX12_waitsOf 2 = .ok (.iload_n 1, 1) := by decide +kernel
theorem dX12_waitsOf_3 : decode cX12_waitsOf 3 = .ok (.iconst 3, 1) := by decide +kernel
theorem dX12_waitsOf_4 : decode cX12_waitsOf 4 = .ok (.invokevirtual 228, 3) := by decide +kernel
theorem dX12_waitsOf_7 : decode cX12_waitsOf 7 = .ok (.iconst 1, 1) := by decide +kernel
theorem dX12_waitsOf_8 : decode cX12_waitsOf 8 = .ok (.isub, 1) := by decide +kernel
theorem dX12_waitsOf_9 : decode cX12_waitsOf 9 = .ok (.if_icmp .ge 21, 3) := by decide +kernel
theorem dX12_waitsOf_12 : decode cX12_waitsOf 12 = .ok (.iconst 1, 1) := by decide +kernel
theorem dX12_waitsOf_13 : decode cX12_waitsOf 13 = .ok (.aload_n 0, 1) := by decide +kernel
theorem dX12_waitsOf_14 : decode cX12_waitsOf 14 = .ok (.aload_n 0, 1) := by decide +kernel
theorem dX12_waitsOf_15 : decode cX12_waitsOf 15 = .ok (.iload_n 1, 1) := by decide +kernel
theorem dX12_waitsOf_16 : decode cX12_waitsOf 16 = .ok (.iconst 4, 1) := by decide +kernel
theorem dX12_waitsOf_17 : decode cX12_waitsOf 17 = .ok (.invokevirtual 228, 3) := by decide +kernel
theorem dX12_waitsOf_20 : decode cX12_waitsOf 20 = .ok (.iload_n 2, 1) := by decide +kernel
theorem dX12_waitsOf_21 : decode cX12_waitsOf 21 = .ok (.iadd, 1) := by decide +kernel
theorem dX12_waitsOf_22 : decode cX12_waitsOf 22 = .ok (.iconst 2, 1) := by decide +kernel
theorem dX12_waitsOf_23 : decode cX12_waitsOf 23 = .ok (.invokevirtual 232, 3) := by decide +kernel
theorem dX12_waitsOf_26 : decode cX12_waitsOf 26 = .ok (.iadd, 1) := by decide +kernel
theorem dX12_waitsOf_27 : decode cX12_waitsOf 27 = .ok (.goto 4, 3) := by decide +kernel
theorem dX12_waitsOf_30 : decode cX12_waitsOf 30 = .ok (.iconst 1, 1) := by decide +kernel
theorem dX12_waitsOf_31 : decode cX12_waitsOf 31 = .ok (.ireturn, 1) := by decide +kernel
theorem dX12_choicesOf_0 : decode cX12_choicesOf 0 = .ok (.iconst 1, 1) := by decide +kernel
theorem dX12_choicesOf_1 : decode cX12_choicesOf 1 = .ok (.aload_n 0, 1) := by decide +kernel
theorem dX12_choicesOf_2 : decode cX12_choicesOf 2 = .ok (.iload_n 1, 1) := by decide +kernel
theorem dX12_choicesOf_3 : decode cX12_choicesOf 3 = .ok (.iconst 0, 1) := by decide +kernel
theorem dX12_choicesOf_4 : decode cX12_choicesOf 4 = .ok (.invokevirtual 228, 3) := by decide +kernel
theorem dX12_choicesOf_7 : decode cX12_choicesOf 7 = .ok (.iadd, 1) := by decide +kernel
theorem dX12_choicesOf_8 : decode cX12_choicesOf 8 = .ok (.aload_n 0, 1) := by decide +kernel
theorem dX12_choicesOf_9 : decode cX12_choicesOf 9 = .ok (.iload_n 1, 1) := by decide +kernel
theorem dX12_choicesOf_10 : decode cX12_choicesOf 10 = .ok (.iconst 0, 1) := by decide +kernel
theorem dX12_choicesOf_11 : decode cX12_choicesOf 11 = .ok (.invokevirtual 235, 3) := by decide +kernel
theorem dX12_choicesOf_14 : decode cX12_choicesOf 14 = .ok (.imul, 1) := by decide +kernel
theorem dX12_choicesOf_15 : decode cX12_choicesOf 15 = .ok (.aload_n 0, 1) := by decide +kernel
theorem dX12_choicesOf_16 : decode cX12_choicesOf 16 = .ok (.iload_n 1, 1) := by decide +kernel
theorem dX12_choicesOf_17 : decode cX12_choicesOf 17 = .ok (.iconst 1, 1) := by decide +kernel
theorem dX12_choicesOf_18 : decode cX12_choicesOf 18 = .ok (.invokevirtual 235, 3) := by decide +kernel
theorem dX12_choicesOf_21 : decode cX12_choicesOf 21 = .ok (.imul, 1) := by decide +kernel
theorem dX12_choicesOf_22 : decode cX12_choicesOf 22 = .ok (.ireturn, 1) := by decide +kernel
theorem dX12_dish_0 : decode cX12_dish 0 = .ok (.aload_n 0, 1) := by decide +kernel
theorem dX12_dish_1 : decode cX12_dish 1 = .ok (.iconst 0, 1) := by decide +kernel
theorem dX12_dish_2 : decode cX12_dish 2 = .ok (.putfield 101, 3) := by decide +kernel
theorem dX12_dish_5 : decode cX12_dish 5 = .ok (.aload_n 0, 1) := by decide +kernel
theorem dX12_dish_6 : decode cX12_dish 6 = .ok (.iload_n 1, 1) := by decide +kernel
theorem dX12_dish_7 : decode cX12_dish 7 = .ok (.invokevirtual 238, 3) := by decide +kernel
theorem dX12_dish_10 : decode cX12_dish 10 = .ok (.ifCond .eq 15, 3) := by decide +kernel
theorem dX12_dish_13 : decode cX12_dish 13 = .ok (.iload_n 2, 1) := by decide +kernel
theorem dX12_dish_14 : decode cX12_dish 14 = .ok (.i2l, 1) := by decide +kernel
theorem dX12_dish_15 : decode cX12_dish 15 = .ok (.lconst 0, 1) := by decide +kernel
theorem dX12_dish_16 : decode cX12_dish 16 = .ok (.ldc2_w 241, 3) := by decide +kernel
theorem dX12_dish_19 : decode cX12_dish 19 = .ok (.invokestatic 111, 3) := by decide +kernel
theorem dX12_dish_22 : decode cX12_dish 22 = .ok (.ifCond .ne 8, 3) := by decide +kernel
theorem dX12_dish_25 : decode cX12_dish 25 = .ok (.ldc 121, 2) := by decide +kernel
theorem dX12_dish_27 : decode cX12_dish 27 = .ok (.goto 22, 3) := by decide +kernel
theorem dX12_dish_30 : decode cX12_dish 30 = .ok (.iload_n 2, 1) := by decide +kernel
theorem dX12_dish_31 : decode cX12_dish 31 = .ok (.iconst 5, 1) := by decide +kernel
theorem dX12_dish_32 : decode cX12_dish 32 = .ok (.if_icmp .ne 11, 3) := by decide +kernel
theorem dX12_dish_35 : decode cX12_dish 35 = .ok (.aload_n 0, 1) := by decide +kernel
theorem dX12_dish_36 : decode cX12_dish 36 = .ok (.iload_n 1, 1) := by decide +kernel
theorem dX12_dish_37 : decode cX12_dish 37 = .ok (.invokevirtual 243, 3) := by decide +kernel
theorem dX12_dish_40 : decode cX12_dish 40 = .ok (.goto 9, 3) := by decide +kernel
theorem dX12_dish_43 : decode cX12_dish 43 = .ok (.aload_n 0, 1) := by decide +kernel
theorem dX12_dish_44 : decode cX12_dish 44 = .ok (.iload_n 1, 1) := by decide +kernel
theorem dX12_dish_45 : decode cX12_dish 45 = .ok (.iload_n 2, 1) := by decide +kernel
theorem dX12_dish_46 : decode cX12_dish 46 = .ok (.invokevirtual 228, 3) := by decide +kernel
theorem dX12_dish_49 : decode cX12_dish 49 = .ok (.ireturn, 1) := by decide +kernel
theorem dX12_step_0 : decode cX12_step 0 = .ok (.aload_n 0, 1) := by decide +kernel
theorem dX12_step_1 : decode cX12_step 1 = .ok (.iconst 0, 1) := by decide +kernel
theorem dX12_step_2 : decode cX12_step 2 = .ok (.putfield 101, 3) := by decide +kernel
theorem dX12_step_5 : decode cX12_step 5 = .ok (.aload_n 0, 1) := by decide +kernel
theorem dX12_step_6 : decode cX12_step 6 = .ok (.iload_n 1, 1) := by decide +kernel
theorem dX12_step_7 : decode cX12_step 7 = .ok (.invokevirtual 246, 3) := by decide +kernel
theorem dX12_step_10 : decode cX12_step 10 = .ok (.ifCond .eq 26, 3) := by decide +kernel
theorem dX12_step_13 : decode cX12_step 13 = .ok (.iload_n 2, 1) := by decide +kernel
theorem dX12_step_14 : decode cX12_step 14 = .ok (.i2l, 1) := by decide +kernel
theorem dX12_step_15 : decode cX12_step 15 = .ok (.lconst 0, 1) := by decide +kernel
theorem dX12_step_16 : decode cX12_step 16 = .ok (.ldc2_w 249, 3) := by decide +kernel
theorem dX12_step_19 : decode cX12_step 19 = .ok (.invokestatic 111, 3) := by decide +kernel
theorem dX12_step_22 : decode cX12_step 22 = .ok (.ifCond .eq 14, 3) := by decide +kernel
theorem dX12_step_25 : decode cX12_step 25 = .ok (.aload_n 0, 1) := by decide +kernel
theorem dX12_step_26 : decode cX12_step 26 = .ok (.iload_n 1, 1) := by decide +kernel
theorem dX12_step_27 : decode cX12_step 27 = .ok (.iload_n 2, 1) := by decide +kernel
theorem dX12_step_28 : decode cX12_step 28 = .ok (.iconst 1, 1) := by decide +kernel
theorem dX12_step_29 : decode cX12_step 29 = .ok (.iadd, 1) := by decide +kernel
theorem dX12_step_30 : decode cX12_step 30 = .ok (.invokevirtual 232, 3) := by decide +kernel
theorem dX12_step_33 : decode cX12_step 33 = .ok (.goto 5, 3) := by decide +kernel
theorem dX12_step_36 : decode cX12_step 36 = .ok (.ldc 121, 2) := by decide +kernel
theorem dX12_step_38 : decode cX12_step 38 = .ok (.ireturn, 1) := by decide +kernel
theorem dX12_bigOnes_0 : decode cX12_bigOnes 0 = .ok (.aload_n 0, 1) := by decide +kernel
theorem dX12_bigOnes_1 : decode cX12_bigOnes 1 = .ok (.getfield 19, 3) := by decide +kernel
theorem dX12_bigOnes_4 : decode cX12_bigOnes 4 = .ok (.iconst 1, 1) := by decide +kernel
theorem dX12_bigOnes_5 : decode cX12_bigOnes 5 = .ok (.iaload, 1) := by decide +kernel
theorem dX12_bigOnes_6 : decode cX12_bigOnes 6 = .ok (.iload_n 1, 1) := by decide +kernel
theorem dX12_bigOnes_7 : decode cX12_bigOnes 7 = .ok (.iload_n 2, 1) := by decide +kernel
theorem dX12_bigOnes_8 : decode cX12_bigOnes 8 = .ok (.if_icmp .lt 7, 3) := by decide +kernel
theorem dX12_bigOnes_11 : decode cX12_bigOnes 11 = .ok (.iconst 1, 1) := by decide +kernel
theorem dX12_bigOnes_12 : decode cX12_bigOnes 12 = .ok (.goto 4, 3) := by decide +kernel
theorem dX12_bigOnes_15 : decode cX12_bigOnes 15 = .ok (.iconst 0, 1) := by decide +kernel
theorem dX12_bigOnes_16 : decode cX12_bigOnes 16 = .ok (.isub, 1) := by decide +kernel
theorem dX12_bigOnes_17 : decode cX12_bigOnes 17 = .ok (.ireturn, 1) := by decide +kernel
theorem dX12_handsAt_0 : decode cX12_handsAt 0 = .ok (.iload_n 2, 1) := by decide +kernel
theorem dX12_handsAt_1 : decode cX12_handsAt 1 = .ok (.istore_n 3, 1) := by decide +kernel
theorem dX12_handsAt_2 : decode cX12_handsAt 2 = .ok (.iconst 0, 1) := by decide +kernel
theorem dX12_handsAt_3 : decode cX12_handsAt 3 = .ok (.istore 4, 2) := by decide +kernel
theorem dX12_handsAt_5 : decode cX12_handsAt 5 = .ok (.iload 4, 2) := by decide +kernel
theorem dX12_handsAt_7 : decode cX12_handsAt 7 = .ok (.aload_n 0, 1) := by decide +kernel
theorem dX12_handsAt_8 : decode cX12_handsAt 8 = .ok (.getfield 19, 3) := by decide +kernel
theorem dX12_handsAt_11 : decode cX12_handsAt 11 = .ok (.bipush 7, 2) := by decide +kernel
theorem dX12_handsAt_13 : decode cX12_handsAt 13 = .ok (.iaload, 1) := by decide +kernel
theorem dX12_handsAt_14 : decode cX12_handsAt 14 = .ok (.if_icmp .ge 53, 3) := by decide +kernel
theorem dX12_handsAt_17 : decode cX12_handsAt 17 = .ok (.iload_n 3, 1) := by decide +kernel
theorem dX12_handsAt_18 : decode cX12_handsAt 18 = .ok (.iload_n 1, 1) := by decide +kernel
theorem dX12_handsAt_19 : decode cX12_handsAt 19 = .ok (.i2l, 1) := by decide +kernel
theorem dX12_handsAt_20 : decode cX12_handsAt 20 = .ok (.aload_n 0, 1) := by decide +kernel
theorem dX12_handsAt_21 : decode cX12_handsAt 21 = .ok (.getfield 19, 3) := by decide +kernel
theorem dX12_handsAt_24 : decode cX12_handsAt 24 = .ok (.bipush 8, 2) := by decide +kernel
theorem dX12_handsAt_26 : decode cX12_handsAt 26 = .ok (.iconst 2, 1) := by decide +kernel
theorem dX12_handsAt_27 : decode cX12_handsAt 27 = .ok (.iload 4, 2) := by decide +kernel
theorem dX12_handsAt_29 : decode cX12_handsAt 29 = .ok (.imul, 1) := by decide +kernel
theorem dX12_handsAt_30 : decode cX12_handsAt 30 = .ok (.iadd, 1) := by decide +kernel
theorem dX12_handsAt_31 : decode cX12_handsAt 31 = .ok (.iaload, 1) := by decide +kernel
theorem dX12_handsAt_32 : decode cX12_handsAt 32 = .ok (.i2l, 1) := by decide +kernel
theorem dX12_handsAt_33 : decode cX12_handsAt 33 = .ok (.aload_n 0, 1) := by decide +kernel
theorem dX12_handsAt_34 : decode cX12_handsAt 34 = .ok (.getfield 19, 3) := by decide +kernel
theorem dX12_handsAt_37 : decode cX12_handsAt 37 = .ok (.bipush 8, 2) := by decide +kernel
theorem dX12_handsAt_39 : decode cX12_handsAt 39 = .ok (.iconst 2, 1) := by decide +kernel
theorem dX12_handsAt_40 : decode cX12_handsAt 40 = .ok (.iload 4, 2) := by decide +kernel
theorem dX12_handsAt_42 : decode cX12_handsAt 42 = .ok (.imul, 1) := by decide +kernel
theorem dX12_handsAt_43 : decode cX12_handsAt 43 = .ok (.iadd, 1) := by decide +kernel
theorem dX12_handsAt_44 : decode cX12_handsAt 44 = .ok (.iconst 1, 1) := by decide +kernel
theorem dX12_handsAt_45 : decode cX12_handsAt 45 = .ok (.iadd, 1) := by decide +kernel
theorem dX12_handsAt_46 : decode cX12_handsAt 46 = .ok (.iaload, 1) := by decide +kernel
theorem dX12_handsAt_47 : decode cX12_handsAt 47 = .ok (.i2l, 1) := by decide +kernel
theorem dX12_handsAt_48 : decode cX12_handsAt 48 = .ok (.invokestatic 111, 3) := by decide +kernel
theorem dX12_handsAt_51 : decode cX12_handsAt 51 = .ok (.ifCond .eq 7, 3) := by decide +kernel
theorem dX12_handsAt_54 : decode cX12_handsAt 54 = .ok (.iconst 1, 1) := by decide +kernel
theorem dX12_handsAt_55 : decode cX12_handsAt 55 = .ok (.goto 4, 3) := by decide +kernel
theorem dX12_handsAt_58 : decode cX12_handsAt 58 = .ok (.iconst 0, 1) := by decide +kernel
theorem dX12_handsAt_59 : decode cX12_handsAt 59 = .ok (.isub, 1) := by decide +kernel
theorem dX12_handsAt_60 : decode cX12_handsAt 60 = .ok (.istore_n 3, 1) := by decide +kernel
theorem dX12_handsAt_61 : decode cX12_handsAt 61 = .ok (.iinc 4 1, 3) := by decide +kernel
theorem dX12_handsAt_64 : decode cX12_handsAt 64 = .ok (.goto (-59), 3) := by decide +kernel
theorem dX12_handsAt_67 : decode cX12_handsAt 67 = .ok (.iload_n 3, 1) := by decide +kernel
theorem dX12_handsAt_68 : decode cX12_handsAt 68 = .ok (.ifCond .ge 7, 3) := by decide +kernel
theorem dX12_handsAt_71 : decode cX12_handsAt 71 = .ok (.iconst 0, 1) := by decide +kernel
theorem dX12_handsAt_72 : decode cX12_handsAt 72 = .ok (.goto 4, 3) := by decide +kernel
theorem dX12_handsAt_75 : decode cX12_handsAt 75 = .ok (.iload_n 3, 1) := by decide +kernel
theorem dX12_handsAt_76 : decode cX12_handsAt 76 = .ok (.ireturn, 1) := by decide +kernel
theorem dX12_isMinute_0 : decode cX12_isMinute 0 = .ok (.iload_n 0, 1) := by decide +kernel
theorem dX12_isMinute_1 : decode cX12_isMinute 1 = .ok (.i2l, 1) := by decide +kernel
theorem dX12_isMinute_2 : decode cX12_isMinute 2 = .ok (.lconst 0, 1) := by decide +kernel
theorem dX12_isMinute_3 : decode cX12_isMinute 3 = .ok (.ldc2_w 251, 3) := by decide +kernel
theorem dX12_isMinute_6 : decode cX12_isMinute 6 = .ok (.invokestatic 111, 3) := by decide +kernel
theorem dX12_isMinute_9 : decode cX12_isMinute 9 = .ok (.ireturn, 1) := by decide +kernel
theorem dX12_gives_0 : decode cX12_gives 0 = .ok (.aload_n 0, 1) := by decide +kernel
theorem dX12_gives_1 : decode cX12_gives 1 = .ok (.iconst 0, 1) := by decide +kernel
theorem dX12_gives_2 : decode cX12_gives 2 = .ok (.putfield 101, 3) := by decide +kernel
theorem dX12_gives_5 : decode cX12_gives 5 = .ok (.aload_n 0, 1) := by decide +kernel
theorem dX12_gives_6 : decode cX12_gives 6 = .ok (.getfield 221, 3) := by decide +kernel
theorem dX12_gives_9 : decode cX12_gives 9 = .ok (.ifCond .ne 6, 3) := by decide +kernel
theorem dX12_gives_12 : decode cX12_gives 12 = .ok (.ldc 253, 2) := by decide +kernel
theorem dX12_gives_14 : decode cX12_gives 14 = .ok (.ireturn, 1) := by decide +kernel
theorem dX12_gives_15 : decode cX12_gives 15 = .ok (.iload_n 1, 1) := by decide +kernel
theorem dX12_gives_16 : decode cX12_gives 16 = .ok (.invokestatic 254, 3) := by decide +kernel
theorem dX12_gives_19 : decode cX12_gives 19 = .ok (.ifCond .eq 15, 3) := by decide +kernel
theorem dX12_gives_22 : decode cX12_gives 22 = .ok (.iload_n 2, 1) := by decide +kernel
theorem dX12_gives_23 : decode cX12_gives 23 = .ok (.i2l, 1) := by decide +kernel
theorem dX12_gives_24 : decode cX12_gives 24 = .ok (.lconst 0, 1) := by decide +kernel
theorem dX12_gives_25 : decode cX12_gives 25 = .ok (.ldc2_w 249, 3) := by decide +kernel
theorem dX12_gives_28 : decode cX12_gives 28 = .ok (.invokestatic 111, 3) := by decide +kernel
theorem dX12_gives_31 : decode cX12_gives 31 = .ok (.ifCond .ne 6, 3) := by decide +kernel
theorem dX12_gives_34 : decode cX12_gives 34 = .ok (.ldc 121, 2) := by decide +kernel
theorem dX12_gives_36 : decode cX12_gives 36 = .ok (.ireturn, 1) := by decide +kernel
theorem dX12_gives_37 : decode cX12_gives 37 = .ok (.iload_n 2, 1) := by decide +kernel
theorem dX12_gives_38 : decode cX12_gives 38 = .ok (.tableswitch 84 0 3 #[30, 51, 65, 72], 30) := by decide +kernel
theorem dX12_gives_68 : decode cX12_gives 68 = .ok (.aload_n 0, 1) := by decide +kernel
theorem dX12_gives_69 : decode cX12_gives 69 = .ok (.getfield 19, 3) := by decide +kernel
theorem dX12_gives_72 : decode cX12_gives 72 = .ok (.iconst 0, 1) := by decide +kernel
theorem dX12_gives_73 : decode cX12_gives 73 = .ok (.iaload, 1) := by decide +kernel
theorem dX12_gives_74 : decode cX12_gives 74 = .ok (.aload_n 0, 1) := by decide +kernel
theorem dX12_gives_75 : decode cX12_gives 75 = .ok (.iload_n 1, 1) := by decide +kernel
theorem dX12_gives_76 : decode cX12_gives 76 = .ok (.aload_n 0, 1) := by decide +kernel
theorem dX12_gives_77 : decode cX12_gives 77 = .ok (.getfield 19, 3) := by decide +kernel
theorem dX12_gives_80 : decode cX12_gives 80 = .ok (.sipush 203, 3) := by decide +kernel
theorem dX12_gives_83 : decode cX12_gives 83 = .ok (.iaload, 1) := by decide +kernel
theorem dX12_gives_84 : decode cX12_gives 84 = .ok (.invokevirtual 257, 3) := by decide +kernel
theorem dX12_gives_87 : decode cX12_gives 87 = .ok (.iadd, 1) := by decide +kernel
theorem dX12_gives_88 : decode cX12_gives 88 = .ok (.ireturn, 1) := by decide +kernel
theorem dX12_gives_89 : decode cX12_gives 89 = .ok (.aload_n 0, 1) := by decide +kernel
theorem dX12_gives_90 : decode cX12_gives 90 = .ok (.iload_n 1, 1) := by decide +kernel
theorem dX12_gives_91 : decode cX12_gives 91 = .ok (.aload_n 0, 1) := by decide +kernel
theorem dX12_gives_92 : decode cX12_gives 92 = .ok (.getfield 19, 3) := by decide +kernel
theorem dX12_gives_95 : decode cX12_gives 95 = .ok (.sipush 203, 3) := by decide +kernel
