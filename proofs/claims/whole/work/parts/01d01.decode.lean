theorem dX0_init_0 : decode cX0_init 0 = .ok (.aload_n 0, 1) := by decide +kernel
theorem dX0_init_1 : decode cX0_init 1 = .ok (.invokespecial 1, 3) := by decide +kernel
theorem dX0_init_4 : decode cX0_init 4 = .ok (.aload_n 0, 1) := by decide +kernel
theorem dX0_init_5 : decode cX0_init 5 = .ok (.bipush 16, 2) := by decide +kernel
theorem dX0_init_7 : decode cX0_init 7 = .ok (.newarray .int, 2) := by decide +kernel
theorem dX0_init_9 : decode cX0_init 9 = .ok (.putfield 9, 3) := by decide +kernel
theorem dX0_init_12 : decode cX0_init 12 = .ok (.return_, 1) := by decide +kernel
theorem dX0_isKind_0 : decode cX0_isKind 0 = .ok (.iload_n 1, 1) := by decide +kernel
theorem dX0_isKind_1 : decode cX0_isKind 1 = .ok (.iload_n 2, 1) := by decide +kernel
theorem dX0_isKind_2 : decode cX0_isKind 2 = .ok (.if_icmp .eq 16, 3) := by decide +kernel
theorem dX0_isKind_5 : decode cX0_isKind 5 = .ok (.getstatic 13, 3) := by decide +kernel
theorem dX0_isKind_8 : decode cX0_isKind 8 = .ok (.iload_n 1, 1) := by decide +kernel
theorem dX0_isKind_9 : decode cX0_isKind 9 = .ok (.iaload, 1) := by decide +kernel
theorem dX0_isKind_10 : decode cX0_isKind 10 = .ok (.iload_n 2, 1) := by decide +kernel
theorem dX0_isKind_11 : decode cX0_isKind 11 = .ok (.if_icmp .eq 7, 3) := by decide +kernel
theorem dX0_isKind_14 : decode cX0_isKind 14 = .ok (.iload_n 2, 1) := by decide +kernel
theorem dX0_isKind_15 : decode cX0_isKind 15 = .ok (.ifCond .ne 7, 3) := by decide +kernel
theorem dX0_isKind_18 : decode cX0_isKind 18 = .ok (.iconst 1, 1) := by decide +kernel
theorem dX0_isKind_19 : decode cX0_isKind 19 = .ok (.goto 4, 3) := by decide +kernel
theorem dX0_isKind_22 : decode cX0_isKind 22 = .ok (.iconst 0, 1) := by decide +kernel
theorem dX0_isKind_23 : decode cX0_isKind 23 = .ok (.ireturn, 1) := by decide +kernel
theorem dX0_answer_0 : decode cX0_answer 0 = .ok (.aload_n 0, 1) := by decide +kernel
theorem dX0_answer_1 : decode cX0_answer 1 = .ok (.iconst 0, 1) := by decide +kernel
theorem dX0_answer_2 : decode cX0_answer 2 = .ok (.putfield 16, 3) := by decide +kernel
theorem dX0_answer_5 : decode cX0_answer 5 = .ok (.iload_n 3, 1) := by decide +kernel
theorem dX0_answer_6 : decode cX0_answer 6 = .ok (.ifCond .ne 13, 3) := by decide +kernel
theorem dX0_answer_9 : decode cX0_answer 9 = .ok (.aload_n 0, 1) := by decide +kernel
theorem dX0_answer_10 : decode cX0_answer 10 = .ok (.aload_n 1, 1) := by decide +kernel
theorem dX0_answer_11 : decode cX0_answer 11 = .ok (.iload_n 2, 1) := by decide +kernel
theorem dX0_answer_12 : decode cX0_answer 12 = .ok (.iconst 0, 1) := by decide +kernel
theorem dX0_answer_13 : decode cX0_answer 13 = .ok (.invokevirtual 20, 3) := by decide +kernel
theorem dX0_answer_16 : decode cX0_answer 16 = .ok (.goto 10, 3) := by decide +kernel
theorem dX0_answer_19 : decode cX0_answer 19 = .ok (.aload_n 0, 1) := by decide +kernel
theorem dX0_answer_20 : decode cX0_answer 20 = .ok (.aload_n 1, 1) := by decide +kernel
theorem dX0_answer_21 : decode cX0_answer 21 = .ok (.iload_n 2, 1) := by decide +kernel
theorem dX0_answer_22 : decode cX0_answer 22 = .ok (.iconst 0, 1) := by decide +kernel
theorem dX0_answer_23 : decode cX0_answer 23 = .ok (.invokevirtual 24, 3) := by decide +kernel
theorem dX0_answer_26 : decode cX0_answer 26 = .ok (.ireturn, 1) := by decide +kernel
theorem dX0_begin_0 : decode cX0_begin 0 = .ok (.aload_n 0, 1) := by decide +kernel
theorem dX0_begin_1 : decode cX0_begin 1 = .ok (.getfield 16, 3) := by decide +kernel
theorem dX0_begin_4 : decode cX0_begin 4 = .ok (.bipush 16, 2) := by decide +kernel
theorem dX0_begin_6 : decode cX0_begin 6 = .ok (.if_icmp .ge 23, 3) := by decide +kernel
theorem dX0_begin_9 : decode cX0_begin 9 = .ok (.aload_n 0, 1) := by decide +kernel
theorem dX0_begin_10 : decode cX0_begin 10 = .ok (.getfield 9, 3) := by decide +kernel
theorem dX0_begin_13 : decode cX0_begin 13 = .ok (.aload_n 0, 1) := by decide +kernel
theorem dX0_begin_14 : decode cX0_begin 14 = .ok (.getfield 16, 3) := by decide +kernel
theorem dX0_begin_17 : decode cX0_begin 17 = .ok (.iload_n 1, 1) := by decide +kernel
theorem dX0_begin_18 : decode cX0_begin 18 = .ok (.iastore, 1) := by decide +kernel
theorem dX0_begin_19 : decode cX0_begin 19 = .ok (.aload_n 0, 1) := by decide +kernel
theorem dX0_begin_20 : decode cX0_begin 20 = .ok (.dup, 1) := by decide +kernel
theorem dX0_begin_21 : decode cX0_begin 21 = .ok (.getfield 16, 3) := by decide +kernel
theorem dX0_begin_24 : decode cX0_begin 24 = .ok (.iconst 1, 1) := by decide +kernel
theorem dX0_begin_25 : decode cX0_begin 25 = .ok (.iadd, 1) := by decide +kernel
theorem dX0_begin_26 : decode cX0_begin 26 = .ok (.putfield 16, 3) := by decide +kernel
theorem dX0_begin_29 : decode cX0_begin 29 = .ok (.return_, 1) := by decide +kernel
theorem dX0_sizeOf_0 : decode cX0_sizeOf 0 = .ok (.iload_n 3, 1) := by decide +kernel
theorem dX0_sizeOf_1 : decode cX0_sizeOf 1 = .ok (.bipush 8, 2) := by decide +kernel
theorem dX0_sizeOf_3 : decode cX0_sizeOf 3 = .ok (.if_icmp .le 5, 3) := by decide +kernel
theorem dX0_sizeOf_6 : decode cX0_sizeOf 6 = .ok (.iconst 0, 1) := by decide +kernel
theorem dX0_sizeOf_7 : decode cX0_sizeOf 7 = .ok (.ireturn, 1) := by decide +kernel
theorem dX0_sizeOf_8 : decode cX0_sizeOf 8 = .ok (.aload_n 1, 1) := by decide +kernel
theorem dX0_sizeOf_9 : decode cX0_sizeOf 9 = .ok (.iload_n 2, 1) := by decide +kernel
theorem dX0_sizeOf_10 : decode cX0_sizeOf 10 = .ok (.invokevirtual 27, 3) := by decide +kernel
theorem dX0_sizeOf_13 : decode cX0_sizeOf 13 = .ok (.tableswitch 111 1 6 #[39, 61, 111, 111, 88, 46], 39) := by decide +kernel
theorem dX0_sizeOf_52 : decode cX0_sizeOf 52 = .ok (.aload_n 0, 1) := by decide +kernel
theorem dX0_sizeOf_53 : decode cX0_sizeOf 53 = .ok (.aload_n 1, 1) := by decide +kernel
theorem dX0_sizeOf_54 : decode cX0_sizeOf 54 = .ok (.iload_n 2, 1) := by decide +kernel
theorem dX0_sizeOf_55 : decode cX0_sizeOf 55 = .ok (.invokevirtual 33, 3) := by decide +kernel
theorem dX0_sizeOf_58 : decode cX0_sizeOf 58 = .ok (.ireturn, 1) := by decide +kernel
theorem dX0_sizeOf_59 : decode cX0_sizeOf 59 = .ok (.aload_n 0, 1) := by decide +kernel
theorem dX0_sizeOf_60 : decode cX0_sizeOf 60 = .ok (.bipush 12, 2) := by decide +kernel
theorem dX0_sizeOf_62 : decode cX0_sizeOf 62 = .ok (.invokevirtual 37, 3) := by decide +kernel
theorem dX0_sizeOf_65 : decode cX0_sizeOf 65 = .ok (.iconst 2, 1) := by decide +kernel
theorem dX0_sizeOf_66 : decode cX0_sizeOf 66 = .ok (.aload_n 0, 1) := by decide +kernel
theorem dX0_sizeOf_67 : decode cX0_sizeOf 67 = .ok (.aload_n 1, 1) := by decide +kernel
theorem dX0_sizeOf_68 : decode cX0_sizeOf 68 = .ok (.iload_n 2, 1) := by decide +kernel
theorem dX0_sizeOf_69 : decode cX0_sizeOf 69 = .ok (.invokevirtual 33, 3) := by decide +kernel
theorem dX0_sizeOf_72 : decode cX0_sizeOf 72 = .ok (.imul, 1) := by decide +kernel
theorem dX0_sizeOf_73 : decode cX0_sizeOf 73 = .ok (.ireturn, 1) := by decide +kernel
theorem dX0_sizeOf_74 : decode cX0_sizeOf 74 = .ok (.aload_n 0, 1) := by decide +kernel
theorem dX0_sizeOf_75 : decode cX0_sizeOf 75 = .ok (.bipush 13, 2) := by decide +kernel
theorem dX0_sizeOf_77 : decode cX0_sizeOf 77 = .ok (.invokevirtual 37, 3) := by decide +kernel
theorem dX0_sizeOf_80 : decode cX0_sizeOf 80 = .ok (.aload_n 0, 1) := by decide +kernel
theorem dX0_sizeOf_81 : decode cX0_sizeOf 81 = .ok (.aload_n 1, 1) := by decide +kernel
theorem dX0_sizeOf_82 : decode cX0_sizeOf 82 = .ok (.iload_n 2, 1) := by decide +kernel
theorem dX0_sizeOf_83 : decode cX0_sizeOf 83 = .ok (.invokevirtual 41, 3) := by decide +kernel
theorem dX0_sizeOf_86 : decode cX0_sizeOf 86 = .ok (.aload_n 1, 1) := by decide +kernel
theorem dX0_sizeOf_87 : decode cX0_sizeOf 87 = .ok (.getfield 44, 3) := by decide +kernel
theorem dX0_sizeOf_90 : decode cX0_sizeOf 90 = .ok (.iload_n 2, 1) := by decide +kernel
theorem dX0_sizeOf_91 : decode cX0_sizeOf 91 = .ok (.iaload, 1) := by decide +kernel
theorem dX0_sizeOf_92 : decode cX0_sizeOf 92 = .ok (.iadd, 1) := by decide +kernel
theorem dX0_sizeOf_93 : decode cX0_sizeOf 93 = .ok (.aload_n 1, 1) := by decide +kernel
theorem dX0_sizeOf_94 : decode cX0_sizeOf 94 = .ok (.getfield 47, 3) := by decide +kernel
theorem dX0_sizeOf_97 : decode cX0_sizeOf 97 = .ok (.iload_n 2, 1) := by decide +kernel
theorem dX0_sizeOf_98 : decode cX0_sizeOf 98 = .ok (.iaload, 1) := by decide +kernel
theorem dX0_sizeOf_99 : decode cX0_sizeOf 99 = .ok (.isub, 1) := by decide +kernel
theorem dX0_sizeOf_100 : decode cX0_sizeOf 100 = .ok (.ireturn, 1) := by decide +kernel
theorem dX0_sizeOf_101 : decode cX0_sizeOf 101 = .ok (.aload_n 0, 1) := by decide +kernel
theorem dX0_sizeOf_102 : decode cX0_sizeOf 102 = .ok (.bipush 14, 2) := by decide +kernel
theorem dX0_sizeOf_104 : decode cX0_sizeOf 104 = .ok (.invokevirtual 37, 3) := by decide +kernel
theorem dX0_sizeOf_107 : decode cX0_sizeOf 107 = .ok (.aload_n 0, 1) := by decide +kernel
theorem dX0_sizeOf_108 : decode cX0_sizeOf 108 = .ok (.aload_n 1, 1) := by decide +kernel
theorem dX0_sizeOf_109 : decode cX0_sizeOf 109 = .ok (.iload_n 2, 1) := by decide +kernel
theorem dX0_sizeOf_110 : decode cX0_sizeOf 110 = .ok (.invokevirtual 41, 3) := by decide +kernel
theorem dX0_sizeOf_113 : decode cX0_sizeOf 113 = .ok (.aload_n 0, 1) := by decide +kernel
theorem dX0_sizeOf_114 : decode cX0_sizeOf 114 = .ok (.aload_n 1, 1) := by decide +kernel
theorem dX0_sizeOf_115 : decode cX0_sizeOf 115 = .ok (.iload_n 2, 1) := by decide +kernel
theorem dX0_sizeOf_116 : decode cX0_sizeOf 116 = .ok (.iload_n 3, 1) := by decide +kernel
theorem dX0_sizeOf_117 : decode cX0_sizeOf 117 = .ok (.iconst 1, 1) := by decide +kernel
theorem dX0_sizeOf_118 : decode cX0_sizeOf 118 = .ok (.iadd, 1) := by decide +kernel
theorem dX0_sizeOf_119 : decode cX0_sizeOf 119 = .ok (.invokevirtual 24, 3) := by decide +kernel
theorem dX0_sizeOf_122 : decode cX0_sizeOf 122 = .ok (.isub, 1) := by decide +kernel
theorem dX0_sizeOf_123 : decode cX0_sizeOf 123 = .ok (.ireturn, 1) := by decide +kernel
theorem dX0_sizeOf_124 : decode cX0_sizeOf 124 = .ok (.aload_n 0, 1) := by decide +kernel
theorem dX0_sizeOf_125 : decode cX0_sizeOf 125 = .ok (.aload_n 1, 1) := by decide +kernel
theorem dX0_sizeOf_126 : decode cX0_sizeOf 126 = .ok (.iload_n 2, 1) := by decide +kernel
theorem dX0_sizeOf_127 : decode cX0_sizeOf 127 = .ok (.invokevirtual 41, 3) := by decide +kernel
theorem dX0_sizeOf_130 : decode cX0_sizeOf 130 = .ok (.ireturn, 1) := by decide +kernel
theorem dX0_sizeOfAny_0 : decode cX0_sizeOfAny 0 = .ok (.aload_n 0, 1) := by decide +kernel
theorem dX0_sizeOfAny_1 : decode cX0_sizeOfAny 1 = .ok (.bipush 10, 2) := by decide +kernel
theorem dX0_sizeOfAny_3 : decode cX0_sizeOfAny 3 = .ok (.invokevirtual 37, 3) := by decide +kernel
theorem dX0_sizeOfAny_6 : decode cX0_sizeOfAny 6 = .ok (.aload_n 1, 1) := by decide +kernel
theorem dX0_sizeOfAny_7 : decode cX0_sizeOfAny 7 = .ok (.getfield 50, 3) := by decide +kernel
theorem dX0_sizeOfAny_10 : decode cX0_sizeOfAny 10 = .ok (.iload_n 2, 1) := by decide +kernel
theorem dX0_sizeOfAny_11 : decode cX0_sizeOfAny 11 = .ok (.iaload, 1) := by decide +kernel
theorem dX0_sizeOfAny_12 : decode cX0_sizeOfAny 12 = .ok (.ireturn, 1) := by decide +kernel
theorem dX0_sizeOfRinged_0 : decode cX0_sizeOfRinged 0 = .ok (.aload_n 0, 1) := by decide +kernel
theorem dX0_sizeOfRinged_1 : decode cX0_sizeOfRinged 1 = .ok (.bipush 11, 2) := by decide +kernel
theorem dX0_sizeOfRinged_3 : decode cX0_sizeOfRinged 3 = .ok (.invokevirtual 37, 3) := by decide +kernel
theorem dX0_sizeOfRinged_6 : decode cX0_sizeOfRinged 6 = .ok (.aload_n 0, 1) := by decide +kernel
theorem dX0_sizeOfRinged_7 : decode cX0_sizeOfRinged 7 = .ok (.aload_n 1, 1) := by decide +kernel
theorem dX0_sizeOfRinged_8 : decode cX0_sizeOfRinged 8 = .ok (.iload_n 2, 1) := by decide +kernel
theorem dX0_sizeOfRinged_9 : decode cX0_sizeOfRinged 9 = .ok (.invokevirtual 41, 3) := by decide +kernel
theorem dX0_sizeOfRinged_12 : decode cX0_sizeOfRinged 12 = .ok (.bipush 10, 2) := by decide +kernel
theorem dX0_sizeOfRinged_14 : decode cX0_sizeOfRinged 14 = .ok (.aload_n 1, 1) := by decide +kernel
theorem dX0_sizeOfRinged_15 : decode cX0_sizeOfRinged 15 = .ok (.getfield 47, 3) := by decide +kernel
theorem dX0_sizeOfRinged_18 : decode cX0_sizeOfRinged 18 = .ok (.iload_n 2, 1) := by decide +kernel
theorem dX0_sizeOfRinged_19 : decode cX0_sizeOfRinged 19 = .ok (.iaload, 1) := by decide +kernel
theorem dX0_sizeOfRinged_20 : decode cX0_sizeOfRinged 20 = .ok (.imul, 1) := by decide +kernel
theorem dX0_sizeOfRinged_21 : decode cX0_sizeOfRinged 21 = .ok (.iadd, 1) := by decide +kernel
theorem dX0_sizeOfRinged_22 : decode cX0_sizeOfRinged 22 = .ok (.ireturn, 1) := by decide +kernel
theorem dX0_markOf_0 : decode cX0_markOf 0 = .ok (.iload_n 3, 1) := by decide +kernel
theorem dX0_markOf_1 : decode cX0_markOf 1 = .ok (.bipush 8, 2) := by decide +kernel
theorem dX0_markOf_3 : decode cX0_markOf 3 = .ok (.if_icmp .le 5, 3) := by decide +kernel
theorem dX0_markOf_6 : decode cX0_markOf 6 = .ok (.iconst 0, 1) := by decide +kernel
theorem dX0_markOf_7 : decode cX0_markOf 7 = .ok (.ireturn, 1) := by decide +kernel
theorem dX0_markOf_8 : decode cX0_markOf 8 = .ok (.aload_n 1, 1) := by decide +kernel
theorem dX0_markOf_9 : decode cX0_markOf 9 = .ok (.iload_n 2, 1) := by decide +kernel
theorem dX0_markOf_10 : decode cX0_markOf 10 = .ok (.invokevirtual 27, 3) := by decide +kernel
theorem dX0_markOf_13 : decode cX0_markOf 13 = .ok (.tableswitch 91 3 6 #[56, 31, 37, 78], 31) := by decide +kernel
theorem dX0_markOf_44 : decode cX0_markOf 44 = .ok (.aload_n 0, 1) := by decide +kernel
theorem dX0_markOf_45 : decode cX0_markOf 45 = .ok (.iload_n 2, 1) := by decide +kernel
theorem dX0_markOf_46 : decode cX0_markOf 46 = .ok (.invokevirtual 53, 3) := by decide +kernel
theorem dX0_markOf_49 : decode cX0_markOf 49 = .ok (.ireturn, 1) := by decide +kernel
theorem dX0_markOf_50 : decode cX0_markOf 50 = .ok (.aload_n 0, 1) := by decide +kernel
theorem dX0_markOf_51 : decode cX0_markOf 51 = .ok (.bipush 22, 2) := by decide +kernel
theorem dX0_markOf_53 : decode cX0_markOf 53 = .ok (.invokevirtual 37, 3) := by decide +kernel
theorem dX0_markOf_56 : decode cX0_markOf 56 = .ok (.aload_n 0, 1) := by decide +kernel
theorem dX0_markOf_57 : decode cX0_markOf 57 = .ok (.iload_n 2, 1) := by decide +kernel
theorem dX0_markOf_58 : decode cX0_markOf 58 = .ok (.invokevirtual 53, 3) := by decide +kernel
theorem dX0_markOf_61 : decode cX0_markOf 61 = .ok (.aload_n 1, 1) := by decide +kernel
theorem dX0_markOf_62 : decode cX0_markOf 62 = .ok (.getfield 47, 3) := by decide +kernel
theorem dX0_markOf_65 : decode cX0_markOf 65 = .ok (.iload_n 2, 1) := by decide +kernel
theorem dX0_markOf_66 : decode cX0_markOf 66 = .ok (.iaload, 1) := by decide +kernel
theorem dX0_markOf_67 : decode cX0_markOf 67 = .ok (.iadd, 1) := by decide +kernel
theorem dX0_markOf_68 : decode cX0_markOf 68 = .ok (.ireturn, 1) := by decide +kernel
theorem dX0_markOf_69 : decode cX0_markOf 69 = .ok (.aload_n 0, 1) := by decide +kernel
theorem dX0_markOf_70 : decode cX0_markOf 70 = .ok (.bipush 23, 2) := by decide +kernel
theorem dX0_markOf_72 : decode cX0_markOf 72 = .ok (.invokevirtual 37, 3) := by decide +kernel
theorem dX0_markOf_75 : decode cX0_markOf 75 = .ok (.aload_n 0, 1) := by decide +kernel
theorem dX0_markOf_76 : decode cX0_markOf 76 = .ok (.iload_n 2, 1) := by decide +kernel
theorem dX0_markOf_77 : decode cX0_markOf 77 = .ok (.invokevirtual 56, 3) := by decide +kernel
theorem dX0_markOf_80 : decode cX0_markOf 80 = .ok (.aload_n 0, 1) := by decide +kernel
theorem dX0_markOf_81 : decode cX0_markOf 81 = .ok (.aload_n 1, 1) := by decide +kernel
theorem dX0_markOf_82 : decode cX0_markOf 82 = .ok (.iload_n 2, 1) := by decide +kernel
theorem dX0_markOf_83 : decode cX0_markOf 83 = .ok (.iload_n 3, 1) := by decide +kernel
theorem dX0_markOf_84 : decode cX0_markOf 84 = .ok (.iconst 1, 1) := by decide +kernel
theorem dX0_markOf_85 : decode cX0_markOf 85 = .ok (.iadd, 1) := by decide +kernel
theorem dX0_markOf_86 : decode cX0_markOf 86 = .ok (.invokevirtual 20, 3) := by decide +kernel
theorem dX0_markOf_89 : decode cX0_markOf 89 = .ok (.iadd, 1) := by decide +kernel
theorem dX0_markOf_90 : decode cX0_markOf 90 = .ok (.ireturn, 1) := by decide +kernel
theorem dX0_markOf_91 : decode cX0_markOf 91 = .ok (.aload_n 0, 1) := by decide +kernel
theorem dX0_markOf_92 : decode cX0_markOf 92 = .ok (.bipush 24, 2) := by decide +kernel
theorem dX0_markOf_94 : decode cX0_markOf 94 = .ok (.invokevirtual 37, 3) := by decide +kernel
theorem dX0_markOf_97 : decode cX0_markOf 97 = .ok (.aload_n 0, 1) := by decide +kernel
theorem dX0_markOf_98 : decode cX0_markOf 98 = .ok (.iload_n 2, 1) := by decide +kernel
theorem dX0_markOf_99 : decode cX0_markOf 99 = .ok (.invokevirtual 56, 3) := by decide +kernel
theorem dX0_markOf_102 : decode cX0_markOf 102 = .ok (.ineg, 1) := by decide +kernel
theorem dX0_markOf_103 : decode cX0_markOf 103 = .ok (.ireturn, 1) := by decide +kernel
theorem dX0_markOf_104 : decode cX0_markOf 104 = .ok (.aload_n 0, 1) := by decide +kernel
theorem dX0_markOf_105 : decode cX0_markOf 105 = .ok (.iload_n 2, 1) := by decide +kernel
theorem dX0_markOf_106 : decode cX0_markOf 106 = .ok (.invokevirtual 56, 3) := by decide +kernel
theorem dX0_markOf_109 : decode cX0_markOf 109 = .ok (.ireturn, 1) := by decide +kernel
theorem dX0_markOfAny_0 : decode cX0_markOfAny 0 = .ok (.aload_n 0, 1) := by decide +kernel
theorem dX0_markOfAny_1 : decode cX0_markOfAny 1 = .ok (.bipush 20, 2) := by decide +kernel
theorem dX0_markOfAny_3 : decode cX0_markOfAny 3 = .ok (.invokevirtual 37, 3) := by decide +kernel
theorem dX0_markOfAny_6 : decode cX0_markOfAny 6 = .ok (.iload_n 1, 1) := by decide +kernel
theorem dX0_markOfAny_7 : decode cX0_markOfAny 7 = .ok (.ireturn, 1) := by decide +kernel
theorem dX0_markOfRested_0 : decode cX0_markOfRested 0 = .ok (.aload_n 0, 1) := by decide +kernel
theorem dX0_markOfRested_1 : decode cX0_markOfRested 1 = .ok (.bipush 21, 2) := by decide +kernel
theorem dX0_markOfRested_3 : decode cX0_markOfRested 3 = .ok (.invokevirtual 37, 3) := by decide +kernel
theorem dX0_markOfRested_6 : decode cX0_markOfRested 6 = .ok (.aload_n 0, 1) := by decide +kernel
theorem dX0_markOfRested_7 : decode cX0_markOfRested 7 = .ok (.iload_n 1, 1) := by decide +kernel
theorem dX0_markOfRested_8 : decode cX0_markOfRested 8 = .ok (.invokevirtual 56, 3) := by decide +kernel
theorem dX0_markOfRested_11 : decode cX0_markOfRested 11 = .ok (.bipush 50, 2) := by decide +kernel
theorem dX0_markOfRested_13 : decode cX0_markOfRested 13 = .ok (.iadd, 1) := by decide +kernel
theorem dX0_markOfRested_14 : decode cX0_markOfRested 14 = .ok (.ireturn, 1) := by decide +kernel
theorem dX1_init_0 : decode cX1_init 0 = .ok (.aload_n 0, 1) := by decide +kernel
theorem dX1_init_1 : decode cX1_init 1 = .ok (.invokespecial 3, 3) := by decide +kernel
theorem dX1_init_4 : decode cX1_init 4 = .ok (.aload_n 0, 1) := by decide +kernel
theorem dX1_init_5 : decode cX1_init 5 = .ok (.bipush 7, 2) := by decide +kernel
theorem dX1_init_7 : decode cX1_init 7 = .ok (.newarray .int, 2) := by decide +kernel
theorem dX1_init_9 : decode cX1_init 9 = .ok (.putfield 9, 3) := by decide +kernel
theorem dX1_init_12 : decode cX1_init 12 = .ok (.aload_n 0, 1) := by decide +kernel
theorem dX1_init_13 : decode cX1_init 13 = .ok (.iconst 4, 1) := by decide +kernel
theorem dX1_init_14 : decode cX1_init 14 = .ok (.newarray .int, 2) := by decide +kernel
theorem dX1_init_16 : decode cX1_init 16 = .ok (.putfield 15, 3) := by decide +kernel
theorem dX1_init_19 : decode cX1_init 19 = .ok (.aload_n 0, 1) := by decide +kernel
theorem dX1_init_20 : decode cX1_init 20 = .ok (.iconst 4, 1) := by decide +kernel
theorem dX1_init_21 : decode cX1_init 21 = .ok (.newarray .int, 2) := by decide +kernel
theorem dX1_init_23 : decode cX1_init 23 = .ok (.putfield 18, 3) := by decide +kernel
theorem dX1_init_26 : decode cX1_init 26 = .ok (.aload_n 0, 1) := by decide +kernel
theorem dX1_init_27 : decode cX1_init 27 = .ok (.bipush 8, 2) := by decide +kernel
theorem dX1_init_29 : decode cX1_init 29 = .ok (.newarray .int, 2) := by decide +kernel
theorem dX1_init_31 : decode cX1_init 31 = .ok (.putfield 21, 3) := by decide +kernel
theorem dX1_init_34 : decode cX1_init 34 = .ok (.aload_n 0, 1) := by decide +kernel
theorem dX1_init_35 : decode cX1_init 35 = .ok (.bipush 8, 2) := by decide +kernel
theorem dX1_init_37 : decode cX1_init 37 = .ok (.newarray .int, 2) := by decide +kernel
theorem dX1_init_39 : decode cX1_init 39 = .ok (.putfield 24, 3) := by decide +kernel
theorem dX1_init_42 : decode cX1_init 42 = .ok (.aload_n 0, 1) := by decide +kernel
theorem dX1_init_43 : decode cX1_init 43 = .ok (.bipush 8, 2) := by decide +kernel
theorem dX1_init_45 : decode cX1_init 45 = .ok (.newarray .int, 2) := by decide +kernel
theorem dX1_init_47 : decode cX1_init 47 = .ok (.putfield 27, 3) := by decide +kernel
theorem dX1_init_50 : decode cX1_init 50 = .ok (.aload_n 0, 1) := by decide +kernel
theorem dX1_init_51 : decode cX1_init 51 = .ok (.bipush 8, 2) := by decide +kernel
theorem dX1_init_53 : decode cX1_init 53 = .ok (.newarray .int, 2) := by decide +kernel
theorem dX1_init_55 : decode cX1_init 55 = .ok (.putfield 30, 3) := by decide +kernel
theorem dX1_init_58 : decode cX1_init 58 = .ok (.aload_n 0, 1) := by decide +kernel
theorem dX1_init_59 : decode cX1_init 59 = .ok (.bipush 8, 2) := by decide +kernel
theorem dX1_init_61 : decode cX1_init 61 = .ok (.newarray .int, 2) := by decide +kernel
theorem dX1_init_63 : decode cX1_init 63 = .ok (.putfield 33, 3) := by decide +kernel
theorem dX1_init_66 : decode cX1_init 66 = .ok (.aload_n 0, 1) := by decide +kernel
theorem dX1_init_67 : decode cX1_init 67 = .ok (.bipush 24, 2) := by decide +kernel
theorem dX1_init_69 : decode cX1_init 69 = .ok (.newarray .int, 2) := by decide +kernel
theorem dX1_init_71 : decode cX1_init 71 = .ok (.putfield 36, 3) := by decide +kernel
theorem dX1_init_74 : decode cX1_init 74 = .ok (.aload_n 0, 1) := by decide +kernel
theorem dX1_init_75 : decode cX1_init 75 = .ok (.bipush 24, 2) := by decide +kernel
theorem dX1_init_77 : decode cX1_init 77 = .ok (.newarray .int, 2) := by decide +kernel
theorem dX1_init_79 : decode cX1_init 79 = .ok (.putfield 39, 3) := by decide +kernel
theorem dX1_init_82 : decode cX1_init 82 = .ok (.aload_n 0, 1) := by decide +kernel
theorem dX1_init_83 : decode cX1_init 83 = .ok (.bipush 24, 2) := by decide +kernel
theorem dX1_init_85 : decode cX1_init 85 = .ok (.newarray .int, 2) := by decide +kernel
theorem dX1_init_87 : decode cX1_init 87 = .ok (.putfield 42, 3) := by decide +kernel
theorem dX1_init_90 : decode cX1_init 90 = .ok (.aload_n 0, 1) := by decide +kernel
theorem dX1_init_91 : decode cX1_init 91 = .ok (.bipush 24, 2) := by decide +kernel
theorem dX1_init_93 : decode cX1_init 93 = .ok (.newarray .int, 2) := by decide +kernel
theorem dX1_init_95 : decode cX1_init 95 = .ok (.putfield 45, 3) := by decide +kernel
theorem dX1_init_98 : decode cX1_init 98 = .ok (.aload_n 0, 1) := by decide +kernel
theorem dX1_init_99 : decode cX1_init 99 = .ok (.bipush 24, 2) := by decide +kernel
theorem dX1_init_101 : decode cX1_init 101 = .ok (.newarray .int, 2) := by decide +kernel
theorem dX1_init_103 : decode cX1_init 103 = .ok (.putfield 48, 3) := by decide +kernel
theorem dX1_init_106 : decode cX1_init 106 = .ok (.aload_n 0, 1) := by decide +kernel
theorem dX1_init_107 : decode cX1_init 107 = .ok (.bipush 24, 2) := by decide +kernel
theorem dX1_init_109 : decode cX1_init 109 = .ok (.newarray .int, 2) := by decide +kernel
theorem dX1_init_111 : decode cX1_init 111 = .ok (.putfield 51, 3) := by decide +kernel
theorem dX1_init_114 : decode cX1_init 114 = .ok (.aload_n 0, 1) := by decide +kernel
theorem dX1_init_115 : decode cX1_init 115 = .ok (.bipush 60, 2) := by decide +kernel
theorem dX1_init_117 : decode cX1_init 117 = .ok (.putfield 54, 3) := by decide +kernel
theorem dX1_init_120 : decode cX1_init 120 = .ok (.return_, 1) := by decide +kernel
theorem dX1_clear_0 : decode cX1_clear 0 = .ok (.aload_n 0, 1) := by decide +kernel
theorem dX1_clear_1 : decode cX1_clear 1 = .ok (.iconst 0, 1) := by decide +kernel
theorem dX1_clear_2 : decode cX1_clear 2 = .ok (.putfield 58, 3) := by decide +kernel
theorem dX1_clear_5 : decode cX1_clear 5 = .ok (.aload_n 0, 1) := by decide +kernel
theorem dX1_clear_6 : decode cX1_clear 6 = .ok (.iconst 0, 1) := by decide +kernel
theorem dX1_clear_7 : decode cX1_clear 7 = .ok (.putfield 61, 3) := by decide +kernel
theorem dX1_clear_10 : decode cX1_clear 10 = .ok (.aload_n 0, 1) := by decide +kernel
theorem dX1_clear_11 : decode cX1_clear 11 = .ok (.iconst 0, 1) := by decide +kernel
theorem dX1_clear_12 : decode cX1_clear 12 = .ok (.putfield 64, 3) := by decide +kernel
theorem dX1_clear_15 : decode cX1_clear 15 = .ok (.aload_n 0, 1) := by decide +kernel
theorem dX1_clear_16 : decode cX1_clear 16 = .ok (.iconst 1, 1) := by decide +kernel
theorem dX1_clear_17 : decode cX1_clear 17 = .ok (.putfield 67, 3) := by decide +kernel
theorem dX1_clear_20 : decode cX1_clear 20 = .ok (.aload_n 0, 1) := by decide +kernel
theorem dX1_clear_21 : decode cX1_clear 21 = .ok (.bipush 60, 2) := by decide +kernel
theorem dX1_clear_23 : decode cX1_clear 23 = .ok (.putfield 54, 3) := by decide +kernel
theorem dX1_clear_26 : decode cX1_clear 26 = .ok (.return_, 1) := by decide +kernel
theorem dX1_take_0 : decode cX1_take 0 = .ok (.aload_n 1, 1) := by decide +kernel
theorem dX1_take_1 : decode cX1_take 1 = .ok (.getfield 9, 3) := by decide +kernel
theorem dX1_take_4 : decode cX1_take 4 = .ok (.iconst 0, 1) := by decide +kernel
theorem dX1_take_5 : decode cX1_take 5 = .ok (.aload_n 0, 1) := by decide +kernel
theorem dX1_take_6 : decode cX1_take 6 = .ok (.getfield 9, 3) := by decide +kernel
theorem dX1_take_9 : decode cX1_take 9 = .ok (.iconst 0, 1) := by decide +kernel
theorem dX1_take_10 : decode cX1_take 10 = .ok (.aload_n 0, 1) := by decide +kernel
theorem dX1_take_11 : decode cX1_take 11 = .ok (.getfield 9, 3) := by decide +kernel
theorem dX1_take_14 : decode cX1_take 14 = .ok (.arraylength, 1) := by decide +kernel
theorem dX1_take_15 : decode cX1_take 15 = .ok (.invokestatic 70, 3) := by decide +kernel
theorem dX1_take_18 : decode cX1_take 18 = .ok (.aload_n 0, 1) := by decide +kernel
theorem dX1_take_19 : decode cX1_take 19 = .ok (.aload_n 1, 1) := by decide +kernel
theorem dX1_take_20 : decode cX1_take 20 = .ok (.getfield 58, 3) := by decide +kernel
theorem dX1_take_23 : decode cX1_take 23 = .ok (.putfield 58, 3) := by decide +kernel
theorem dX1_take_26 : decode cX1_take 26 = .ok (.aload_n 1, 1) := by decide +kernel
theorem dX1_take_27 : decode cX1_take 27 = .ok (.getfield 15, 3) := by decide +kernel
theorem dX1_take_30 : decode cX1_take 30 = .ok (.iconst 0, 1) := by decide +kernel
theorem dX1_take_31 : decode cX1_take 31 = .ok (.aload_n 0, 1) := by decide +kernel
theorem dX1_take_32 : decode cX1_take 32 = .ok (.getfield 15, 3) := by decide +kernel
theorem dX1_take_35 : decode cX1_take 35 = .ok (.iconst 0, 1) := by decide +kernel
theorem dX1_take_36 : decode cX1_take 36 = .ok (.iconst 4, 1) := by decide +kernel
theorem dX1_take_37 : decode cX1_take 37 = .ok (.invokestatic 70, 3) := by decide +kernel
theorem dX1_take_40 : decode cX1_take 40 = .ok (.aload_n 1, 1) := by decide +kernel
theorem dX1_take_41 : decode cX1_take 41 = .ok (.getfield 18, 3) := by decide +kernel
theorem dX1_take_44 : decode cX1_take 44 = .ok (.iconst 0, 1) := by decide +kernel
theorem dX1_take_45 : decode cX1_take 45 = .ok (.aload_n 0, 1) := by decide +kernel
theorem dX1_take_46 : decode cX1_take 46 = .ok (.getfield 18, 3) := by decide +kernel
theorem dX1_take_49 : decode cX1_take 49 = .ok (.iconst 0, 1) := by decide +kernel
theorem dX1_take_50 : decode cX1_take 50 = .ok (.iconst 4, 1) := by decide +kernel
theorem dX1_take_51 : decode cX1_take 51 = .ok (.invokestatic 70, 3) := by decide +kernel
theorem dX1_take_54 : decode cX1_take 54 = .ok (.aload_n 0, 1) := by decide +kernel
theorem dX1_take_55 : decode cX1_take 55 = .ok (.aload_n 1, 1) := by decide +kernel
theorem dX1_take_56 : decode cX1_take 56 = .ok (.getfield 61, 3) := by decide +kernel
theorem dX1_take_59 : decode cX1_take 59 = .ok (.putfield 61, 3) := by decide +kernel
theorem dX1_take_62 : decode cX1_take 62 = .ok (.aload_n 1, 1) := by decide +kernel
theorem dX1_take_63 : decode cX1_take 63 = .ok (.getfield 21, 3) := by decide +kernel
theorem dX1_take_66 : decode cX1_take 66 = .ok (.iconst 0, 1) := by decide +kernel
theorem dX1_take_67 : decode cX1_take 67 = .ok (.aload_n 0, 1) := by decide +kernel
theorem dX1_take_68 : decode cX1_take 68 = .ok (.getfield 21, 3) := by decide +kernel
theorem dX1_take_71 : decode cX1_take 71 = .ok (.iconst 0, 1) := by decide +kernel
theorem dX1_take_72 : decode cX1_take 72 = .ok (.bipush 8, 2) := by decide +kernel
theorem dX1_take_74 : decode cX1_take 74 = .ok (.invokestatic 70, 3) := by decide +kernel
theorem dX1_take_77 : decode cX1_take 77 = .ok (.aload_n 1, 1) := by decide +kernel
theorem dX1_take_78 : decode cX1_take 78 = .ok (.getfield 24, 3) := by decide +kernel
theorem dX1_take_81 : decode cX1_take 81 = .ok (.iconst 0, 1) := by decide +kernel
theorem dX1_take_82 : decode cX1_take 82 = .ok (.aload_n 0, 1) := by decide +kernel
theorem dX1_take_83 : decode cX1_take 83 = .ok (.getfield 24, 3) := by decide +kernel
theorem dX1_take_86 : decode cX1_take 86 = .ok (.iconst 0, 1) := by decide +kernel
theorem dX1_take_87 : decode cX1_take 87 = .ok (.bipush 8, 2) := by decide +kernel
theorem dX1_take_89 : decode cX1_take 89 = .ok (.invokestatic 70, 3) := by decide +kernel
theorem dX1_take_92 : decode cX1_take 92 = .ok (.aload_n 1, 1) := by decide +kernel
theorem dX1_take_93 : decode cX1_take 93 = .ok (.getfield 27, 3) := by decide +kernel
theorem dX1_take_96 : decode cX1_take 96 = .ok (.iconst 0, 1) := by decide +kernel
theorem dX1_take_97 : decode cX1_take 97 = .ok (.aload_n 0, 1) := by decide +kernel
theorem dX1_take_98 : decode cX1_take 98 = .ok (.getfield 27, 3) := by decide +kernel
theorem dX1_take_101 : decode cX1_take 101 = .ok (.iconst 0, 1) := by decide +kernel
theorem dX1_take_102 : decode cX1_take 102 = .ok (.bipush 8, 2) := by decide +kernel
theorem dX1_take_104 : decode cX1_take 104 = .ok (.invokestatic 70, 3) := by decide +kernel
theorem dX1_take_107 : decode cX1_take 107 = .ok (.aload_n 1, 1) := by decide +kernel
theorem dX1_take_108 : decode cX1_take 108 = .ok (.getfield 30, 3) := by decide +kernel
theorem dX1_take_111 : decode cX1_take 111 = .ok (.iconst 0, 1) := by decide +kernel
theorem dX1_take_112 : decode cX1_take 112 = .ok (.aload_n 0, 1) := by decide +kernel
theorem dX1_take_113 : decode cX1_take 113 = .ok (.getfield 30, 3) := by decide +kernel
theorem dX1_take_116 : decode cX1_take 116 = .ok (.iconst 0, 1) := by decide +kernel
theorem dX1_take_117 : decode cX1_take 117 = .ok (.bipush 8, 2) := by decide +kernel
theorem dX1_take_119 : decode cX1_take 119 = .ok (.invokestatic 70, 3) := by decide +kernel
theorem dX1_take_122 : decode cX1_take 122 = .ok (.aload_n 1, 1) := by decide +kernel
theorem dX1_take_123 : decode cX1_take 123 = .ok (.getfield 33, 3) := by decide +kernel
theorem dX1_take_126 : decode cX1_take 126 = .ok (.iconst 0, 1) := by decide +kernel
theorem dX1_take_127 : decode cX1_take 127 = .ok (.aload_n 0, 1) := by decide +kernel
theorem dX1_take_128 : decode cX1_take 128 = .ok (.getfield 33, 3) := by decide +kernel
theorem dX1_take_131 : decode cX1_take 131 = .ok (.iconst 0, 1) := by decide +kernel
theorem dX1_take_132 : decode cX1_take 132 = .ok (.bipush 8, 2) := by decide +kernel
theorem dX1_take_134 : decode cX1_take 134 = .ok (.invokestatic 70, 3) := by decide +kernel
theorem dX1_take_137 : decode cX1_take 137 = .ok (.aload_n 0, 1) := by decide +kernel
theorem dX1_take_138 : decode cX1_take 138 = .ok (.aload_n 1, 1) := by decide +kernel
theorem dX1_take_139 : decode cX1_take 139 = .ok (.getfield 64, 3) := by decide +kernel
theorem dX1_take_142 : decode cX1_take 142 = .ok (.putfield 64, 3) := by decide +kernel
theorem dX1_take_145 : decode cX1_take 145 = .ok (.aload_n 1, 1) := by decide +kernel
theorem dX1_take_146 : decode cX1_take 146 = .ok (.getfield 36, 3) := by decide +kernel
theorem dX1_take_149 : decode cX1_take 149 = .ok (.iconst 0, 1) := by decide +kernel
theorem dX1_take_150 : decode cX1_take 150 = .ok (.aload_n 0, 1) := by decide +kernel
theorem dX1_take_151 : decode cX1_take 151 = .ok (.getfield 36, 3) := by decide +kernel
theorem dX1_take_154 : decode cX1_take 154 = .ok (.iconst 0, 1) := by decide +kernel
theorem dX1_take_155 : decode cX1_take 155 = .ok (.bipush 24, 2) := by decide +kernel
theorem dX1_take_157 : decode cX1_take 157 = .ok (.invokestatic 70, 3) := by decide +kernel
theorem dX1_take_160 : decode cX1_take 160 = .ok (.aload_n 1, 1) := by decide +kernel
theorem dX1_take_161 : decode cX1_take 161 = .ok (.getfield 39, 3) := by decide +kernel
theorem dX1_take_164 : decode cX1_take 164 = .ok (.iconst 0, 1) := by decide +kernel
theorem dX1_take_165 : decode cX1_take 165 = .ok (.aload_n 0, 1) := by decide +kernel
theorem dX1_take_166 : decode cX1_take 166 = .ok (.getfield 39, 3) := by decide +kernel
theorem dX1_take_169 : decode cX1_take 169 = .ok (.iconst 0, 1) := by decide +kernel
theorem dX1_take_170 : decode cX1_take 170 = .ok (.bipush 24, 2) := by decide +kernel
theorem dX1_take_172 : decode cX1_take 172 = .ok (.invokestatic 70, 3) := by decide +kernel
theorem dX1_take_175 : decode cX1_take 175 = .ok (.aload_n 1, 1) := by decide +kernel
theorem dX1_take_176 : decode cX1_take 176 = .ok (.getfield 42, 3) := by decide +kernel
theorem dX1_take_179 : decode cX1_take 179 = .ok (.iconst 0, 1) := by decide +kernel
theorem dX1_take_180 : decode cX1_take 180 = .ok (.aload_n 0, 1) := by decide +kernel
theorem dX1_take_181 : decode cX1_take 181 = .ok (.getfield 42, 3) := by decide +kernel
theorem dX1_take_184 : decode cX1_take 184 = .ok (.iconst 0, 1) := by decide +kernel
theorem dX1_take_185 : decode cX1_take 185 = .ok (.bipush 24, 2) := by decide +kernel
theorem dX1_take_187 : decode cX1_take 187 = .ok (.invokestatic 70, 3) := by decide +kernel
theorem dX1_take_190 : decode cX1_take 190 = .ok (.aload_n 1, 1) := by decide +kernel
theorem dX1_take_191 : decode cX1_take 191 = .ok (.getfield 45, 3) := by decide +kernel
theorem dX1_take_194 : decode cX1_take 194 = .ok (.iconst 0, 1) := by decide +kernel
theorem dX1_take_195 : decode cX1_take 195 = .ok (.aload_n 0, 1) := by decide +kernel
theorem dX1_take_196 : decode cX1_take 196 = .ok (.getfield 45, 3) := by decide +kernel
theorem dX1_take_199 : decode cX1_take 199 = .ok (.iconst 0, 1) := by decide +kernel
theorem dX1_take_200 : decode cX1_take 200 = .ok (.bipush 24, 2) := by decide +kernel
theorem dX1_take_202 : decode cX1_take 202 = .ok (.invokestatic 70, 3) := by decide +kernel
theorem dX1_take_205 : decode cX1_take 205 = .ok (.aload_n 1, 1) := by decide +kernel
theorem dX1_take_206 : decode cX1_take 206 = .ok (.getfield 48, 3) := by decide +kernel
theorem dX1_take_209 : decode cX1_take 209 = .ok (.iconst 0, 1) := by decide +kernel
theorem dX1_take_210 : decode cX1_take 210 = .ok (.aload_n 0, 1) := by decide +kernel
theorem dX1_take_211 : decode cX1_take 211 = .ok (.getfield 48, 3) := by decide +kernel
theorem dX1_take_214 : decode cX1_take 214 = .ok (.iconst 0, 1) := by decide +kernel
theorem dX1_take_215 : decode cX1_take 215 = .ok (.bipush 24, 2) := by decide +kernel
theorem dX1_take_217 : decode cX1_take 217 = .ok (.invokestatic 70, 3) := by decide +kernel
theorem dX1_take_220 : decode cX1_take 220 = .ok (.aload_n 1, 1) := by decide +kernel
theorem dX1_take_221 : decode cX1_take 221 = .ok (.getfield 51, 3) := by decide +kernel
theorem dX1_take_224 : decode cX1_take 224 = .ok (.iconst 0, 1) := by decide +kernel
theorem dX1_take_225 : decode cX1_take 225 = .ok (.aload_n 0, 1) := by decide +kernel
theorem dX1_take_226 : decode cX1_take 226 = .ok (.getfield 51, 3) := by decide +kernel
theorem dX1_take_229 : decode cX1_take 229 = .ok (.iconst 0, 1) := by decide +kernel
theorem dX1_take_230 : decode cX1_take 230 = .ok (.bipush 24, 2) := by decide +kernel
theorem dX1_take_232 : decode cX1_take 232 = .ok (.invokestatic 70, 3) := by decide +kernel
theorem dX1_take_235 : decode cX1_take 235 = .ok (.aload_n 0, 1) := by decide +kernel
theorem dX1_take_236 : decode cX1_take 236 = .ok (.aload_n 1, 1) := by decide +kernel
theorem dX1_take_237 : decode cX1_take 237 = .ok (.getfield 67, 3) := by decide +kernel
theorem dX1_take_240 : decode cX1_take 240 = .ok (.putfield 67, 3) := by decide +kernel
theorem dX1_take_243 : decode cX1_take 243 = .ok (.aload_n 0, 1) := by decide +kernel
theorem dX1_take_244 : decode cX1_take 244 = .ok (.aload_n 1, 1) := by decide +kernel
theorem dX1_take_245 : decode cX1_take 245 = .ok (.getfield 54, 3) := by decide +kernel
theorem dX1_take_248 : decode cX1_take 248 = .ok (.putfield 54, 3) := by decide +kernel
theorem dX1_take_251 : decode cX1_take 251 = .ok (.return_, 1) := by decide +kernel
theorem dX1_isRead_0 : decode cX1_isRead 0 = .ok (.aload_n 0, 1) := by decide +kernel
theorem dX1_isRead_1 : decode cX1_isRead 1 = .ok (.getfield 61, 3) := by decide +kernel
theorem dX1_isRead_4 : decode cX1_isRead 4 = .ok (.ifCond .le 7, 3) := by decide +kernel
theorem dX1_isRead_7 : decode cX1_isRead 7 = .ok (.iconst 1, 1) := by decide +kernel
theorem dX1_isRead_8 : decode cX1_isRead 8 = .ok (.goto 4, 3) := by decide +kernel
theorem dX1_isRead_11 : decode cX1_isRead 11 = .ok (.iconst 0, 1) := by decide +kernel
theorem dX1_isRead_12 : decode cX1_isRead 12 = .ok (.ireturn, 1) := by decide +kernel
theorem dX1_hasStep_0 : decode cX1_hasStep 0 = .ok (.iload_n 1, 1) := by decide +kernel
theorem dX1_hasStep_1 : decode cX1_hasStep 1 = .ok (.ifCond .lt 15, 3) := by decide +kernel
theorem dX1_hasStep_4 : decode cX1_hasStep 4 = .ok (.iload_n 1, 1) := by decide +kernel
theorem dX1_hasStep_5 : decode cX1_hasStep 5 = .ok (.aload_n 0, 1) := by decide +kernel
theorem dX1_hasStep_6 : decode cX1_hasStep 6 = .ok (.getfield 64, 3) := by decide +kernel
theorem dX1_hasStep_9 : decode cX1_hasStep 9 = .ok (.if_icmp .ge 7, 3) := by decide +kernel
theorem dX1_hasStep_12 : decode cX1_hasStep 12 = .ok (.iconst 1, 1) := by decide +kernel
theorem dX1_hasStep_13 : decode cX1_hasStep 13 = .ok (.goto 4, 3) := by decide +kernel
theorem dX1_hasStep_16 : decode cX1_hasStep 16 = .ok (.iconst 0, 1) := by decide +kernel
theorem dX1_hasStep_17 : decode cX1_hasStep 17 = .ok (.ireturn, 1) := by decide +kernel
theorem dX1_allDishes_0 : decode cX1_allDishes 0 = .ok (.iconst 1, 1) := by decide +kernel
theorem dX1_allDishes_1 : decode cX1_allDishes 1 = .ok (.aload_n 0, 1) := by decide +kernel
theorem dX1_allDishes_2 : decode cX1_allDishes 2 = .ok (.getfield 61, 3) := by decide +kernel
theorem dX1_allDishes_5 : decode cX1_allDishes 5 = .ok (.ishl, 1) := by decide +kernel
theorem dX1_allDishes_6 : decode cX1_allDishes 6 = .ok (.iconst 1, 1) := by decide +kernel
theorem dX1_allDishes_7 : decode cX1_allDishes 7 = .ok (.isub, 1) := by decide +kernel
theorem dX1_allDishes_8 : decode cX1_allDishes 8 = .ok (.ireturn, 1) := by decide +kernel
theorem dX1_dinnerSteps_0 : decode cX1_dinnerSteps 0 = .ok (.iconst 0, 1) := by decide +kernel
theorem dX1_dinnerSteps_1 : decode cX1_dinnerSteps 1 = .ok (.istore_n 1, 1) := by decide +kernel
theorem dX1_dinnerSteps_2 : decode cX1_dinnerSteps 2 = .ok (.iconst 0, 1) := by decide +kernel
theorem dX1_dinnerSteps_3 : decode cX1_dinnerSteps 3 = .ok (.istore_n 2, 1) := by decide +kernel
theorem dX1_dinnerSteps_4 : decode cX1_dinnerSteps 4 = .ok (.iload_n 2, 1) := by decide +kernel
theorem dX1_dinnerSteps_5 : decode cX1_dinnerSteps 5 = .ok (.aload_n 0, 1) := by decide +kernel
theorem dX1_dinnerSteps_6 : decode cX1_dinnerSteps 6 = .ok (.getfield 61, 3) := by decide +kernel
theorem dX1_dinnerSteps_9 : decode cX1_dinnerSteps 9 = .ok (.if_icmp .ge 29, 3) := by decide +kernel
theorem dX1_dinnerSteps_12 : decode cX1_dinnerSteps 12 = .ok (.aload_n 0, 1) := by decide +kernel
theorem dX1_dinnerSteps_13 : decode cX1_dinnerSteps 13 = .ok (.getfield 67, 3) := by decide +kernel
theorem dX1_dinnerSteps_16 : decode cX1_dinnerSteps 16 = .ok (.iload_n 2, 1) := by decide +kernel
theorem dX1_dinnerSteps_17 : decode cX1_dinnerSteps 17 = .ok (.ishr, 1) := by decide +kernel
theorem dX1_dinnerSteps_18 : decode cX1_dinnerSteps 18 = .ok (.iconst 1, 1) := by decide +kernel
theorem dX1_dinnerSteps_19 : decode cX1_dinnerSteps 19 = .ok (.iand, 1) := by decide +kernel
theorem dX1_dinnerSteps_20 : decode cX1_dinnerSteps 20 = .ok (.ifCond .eq 12, 3) := by decide +kernel
theorem dX1_dinnerSteps_23 : decode cX1_dinnerSteps 23 = .ok (.iload_n 1, 1) := by decide +kernel
theorem dX1_dinnerSteps_24 : decode cX1_dinnerSteps 24 = .ok (.aload_n 0, 1) := by decide +kernel
theorem dX1_dinnerSteps_25 : decode cX1_dinnerSteps 25 = .ok (.getfield 30, 3) := by decide +kernel
theorem dX1_dinnerSteps_28 : decode cX1_dinnerSteps 28 = .ok (.iload_n 2, 1) := by decide +kernel
theorem dX1_dinnerSteps_29 : decode cX1_dinnerSteps 29 = .ok (.iaload, 1) := by decide +kernel
theorem dX1_dinnerSteps_30 : decode cX1_dinnerSteps 30 = .ok (.iadd, 1) := by decide +kernel
theorem dX1_dinnerSteps_31 : decode cX1_dinnerSteps 31 = .ok (.istore_n 1, 1) := by decide +kernel
theorem dX1_dinnerSteps_32 : decode cX1_dinnerSteps 32 = .ok (.iinc 2 1, 3) := by decide +kernel
theorem dX1_dinnerSteps_35 : decode cX1_dinnerSteps 35 = .ok (.goto (-31), 3) := by decide +kernel
theorem dX1_dinnerSteps_38 : decode cX1_dinnerSteps 38 = .ok (.iload_n 1, 1) := by decide +kernel
theorem dX1_dinnerSteps_39 : decode cX1_dinnerSteps 39 = .ok (.ireturn, 1) := by decide +kernel
theorem dX1_waitBehind_0 : decode cX1_waitBehind 0 = .ok (.iload_n 2, 1) := by decide +kernel
theorem dX1_waitBehind_1 : decode cX1_waitBehind 1 = .ok (.aload_n 0, 1) := by decide +kernel
theorem dX1_waitBehind_2 : decode cX1_waitBehind 2 = .ok (.getfield 30, 3) := by decide +kernel
theorem dX1_waitBehind_5 : decode cX1_waitBehind 5 = .ok (.iload_n 1, 1) := by decide +kernel
theorem dX1_waitBehind_6 : decode cX1_waitBehind 6 = .ok (.iaload, 1) := by decide +kernel
theorem dX1_waitBehind_7 : decode cX1_waitBehind 7 = .ok (.iconst 1, 1) := by decide +kernel
theorem dX1_waitBehind_8 : decode cX1_waitBehind 8 = .ok (.isub, 1) := by decide +kernel
theorem dX1_waitBehind_9 : decode cX1_waitBehind 9 = .ok (.if_icmp .ge 19, 3) := by decide +kernel
theorem dX1_waitBehind_12 : decode cX1_waitBehind 12 = .ok (.aload_n 0, 1) := by decide +kernel
theorem dX1_waitBehind_13 : decode cX1_waitBehind 13 = .ok (.getfield 42, 3) := by decide +kernel
theorem dX1_waitBehind_16 : decode cX1_waitBehind 16 = .ok (.aload_n 0, 1) := by decide +kernel
theorem dX1_waitBehind_17 : decode cX1_waitBehind 17 = .ok (.getfield 33, 3) := by decide +kernel
theorem dX1_waitBehind_20 : decode cX1_waitBehind 20 = .ok (.iload_n 1, 1) := by decide +kernel
theorem dX1_waitBehind_21 : decode cX1_waitBehind 21 = .ok (.iaload, 1) := by decide +kernel
theorem dX1_waitBehind_22 : decode cX1_waitBehind 22 = .ok (.iload_n 2, 1) := by decide +kernel
theorem dX1_waitBehind_23 : decode cX1_waitBehind 23 = .ok (.iadd, 1) := by decide +kernel
theorem dX1_waitBehind_24 : decode cX1_waitBehind 24 = .ok (.iaload, 1) := by decide +kernel
theorem dX1_waitBehind_25 : decode cX1_waitBehind 25 = .ok (.goto 4, 3) := by decide +kernel
theorem dX1_waitBehind_28 : decode cX1_waitBehind 28 = .ok (.iconst 0, 1) := by decide +kernel
theorem dX1_waitBehind_29 : decode cX1_waitBehind 29 = .ok (.ireturn, 1) := by decide +kernel
theorem dX1_given_0 : decode cX1_given 0 = .ok (.iload_n 1, 1) := by decide +kernel
theorem dX1_given_1 : decode cX1_given 1 = .ok (.aload_n 0, 1) := by decide +kernel
theorem dX1_given_2 : decode cX1_given 2 = .ok (.getfield 54, 3) := by decide +kernel
theorem dX1_given_5 : decode cX1_given 5 = .ok (.if_icmp .lt 7, 3) := by decide +kernel
theorem dX1_given_8 : decode cX1_given 8 = .ok (.iconst 1, 1) := by decide +kernel
theorem dX1_given_9 : decode cX1_given 9 = .ok (.goto 4, 3) := by decide +kernel
theorem dX1_given_12 : decode cX1_given 12 = .ok (.iconst 0, 1) := by decide +kernel
theorem dX1_given_13 : decode cX1_given 13 = .ok (.istore_n 3, 1) := by decide +kernel
theorem dX1_given_14 : decode cX1_given 14 = .ok (.iload_n 2, 1) := by decide +kernel
theorem dX1_given_15 : decode cX1_given 15 = .ok (.tableswitch 78 0 3 #[29, 45, 54, 61], 29) := by decide +kernel
theorem dX1_given_44 : decode cX1_given 44 = .ok (.aload_n 0, 1) := by decide +kernel
theorem dX1_given_45 : decode cX1_given 45 = .ok (.getfield 9, 3) := by decide +kernel
theorem dX1_given_48 : decode cX1_given 48 = .ok (.iconst 0, 1) := by decide +kernel
theorem dX1_given_49 : decode cX1_given 49 = .ok (.iaload, 1) := by decide +kernel
theorem dX1_given_50 : decode cX1_given 50 = .ok (.aload_n 0, 1) := by decide +kernel
theorem dX1_given_51 : decode cX1_given 51 = .ok (.getfield 9, 3) := by decide +kernel
theorem dX1_given_54 : decode cX1_given 54 = .ok (.iconst 1, 1) := by decide +kernel
theorem dX1_given_55 : decode cX1_given 55 = .ok (.iaload, 1) := by decide +kernel
theorem dX1_given_56 : decode cX1_given 56 = .ok (.iadd, 1) := by decide +kernel
theorem dX1_given_57 : decode cX1_given 57 = .ok (.iload_n 3, 1) := by decide +kernel
theorem dX1_given_58 : decode cX1_given 58 = .ok (.isub, 1) := by decide +kernel
theorem dX1_given_59 : decode cX1_given 59 = .ok (.ireturn, 1) := by decide +kernel
theorem dX1_given_60 : decode cX1_given 60 = .ok (.aload_n 0, 1) := by decide +kernel
theorem dX1_given_61 : decode cX1_given 61 = .ok (.getfield 9, 3) := by decide +kernel
theorem dX1_given_64 : decode cX1_given 64 = .ok (.iconst 1, 1) := by decide +kernel
theorem dX1_given_65 : decode cX1_given 65 = .ok (.iaload, 1) := by decide +kernel
theorem dX1_given_66 : decode cX1_given 66 = .ok (.iload_n 3, 1) := by decide +kernel
theorem dX1_given_67 : decode cX1_given 67 = .ok (.isub, 1) := by decide +kernel
theorem dX1_given_68 : decode cX1_given 68 = .ok (.ireturn, 1) := by decide +kernel
theorem dX1_given_69 : decode cX1_given 69 = .ok (.aload_n 0, 1) := by decide +kernel
theorem dX1_given_70 : decode cX1_given 70 = .ok (.getfield 9, 3) := by decide +kernel
theorem dX1_given_73 : decode cX1_given 73 = .ok (.iconst 2, 1) := by decide +kernel
theorem dX1_given_74 : decode cX1_given 74 = .ok (.iaload, 1) := by decide +kernel
theorem dX1_given_75 : decode cX1_given 75 = .ok (.ireturn, 1) := by decide +kernel
theorem dX1_given_76 : decode cX1_given 76 = .ok (.iconst 0, 1) := by decide +kernel
theorem dX1_given_77 : decode cX1_given 77 = .ok (.aload_n 0, 1) := by decide +kernel
theorem dX1_given_78 : decode cX1_given 78 = .ok (.getfield 9, 3) := by decide +kernel
theorem dX1_given_81 : decode cX1_given 81 = .ok (.iconst 5, 1) := by decide +kernel
theorem dX1_given_82 : decode cX1_given 82 = .ok (.iaload, 1) := by decide +kernel
theorem dX1_given_83 : decode cX1_given 83 = .ok (.aload_n 0, 1) := by decide +kernel
theorem dX1_given_84 : decode cX1_given 84 = .ok (.iload_n 1, 1) := by decide +kernel
theorem dX1_given_85 : decode cX1_given 85 = .ok (.invokevirtual 76, 3) := by decide +kernel
theorem dX1_given_88 : decode cX1_given 88 = .ok (.isub, 1) := by decide +kernel
theorem dX1_given_89 : decode cX1_given 89 = .ok (.invokestatic 80, 3) := by decide +kernel
theorem dX1_given_92 : decode cX1_given 92 = .ok (.ireturn, 1) := by decide +kernel
theorem dX1_given_93 : decode cX1_given 93 = .ok (.aload_n 0, 1) := by decide +kernel
theorem dX1_given_94 : decode cX1_given 94 = .ok (.getfield 9, 3) := by decide +kernel
theorem dX1_given_97 : decode cX1_given 97 = .ok (.bipush 6, 2) := by decide +kernel
theorem dX1_given_99 : decode cX1_given 99 = .ok (.iaload, 1) := by decide +kernel
theorem dX1_given_100 : decode cX1_given 100 = .ok (.ireturn, 1) := by decide +kernel
theorem dX1_awayAt_0 : decode cX1_awayAt 0 = .ok (.iconst 0, 1) := by decide +kernel
theorem dX1_awayAt_1 : decode cX1_awayAt 1 = .ok (.istore_n 2, 1) := by decide +kernel
theorem dX1_awayAt_2 : decode cX1_awayAt 2 = .ok (.iconst 0, 1) := by decide +kernel
theorem dX1_awayAt_3 : decode cX1_awayAt 3 = .ok (.istore_n 3, 1) := by decide +kernel
theorem dX1_awayAt_4 : decode cX1_awayAt 4 = .ok (.iload_n 3, 1) := by decide +kernel
theorem dX1_awayAt_5 : decode cX1_awayAt 5 = .ok (.aload_n 0, 1) := by decide +kernel
theorem dX1_awayAt_6 : decode cX1_awayAt 6 = .ok (.getfield 58, 3) := by decide +kernel
theorem dX1_awayAt_9 : decode cX1_awayAt 9 = .ok (.if_icmp .ge 32, 3) := by decide +kernel
theorem dX1_awayAt_12 : decode cX1_awayAt 12 = .ok (.aload_n 0, 1) := by decide +kernel
theorem dX1_awayAt_13 : decode cX1_awayAt 13 = .ok (.getfield 15, 3) := by decide +kernel
theorem dX1_awayAt_16 : decode cX1_awayAt 16 = .ok (.iload_n 3, 1) := by decide +kernel
theorem dX1_awayAt_17 : decode cX1_awayAt 17 = .ok (.iaload, 1) := by decide +kernel
theorem dX1_awayAt_18 : decode cX1_awayAt 18 = .ok (.iload_n 1, 1) := by decide +kernel
theorem dX1_awayAt_19 : decode cX1_awayAt 19 = .ok (.if_icmp .gt 16, 3) := by decide +kernel
theorem dX1_awayAt_22 : decode cX1_awayAt 22 = .ok (.iload_n 1, 1) := by decide +kernel
theorem dX1_awayAt_23 : decode cX1_awayAt 23 = .ok (.aload_n 0, 1) := by decide +kernel
theorem dX1_awayAt_24 : decode cX1_awayAt 24 = .ok (.getfield 18, 3) := by decide +kernel
theorem dX1_awayAt_27 : decode cX1_awayAt 27 = .ok (.iload_n 3, 1) := by decide +kernel
theorem dX1_awayAt_28 : decode cX1_awayAt 28 = .ok (.iaload, 1) := by decide +kernel
theorem dX1_awayAt_29 : decode cX1_awayAt 29 = .ok (.if_icmp .gt 6, 3) := by decide +kernel
theorem dX1_awayAt_32 : decode cX1_awayAt 32 = .ok (.iinc 2 1, 3) := by decide +kernel
theorem dX1_awayAt_35 : decode cX1_awayAt 35 = .ok (.iinc 3 1, 3) := by decide +kernel
theorem dX1_awayAt_38 : decode cX1_awayAt 38 = .ok (.goto (-34), 3) := by decide +kernel
theorem dX1_awayAt_41 : decode cX1_awayAt 41 = .ok (.iload_n 2, 1) := by decide +kernel
theorem dX1_awayAt_42 : decode cX1_awayAt 42 = .ok (.ireturn, 1) := by decide +kernel
theorem dX1_kindOf_0 : decode cX1_kindOf 0 = .ok (.aload_n 0, 1) := by decide +kernel
theorem dX1_kindOf_1 : decode cX1_kindOf 1 = .ok (.getfield 36, 3) := by decide +kernel
theorem dX1_kindOf_4 : decode cX1_kindOf 4 = .ok (.iload_n 1, 1) := by decide +kernel
theorem dX1_kindOf_5 : decode cX1_kindOf 5 = .ok (.iaload, 1) := by decide +kernel
theorem dX1_kindOf_6 : decode cX1_kindOf 6 = .ok (.tableswitch 53 0 3 #[30, 47, 49, 51], 30) := by decide +kernel
theorem dX1_kindOf_36 : decode cX1_kindOf 36 = .ok (.aload_n 0, 1) := by decide +kernel
theorem dX1_kindOf_37 : decode cX1_kindOf 37 = .ok (.getfield 45, 3) := by decide +kernel
theorem dX1_kindOf_40 : decode cX1_kindOf 40 = .ok (.iload_n 1, 1) := by decide +kernel
theorem dX1_kindOf_41 : decode cX1_kindOf 41 = .ok (.iaload, 1) := by decide +kernel
theorem dX1_kindOf_42 : decode cX1_kindOf 42 = .ok (.iconst 2, 1) := by decide +kernel
theorem dX1_kindOf_43 : decode cX1_kindOf 43 = .ok (.if_icmp .ne 8, 3) := by decide +kernel
theorem dX1_kindOf_46 : decode cX1_kindOf 46 = .ok (.bipush 6, 2) := by decide +kernel
theorem dX1_kindOf_48 : decode cX1_kindOf 48 = .ok (.goto 4, 3) := by decide +kernel
theorem dX1_kindOf_51 : decode cX1_kindOf 51 = .ok (.iconst 1, 1) := by decide +kernel
theorem dX1_kindOf_52 : decode cX1_kindOf 52 = .ok (.ireturn, 1) := by decide +kernel
theorem dX1_kindOf_53 : decode cX1_kindOf 53 = .ok (.iconst 2, 1) := by decide +kernel
theorem dX1_kindOf_54 : decode cX1_kindOf 54 = .ok (.ireturn, 1) := by decide +kernel
theorem dX1_kindOf_55 : decode cX1_kindOf 55 = .ok (.iconst 3, 1) := by decide +kernel
theorem dX1_kindOf_56 : decode cX1_kindOf 56 = .ok (.ireturn, 1) := by decide +kernel
theorem dX1_kindOf_57 : decode cX1_kindOf 57 = .ok (.iconst 4, 1) := by decide +kernel
theorem dX1_kindOf_58 : decode cX1_kindOf 58 = .ok (.ireturn, 1) := by decide +kernel
theorem dX1_kindOf_59 : decode cX1_kindOf 59 = .ok (.iconst 5, 1) := by decide +kernel
theorem dX1_kindOf_60 : decode cX1_kindOf 60 = .ok (.ireturn, 1) := by decide +kernel
theorem dX1_warmsBy_0 : decode cX1_warmsBy 0 = .ok (.aload_n 0, 1) := by decide +kernel
theorem dX1_warmsBy_1 : decode cX1_warmsBy 1 = .ok (.getfield 48, 3) := by decide +kernel
theorem dX1_warmsBy_4 : decode cX1_warmsBy 4 = .ok (.iload_n 1, 1) := by decide +kernel
theorem dX1_warmsBy_5 : decode cX1_warmsBy 5 = .ok (.iaload, 1) := by decide +kernel
theorem dX1_warmsBy_6 : decode cX1_warmsBy 6 = .ok (.aload_n 0, 1) := by decide +kernel
theorem dX1_warmsBy_7 : decode cX1_warmsBy 7 = .ok (.getfield 9, 3) := by decide +kernel
theorem dX1_warmsBy_10 : decode cX1_warmsBy 10 = .ok (.iconst 3, 1) := by decide +kernel
theorem dX1_warmsBy_11 : decode cX1_warmsBy 11 = .ok (.iaload, 1) := by decide +kernel
theorem dX1_warmsBy_12 : decode cX1_warmsBy 12 = .ok (.iload_n 2, 1) := by decide +kernel
theorem dX1_warmsBy_13 : decode cX1_warmsBy 13 = .ok (.iconst 1, 1) := by decide +kernel
theorem dX1_warmsBy_14 : decode cX1_warmsBy 14 = .ok (.iadd, 1) := by decide +kernel
theorem dX1_warmsBy_15 : decode cX1_warmsBy 15 = .ok (.imul, 1) := by decide +kernel
theorem dX1_warmsBy_16 : decode cX1_warmsBy 16 = .ok (.if_icmp .gt 7, 3) := by decide +kernel
theorem dX1_warmsBy_19 : decode cX1_warmsBy 19 = .ok (.iconst 1, 1) := by decide +kernel
theorem dX1_warmsBy_20 : decode cX1_warmsBy 20 = .ok (.goto 4, 3) := by decide +kernel
theorem dX1_warmsBy_23 : decode cX1_warmsBy 23 = .ok (.iconst 0, 1) := by decide +kernel
theorem dX1_warmsBy_24 : decode cX1_warmsBy 24 = .ok (.ireturn, 1) := by decide +kernel
theorem dX1_heatsAgree_0 : decode cX1_heatsAgree 0 = .ok (.iload 4, 2) := by decide +kernel
theorem dX1_heatsAgree_2 : decode cX1_heatsAgree 2 = .ok (.iload_n 2, 1) := by decide +kernel
theorem dX1_heatsAgree_3 : decode cX1_heatsAgree 3 = .ok (.aload_n 0, 1) := by decide +kernel
theorem dX1_heatsAgree_4 : decode cX1_heatsAgree 4 = .ok (.getfield 39, 3) := by decide +kernel
theorem dX1_heatsAgree_7 : decode cX1_heatsAgree 7 = .ok (.iload_n 1, 1) := by decide +kernel
theorem dX1_heatsAgree_8 : decode cX1_heatsAgree 8 = .ok (.iaload, 1) := by decide +kernel
theorem dX1_heatsAgree_9 : decode cX1_heatsAgree 9 = .ok (.iadd, 1) := by decide +kernel
theorem dX1_heatsAgree_10 : decode cX1_heatsAgree 10 = .ok (.iconst 1, 1) := by decide +kernel
theorem dX1_heatsAgree_11 : decode cX1_heatsAgree 11 = .ok (.isub, 1) := by decide +kernel
theorem dX1_heatsAgree_12 : decode cX1_heatsAgree 12 = .ok (.isub, 1) := by decide +kernel
theorem dX1_heatsAgree_13 : decode cX1_heatsAgree 13 = .ok (.istore 5, 2) := by decide +kernel
theorem dX1_heatsAgree_15 : decode cX1_heatsAgree 15 = .ok (.iload_n 2, 1) := by decide +kernel
theorem dX1_heatsAgree_16 : decode cX1_heatsAgree 16 = .ok (.iload 4, 2) := by decide +kernel
theorem dX1_heatsAgree_18 : decode cX1_heatsAgree 18 = .ok (.aload_n 0, 1) := by decide +kernel
theorem dX1_heatsAgree_19 : decode cX1_heatsAgree 19 = .ok (.getfield 39, 3) := by decide +kernel
theorem dX1_heatsAgree_22 : decode cX1_heatsAgree 22 = .ok (.iload_n 3, 1) := by decide +kernel
theorem dX1_heatsAgree_23 : decode cX1_heatsAgree 23 = .ok (.iaload, 1) := by decide +kernel
theorem dX1_heatsAgree_24 : decode cX1_heatsAgree 24 = .ok (.iadd, 1) := by decide +kernel
theorem dX1_heatsAgree_25 : decode cX1_heatsAgree 25 = .ok (.iconst 1, 1) := by decide +kernel
theorem dX1_heatsAgree_26 : decode cX1_heatsAgree 26 = .ok (.isub, 1) := by decide +kernel
theorem dX1_heatsAgree_27 : decode cX1_heatsAgree 27 = .ok (.isub, 1) := by decide +kernel
theorem dX1_heatsAgree_28 : decode cX1_heatsAgree 28 = .ok (.istore 6, 2) := by decide +kernel
theorem dX1_heatsAgree_30 : decode cX1_heatsAgree 30 = .ok (.iconst 0, 1) := by decide +kernel
theorem dX1_heatsAgree_31 : decode cX1_heatsAgree 31 = .ok (.istore 7, 2) := by decide +kernel
theorem dX1_heatsAgree_33 : decode cX1_heatsAgree 33 = .ok (.iconst 0, 1) := by decide +kernel
theorem dX1_heatsAgree_34 : decode cX1_heatsAgree 34 = .ok (.istore 8, 2) := by decide +kernel
theorem dX1_heatsAgree_36 : decode cX1_heatsAgree 36 = .ok (.iload 5, 2) := by decide +kernel
theorem dX1_heatsAgree_38 : decode cX1_heatsAgree 38 = .ok (.ifCond .le 28, 3) := by decide +kernel
theorem dX1_heatsAgree_41 : decode cX1_heatsAgree 41 = .ok (.aload_n 0, 1) := by decide +kernel
theorem dX1_heatsAgree_42 : decode cX1_heatsAgree 42 = .ok (.getfield 9, 3) := by decide +kernel
theorem dX1_heatsAgree_45 : decode cX1_heatsAgree 45 = .ok (.iconst 3, 1) := by decide +kernel
theorem dX1_heatsAgree_46 : decode cX1_heatsAgree 46 = .ok (.iaload, 1) := by decide +kernel
theorem dX1_heatsAgree_47 : decode cX1_heatsAgree 47 = .ok (.iload 5, 2) := by decide +kernel
theorem dX1_heatsAgree_49 : decode cX1_heatsAgree 49 = .ok (.imul, 1) := by decide +kernel
theorem dX1_heatsAgree_50 : decode cX1_heatsAgree 50 = .ok (.istore 7, 2) := by decide +kernel
theorem dX1_heatsAgree_52 : decode cX1_heatsAgree 52 = .ok (.aload_n 0, 1) := by decide +kernel
theorem dX1_heatsAgree_53 : decode cX1_heatsAgree 53 = .ok (.getfield 9, 3) := by decide +kernel
theorem dX1_heatsAgree_56 : decode cX1_heatsAgree 56 = .ok (.iconst 4, 1) := by decide +kernel
theorem dX1_heatsAgree_57 : decode cX1_heatsAgree 57 = .ok (.iaload, 1) := by decide +kernel
theorem dX1_heatsAgree_58 : decode cX1_heatsAgree 58 = .ok (.iload 5, 2) := by decide +kernel
theorem dX1_heatsAgree_60 : decode cX1_heatsAgree 60 = .ok (.imul, 1) := by decide +kernel
theorem dX1_heatsAgree_61 : decode cX1_heatsAgree 61 = .ok (.istore 8, 2) := by decide +kernel
theorem dX1_heatsAgree_63 : decode cX1_heatsAgree 63 = .ok (.goto 30, 3) := by decide +kernel
theorem dX1_heatsAgree_66 : decode cX1_heatsAgree 66 = .ok (.iload 6, 2) := by decide +kernel
theorem dX1_heatsAgree_68 : decode cX1_heatsAgree 68 = .ok (.ifCond .le 25, 3) := by decide +kernel
theorem dX1_heatsAgree_71 : decode cX1_heatsAgree 71 = .ok (.aload_n 0, 1) := by decide +kernel
theorem dX1_heatsAgree_72 : decode cX1_heatsAgree 72 = .ok (.getfield 9, 3) := by decide +kernel
theorem dX1_heatsAgree_75 : decode cX1_heatsAgree 75 = .ok (.iconst 4, 1) := by decide +kernel
theorem dX1_heatsAgree_76 : decode cX1_heatsAgree 76 = .ok (.iaload, 1) := by decide +kernel
theorem dX1_heatsAgree_77 : decode cX1_heatsAgree 77 = .ok (.iload 6, 2) := by decide +kernel
theorem dX1_heatsAgree_79 : decode cX1_heatsAgree 79 = .ok (.imul, 1) := by decide +kernel
theorem dX1_heatsAgree_80 : decode cX1_heatsAgree 80 = .ok (.istore 7, 2) := by decide +kernel
theorem dX1_heatsAgree_82 : decode cX1_heatsAgree 82 = .ok (.aload_n 0, 1) := by decide +kernel
theorem dX1_heatsAgree_83 : decode cX1_heatsAgree 83 = .ok (.getfield 9, 3) := by decide +kernel
theorem dX1_heatsAgree_86 : decode cX1_heatsAgree 86 = .ok (.iconst 3, 1) := by decide +kernel
theorem dX1_heatsAgree_87 : decode cX1_heatsAgree 87 = .ok (.iaload, 1) := by decide +kernel
theorem dX1_heatsAgree_88 : decode cX1_heatsAgree 88 = .ok (.iload 6, 2) := by decide +kernel
theorem dX1_heatsAgree_90 : decode cX1_heatsAgree 90 = .ok (.imul, 1) := by decide +kernel
theorem dX1_heatsAgree_91 : decode cX1_heatsAgree 91 = .ok (.istore 8, 2) := by decide +kernel
theorem dX1_heatsAgree_93 : decode cX1_heatsAgree 93 = .ok (.aload_n 0, 1) := by decide +kernel
theorem dX1_heatsAgree_94 : decode cX1_heatsAgree 94 = .ok (.getfield 48, 3) := by decide +kernel
theorem dX1_heatsAgree_97 : decode cX1_heatsAgree 97 = .ok (.iload_n 3, 1) := by decide +kernel
theorem dX1_heatsAgree_98 : decode cX1_heatsAgree 98 = .ok (.iaload, 1) := by decide +kernel
theorem dX1_heatsAgree_99 : decode cX1_heatsAgree 99 = .ok (.aload_n 0, 1) := by decide +kernel
theorem dX1_heatsAgree_100 : decode cX1_heatsAgree 100 = .ok (.getfield 51, 3) := by decide +kernel
theorem dX1_heatsAgree_103 : decode cX1_heatsAgree 103 = .ok (.iload_n 1, 1) := by decide +kernel
theorem dX1_heatsAgree_104 : decode cX1_heatsAgree 104 = .ok (.iaload, 1) := by decide +kernel
theorem dX1_heatsAgree_105 : decode cX1_heatsAgree 105 = .ok (.iload 7, 2) := by decide +kernel
theorem dX1_heatsAgree_107 : decode cX1_heatsAgree 107 = .ok (.iadd, 1) := by decide +kernel
theorem dX1_heatsAgree_108 : decode cX1_heatsAgree 108 = .ok (.if_icmp .gt 25, 3) := by decide +kernel
theorem dX1_heatsAgree_111 : decode cX1_heatsAgree 111 = .ok (.aload_n 0, 1) := by decide +kernel
theorem dX1_heatsAgree_112 : decode cX1_heatsAgree 112 = .ok (.getfield 48, 3) := by decide +kernel
theorem dX1_heatsAgree_115 : decode cX1_heatsAgree 115 = .ok (.iload_n 1, 1) := by decide +kernel
theorem dX1_heatsAgree_116 : decode cX1_heatsAgree 116 = .ok (.iaload, 1) := by decide +kernel
theorem dX1_heatsAgree_117 : decode cX1_heatsAgree 117 = .ok (.aload_n 0, 1) := by decide +kernel
theorem dX1_heatsAgree_118 : decode cX1_heatsAgree 118 = .ok (.getfield 51, 3) := by decide +kernel
theorem dX1_heatsAgree_121 : decode cX1_heatsAgree 121 = .ok (.iload_n 3, 1) := by decide +kernel
theorem dX1_heatsAgree_122 : decode cX1_heatsAgree 122 = .ok (.iaload, 1) := by decide +kernel
theorem dX1_heatsAgree_123 : decode cX1_heatsAgree 123 = .ok (.iload 8, 2) := by decide +kernel
theorem dX1_heatsAgree_125 : decode cX1_heatsAgree 125 = .ok (.iadd, 1) := by decide +kernel
theorem dX1_heatsAgree_126 : decode cX1_heatsAgree 126 = .ok (.if_icmp .gt 7, 3) := by decide +kernel
theorem dX1_heatsAgree_129 : decode cX1_heatsAgree 129 = .ok (.iconst 1, 1) := by decide +kernel
theorem dX1_heatsAgree_130 : decode cX1_heatsAgree 130 = .ok (.goto 4, 3) := by decide +kernel
theorem dX1_heatsAgree_133 : decode cX1_heatsAgree 133 = .ok (.iconst 0, 1) := by decide +kernel
theorem dX1_heatsAgree_134 : decode cX1_heatsAgree 134 = .ok (.ireturn, 1) := by decide +kernel
theorem dX2_init_0 : decode cX2_init 0 = .ok (.aload_n 0, 1) := by decide +kernel
theorem dX2_init_1 : decode cX2_init 1 = .ok (.invokespecial 3, 3) := by decide +kernel
theorem dX2_init_4 : decode cX2_init 4 = .ok (.aload_n 0, 1) := by decide +kernel
theorem dX2_init_5 : decode cX2_init 5 = .ok (.new 9, 3) := by decide +kernel
theorem dX2_init_8 : decode cX2_init 8 = .ok (.dup, 1) := by decide +kernel
theorem dX2_init_9 : decode cX2_init 9 = .ok (.invokespecial 11, 3) := by decide +kernel
theorem dX2_init_12 : decode cX2_init 12 = .ok (.putfield 12, 3) := by decide +kernel
theorem dX2_init_15 : decode cX2_init 15 = .ok (.aload_n 0, 1) := by decide +kernel
theorem dX2_init_16 : decode cX2_init 16 = .ok (.iconst 4, 1) := by decide +kernel
theorem dX2_init_17 : decode cX2_init 17 = .ok (.anewarray 18, 3) := by decide +kernel
theorem dX2_init_20 : decode cX2_init 20 = .ok (.putfield 20, 3) := by decide +kernel
theorem dX2_init_23 : decode cX2_init 23 = .ok (.aload_n 0, 1) := by decide +kernel
theorem dX2_init_24 : decode cX2_init 24 = .ok (.new 24, 3) := by decide +kernel
theorem dX2_init_27 : decode cX2_init 27 = .ok (.dup, 1) := by decide +kernel
theorem dX2_init_28 : decode cX2_init 28 = .ok (.invokespecial 26, 3) := by decide +kernel
theorem dX2_init_31 : decode cX2_init 31 = .ok (.putfield 27, 3) := by decide +kernel
theorem dX2_init_34 : decode cX2_init 34 = .ok (.aload_n 0, 1) := by decide +kernel
theorem dX2_init_35 : decode cX2_init 35 = .ok (.iconst 5, 1) := by decide +kernel
theorem dX2_init_36 : decode cX2_init 36 = .ok (.newarray .long, 2) := by decide +kernel
theorem dX2_init_38 : decode cX2_init 38 = .ok (.putfield 31, 3) := by decide +kernel
theorem dX2_init_41 : decode cX2_init 41 = .ok (.iconst 0, 1) := by decide +kernel
theorem dX2_init_42 : decode cX2_init 42 = .ok (.istore_n 1, 1) := by decide +kernel
theorem dX2_init_43 : decode cX2_init 43 = .ok (.iload_n 1, 1) := by decide +kernel
theorem dX2_init_44 : decode cX2_init 44 = .ok (.aload_n 0, 1) := by decide +kernel
theorem dX2_init_45 : decode cX2_init 45 = .ok (.getfield 20, 3) := by decide +kernel
theorem dX2_init_48 : decode cX2_init 48 = .ok (.arraylength, 1) := by decide +kernel
theorem dX2_init_49 : decode cX2_init 49 = .ok (.if_icmp .ge 22, 3) := by decide +kernel
theorem dX2_init_52 : decode cX2_init 52 = .ok (.aload_n 0, 1) := by decide +kernel
theorem dX2_init_53 : decode cX2_init 53 = .ok (.getfield 20, 3) := by decide +kernel
theorem dX2_init_56 : decode cX2_init 56 = .ok (.iload_n 1, 1) := by decide +kernel
theorem dX2_init_57 : decode cX2_init 57 = .ok (.new 18, 3) := by decide +kernel
theorem dX2_init_60 : decode cX2_init 60 = .ok (.dup, 1) := by decide +kernel
theorem dX2_init_61 : decode cX2_init 61 = .ok (.invokespecial 35, 3) := by decide +kernel
theorem dX2_init_64 : decode cX2_init 64 = .ok (.aastore, 1) := by decide +kernel
theorem dX2_init_65 : decode cX2_init 65 = .ok (.iinc 1 1, 3) := by decide +kernel
theorem dX2_init_68 : decode cX2_init 68 = .ok (.goto (-25), 3) := by decide +kernel
theorem dX2_init_71 : decode cX2_init 71 = .ok (.return_, 1) := by decide +kernel
theorem dX2_judged_0 : decode cX2_judged 0 = .ok (.iconst 0, 1) := by decide +kernel
theorem dX2_judged_1 : decode cX2_judged 1 = .ok (.istore 5, 2) := by decide +kernel
theorem dX2_judged_3 : decode cX2_judged 3 = .ok (.iload 5, 2) := by decide +kernel
theorem dX2_judged_5 : decode cX2_judged 5 = .ok (.aload_n 3, 1) := by decide +kernel
theorem dX2_judged_6 : decode cX2_judged 6 = .ok (.getfield 36, 3) := by decide +kernel
theorem dX2_judged_9 : decode cX2_judged 9 = .ok (.if_icmp .ge 47, 3) := by decide +kernel
theorem dX2_judged_12 : decode cX2_judged 12 = .ok (.aload_n 3, 1) := by decide +kernel
theorem dX2_judged_13 : decode cX2_judged 13 = .ok (.getfield 42, 3) := by decide +kernel
theorem dX2_judged_16 : decode cX2_judged 16 = .ok (.iload 5, 2) := by decide +kernel
theorem dX2_judged_18 : decode cX2_judged 18 = .ok (.iaload, 1) := by decide +kernel
theorem dX2_judged_19 : decode cX2_judged 19 = .ok (.ifCond .lt 23, 3) := by decide +kernel
theorem dX2_judged_22 : decode cX2_judged 22 = .ok (.aload_n 3, 1) := by decide +kernel
theorem dX2_judged_23 : decode cX2_judged 23 = .ok (.getfield 42, 3) := by decide +kernel
theorem dX2_judged_26 : decode cX2_judged 26 = .ok (.iload 5, 2) := by decide +kernel
theorem dX2_judged_28 : decode cX2_judged 28 = .ok (.iaload, 1) := by decide +kernel
theorem dX2_judged_29 : decode cX2_judged 29 = .ok (.bipush 60, 2) := by decide +kernel
theorem dX2_judged_31 : decode cX2_judged 31 = .ok (.aload_n 3, 1) := by decide +kernel
theorem dX2_judged_32 : decode cX2_judged 32 = .ok (.getfield 46, 3) := by decide +kernel
theorem dX2_judged_35 : decode cX2_judged 35 = .ok (.iload 5, 2) := by decide +kernel
theorem dX2_judged_37 : decode cX2_judged 37 = .ok (.iaload, 1) := by decide +kernel
theorem dX2_judged_38 : decode cX2_judged 38 = .ok (.isub, 1) := by decide +kernel
theorem dX2_judged_39 : decode cX2_judged 39 = .ok (.if_icmp .le 11, 3) := by decide +kernel
theorem dX2_judged_42 : decode cX2_judged 42 = .ok (.iconst 1, 1) := by decide +kernel
theorem dX2_judged_43 : decode cX2_judged 43 = .ok (.bipush 10, 2) := by decide +kernel
theorem dX2_judged_45 : decode cX2_judged 45 = .ok (.iload 5, 2) := by decide +kernel
theorem dX2_judged_47 : decode cX2_judged 47 = .ok (.imul, 1) := by decide +kernel
theorem dX2_judged_48 : decode cX2_judged 48 = .ok (.iadd, 1) := by decide +kernel
theorem dX2_judged_49 : decode cX2_judged 49 = .ok (.ireturn, 1) := by decide +kernel
theorem dX2_judged_50 : decode cX2_judged 50 = .ok (.iinc 5 1, 3) := by decide +kernel
theorem dX2_judged_53 : decode cX2_judged 53 = .ok (.goto (-50), 3) := by decide +kernel
theorem dX2_judged_56 : decode cX2_judged 56 = .ok (.iconst 0, 1) := by decide +kernel
theorem dX2_judged_57 : decode cX2_judged 57 = .ok (.istore 5, 2) := by decide +kernel
theorem dX2_judged_59 : decode cX2_judged 59 = .ok (.iload 5, 2) := by decide +kernel
theorem dX2_judged_61 : decode cX2_judged 61 = .ok (.aload_n 3, 1) := by decide +kernel
theorem dX2_judged_62 : decode cX2_judged 62 = .ok (.getfield 36, 3) := by decide +kernel
theorem dX2_judged_65 : decode cX2_judged 65 = .ok (.if_icmp .ge 37, 3) := by decide +kernel
theorem dX2_judged_68 : decode cX2_judged 68 = .ok (.aload_n 3, 1) := by decide +kernel
theorem dX2_judged_69 : decode cX2_judged 69 = .ok (.iload 5, 2) := by decide +kernel
theorem dX2_judged_71 : decode cX2_judged 71 = .ok (.invokevirtual 49, 3) := by decide +kernel
theorem dX2_judged_74 : decode cX2_judged 74 = .ok (.ifCond .ne 22, 3) := by decide +kernel
theorem dX2_judged_77 : decode cX2_judged 77 = .ok (.aload_n 0, 1) := by decide +kernel
theorem dX2_judged_78 : decode cX2_judged 78 = .ok (.aload_n 1, 1) := by decide +kernel
theorem dX2_judged_79 : decode cX2_judged 79 = .ok (.aload_n 3, 1) := by decide +kernel
theorem dX2_judged_80 : decode cX2_judged 80 = .ok (.iload 5, 2) := by decide +kernel
theorem dX2_judged_82 : decode cX2_judged 82 = .ok (.invokevirtual 53, 3) := by decide +kernel
theorem dX2_judged_85 : decode cX2_judged 85 = .ok (.ifCond .ne 11, 3) := by decide +kernel
theorem dX2_judged_88 : decode cX2_judged 88 = .ok (.iconst 2, 1) := by decide +kernel
theorem dX2_judged_89 : decode cX2_judged 89 = .ok (.bipush 10, 2) := by decide +kernel
theorem dX2_judged_91 : decode cX2_judged 91 = .ok (.iload 5, 2) := by decide +kernel
theorem dX2_judged_93 : decode cX2_judged 93 = .ok (.imul, 1) := by decide +kernel
theorem dX2_judged_94 : decode cX2_judged 94 = .ok (.iadd, 1) := by decide +kernel
theorem dX2_judged_95 : decode cX2_judged 95 = .ok (.ireturn, 1) := by decide +kernel
theorem dX2_judged_96 : decode cX2_judged 96 = .ok (.iinc 5 1, 3) := by decide +kernel
theorem dX2_judged_99 : decode cX2_judged 99 = .ok (.goto (-40), 3) := by decide +kernel
theorem dX2_judged_102 : decode cX2_judged 102 = .ok (.iconst 0, 1) := by decide +kernel
theorem dX2_judged_103 : decode cX2_judged 103 = .ok (.istore 5, 2) := by decide +kernel
theorem dX2_judged_105 : decode cX2_judged 105 = .ok (.iload 5, 2) := by decide +kernel
theorem dX2_judged_107 : decode cX2_judged 107 = .ok (.aload_n 3, 1) := by decide +kernel
theorem dX2_judged_108 : decode cX2_judged 108 = .ok (.getfield 36, 3) := by decide +kernel
theorem dX2_judged_111 : decode cX2_judged 111 = .ok (.if_icmp .ge 85, 3) := by decide +kernel
theorem dX2_judged_114 : decode cX2_judged 114 = .ok (.iload 4, 2) := by decide +kernel
theorem dX2_judged_116 : decode cX2_judged 116 = .ok (.aload_n 3, 1) := by decide +kernel
theorem dX2_judged_117 : decode cX2_judged 117 = .ok (.getfield 42, 3) := by decide +kernel
theorem dX2_judged_120 : decode cX2_judged 120 = .ok (.iload 5, 2) := by decide +kernel
theorem dX2_judged_122 : decode cX2_judged 122 = .ok (.iaload, 1) := by decide +kernel
theorem dX2_judged_123 : decode cX2_judged 123 = .ok (.isub, 1) := by decide +kernel
theorem dX2_judged_124 : decode cX2_judged 124 = .ok (.aload_n 3, 1) := by decide +kernel
theorem dX2_judged_125 : decode cX2_judged 125 = .ok (.getfield 46, 3) := by decide +kernel
theorem dX2_judged_128 : decode cX2_judged 128 = .ok (.iload 5, 2) := by decide +kernel
theorem dX2_judged_130 : decode cX2_judged 130 = .ok (.iaload, 1) := by decide +kernel
theorem dX2_judged_131 : decode cX2_judged 131 = .ok (.isub, 1) := by decide +kernel
theorem dX2_judged_132 : decode cX2_judged 132 = .ok (.istore 6, 2) := by decide +kernel
theorem dX2_judged_134 : decode cX2_judged 134 = .ok (.iload 6, 2) := by decide +kernel
theorem dX2_judged_136 : decode cX2_judged 136 = .ok (.ifCond .lt 29, 3) := by decide +kernel
theorem dX2_judged_139 : decode cX2_judged 139 = .ok (.iload 6, 2) := by decide +kernel
theorem dX2_judged_141 : decode cX2_judged 141 = .ok (.aload_n 1, 1) := by decide +kernel
theorem dX2_judged_142 : decode cX2_judged 142 = .ok (.getfield 57, 3) := by decide +kernel
theorem dX2_judged_145 : decode cX2_judged 145 = .ok (.aload_n 3, 1) := by decide +kernel
theorem dX2_judged_146 : decode cX2_judged 146 = .ok (.getfield 62, 3) := by decide +kernel
theorem dX2_judged_149 : decode cX2_judged 149 = .ok (.aload_n 3, 1) := by decide +kernel
theorem dX2_judged_150 : decode cX2_judged 150 = .ok (.getfield 65, 3) := by decide +kernel
theorem dX2_judged_153 : decode cX2_judged 153 = .ok (.iload 5, 2) := by decide +kernel
theorem dX2_judged_155 : decode cX2_judged 155 = .ok (.iaload, 1) := by decide +kernel
theorem dX2_judged_156 : decode cX2_judged 156 = .ok (.iaload, 1) := by decide +kernel
theorem dX2_judged_157 : decode cX2_judged 157 = .ok (.iaload, 1) := by decide +kernel
theorem dX2_judged_158 : decode cX2_judged 158 = .ok (.if_icmp .gt 7, 3) := by decide +kernel
theorem dX2_judged_161 : decode cX2_judged 161 = .ok (.iconst 1, 1) := by decide +kernel
theorem dX2_judged_162 : decode cX2_judged 162 = .ok (.goto 4, 3) := by decide +kernel
theorem dX2_judged_165 : decode cX2_judged 165 = .ok (.iconst 0, 1) := by decide +kernel
theorem dX2_judged_166 : decode cX2_judged 166 = .ok (.istore 7, 2) := by decide +kernel
theorem dX2_judged_168 : decode cX2_judged 168 = .ok (.aload_n 3, 1) := by decide +kernel
theorem dX2_judged_169 : decode cX2_judged 169 = .ok (.iload 5, 2) := by decide +kernel
theorem dX2_judged_171 : decode cX2_judged 171 = .ok (.invokevirtual 68, 3) := by decide +kernel
theorem dX2_judged_174 : decode cX2_judged 174 = .ok (.ifCond .eq 16, 3) := by decide +kernel
theorem dX2_judged_177 : decode cX2_judged 177 = .ok (.iload 7, 2) := by decide +kernel
theorem dX2_judged_179 : decode cX2_judged 179 = .ok (.ifCond .ne 11, 3) := by decide +kernel
theorem dX2_judged_182 : decode cX2_judged 182 = .ok (.iconst 3, 1) := by decide +kernel
theorem dX2_judged_183 : decode cX2_judged 183 = .ok (.bipush 10, 2) := by decide +kernel
theorem dX2_judged_185 : decode cX2_judged 185 = .ok (.iload 5, 2) := by decide +kernel
theorem dX2_judged_187 : decode cX2_judged 187 = .ok (.imul, 1) := by decide +kernel
theorem dX2_judged_188 : decode cX2_judged 188 = .ok (.iadd, 1) := by decide +kernel
theorem dX2_judged_189 : decode cX2_judged 189 = .ok (.ireturn, 1) := by decide +kernel
theorem dX2_judged_190 : decode cX2_judged 190 = .ok (.iinc 5 1, 3) := by decide +kernel
theorem dX2_judged_193 : decode cX2_judged 193 = .ok (.goto (-88), 3) := by decide +kernel
theorem dX2_judged_196 : decode cX2_judged 196 = .ok (.aload_n 0, 1) := by decide +kernel
theorem dX2_judged_197 : decode cX2_judged 197 = .ok (.aload_n 1, 1) := by decide +kernel
theorem dX2_judged_198 : decode cX2_judged 198 = .ok (.aload_n 2, 1) := by decide +kernel
theorem dX2_judged_199 : decode cX2_judged 199 = .ok (.aload_n 3, 1) := by decide +kernel
theorem dX2_judged_200 : decode cX2_judged 200 = .ok (.invokevirtual 71, 3) := by decide +kernel
theorem dX2_judged_203 : decode cX2_judged 203 = .ok (.ireturn, 1) := by decide +kernel
theorem dX2_followsInTime_0 : decode cX2_followsInTime 0 = .ok (.aload_n 2, 1) := by decide +kernel
theorem dX2_followsInTime_1 : decode cX2_followsInTime 1 = .ok (.getfield 42, 3) := by decide +kernel
theorem dX2_followsInTime_4 : decode cX2_followsInTime 4 = .ok (.iload_n 3, 1) := by decide +kernel
theorem dX2_followsInTime_5 : decode cX2_followsInTime 5 = .ok (.iaload, 1) := by decide +kernel
theorem dX2_followsInTime_6 : decode cX2_followsInTime 6 = .ok (.aload_n 2, 1) := by decide +kernel
theorem dX2_followsInTime_7 : decode cX2_followsInTime 7 = .ok (.getfield 42, 3) := by decide +kernel
theorem dX2_followsInTime_10 : decode cX2_followsInTime 10 = .ok (.iload_n 3, 1) := by decide +kernel
theorem dX2_followsInTime_11 : decode cX2_followsInTime 11 = .ok (.iconst 1, 1) := by decide +kernel
theorem dX2_followsInTime_12 : decode cX2_followsInTime 12 = .ok (.isub, 1) := by decide +kernel
theorem dX2_followsInTime_13 : decode cX2_followsInTime 13 = .ok (.iaload, 1) := by decide +kernel
theorem dX2_followsInTime_14 : decode cX2_followsInTime 14 = .ok (.isub, 1) := by decide +kernel
theorem dX2_followsInTime_15 : decode cX2_followsInTime 15 = .ok (.aload_n 2, 1) := by decide +kernel
theorem dX2_followsInTime_16 : decode cX2_followsInTime 16 = .ok (.getfield 46, 3) := by decide +kernel
theorem dX2_followsInTime_19 : decode cX2_followsInTime 19 = .ok (.iload_n 3, 1) := by decide +kernel
theorem dX2_followsInTime_20 : decode cX2_followsInTime 20 = .ok (.iconst 1, 1) := by decide +kernel
theorem dX2_followsInTime_21 : decode cX2_followsInTime 21 = .ok (.isub, 1) := by decide +kernel
theorem dX2_followsInTime_22 : decode cX2_followsInTime 22 = .ok (.iaload, 1) := by decide +kernel
theorem dX2_followsInTime_23 : decode cX2_followsInTime 23 = .ok (.isub, 1) := by decide +kernel
theorem dX2_followsInTime_24 : decode cX2_followsInTime 24 = .ok (.istore 4, 2) := by decide +kernel
theorem dX2_followsInTime_26 : decode cX2_followsInTime 26 = .ok (.iload 4, 2) := by decide +kernel
theorem dX2_followsInTime_28 : decode cX2_followsInTime 28 = .ok (.ifCond .lt 25, 3) := by decide +kernel
theorem dX2_followsInTime_31 : decode cX2_followsInTime 31 = .ok (.iload 4, 2) := by decide +kernel
theorem dX2_followsInTime_33 : decode cX2_followsInTime 33 = .ok (.aload_n 1, 1) := by decide +kernel
theorem dX2_followsInTime_34 : decode cX2_followsInTime 34 = .ok (.getfield 75, 3) := by decide +kernel
theorem dX2_followsInTime_37 : decode cX2_followsInTime 37 = .ok (.aload_n 2, 1) := by decide +kernel
theorem dX2_followsInTime_38 : decode cX2_followsInTime 38 = .ok (.getfield 78, 3) := by decide +kernel
theorem dX2_followsInTime_41 : decode cX2_followsInTime 41 = .ok (.iload_n 3, 1) := by decide +kernel
theorem dX2_followsInTime_42 : decode cX2_followsInTime 42 = .ok (.iconst 1, 1) := by decide +kernel
theorem dX2_followsInTime_43 : decode cX2_followsInTime 43 = .ok (.isub, 1) := by decide +kernel
theorem dX2_followsInTime_44 : decode cX2_followsInTime 44 = .ok (.iaload, 1) := by decide +kernel
theorem dX2_followsInTime_45 : decode cX2_followsInTime 45 = .ok (.iaload, 1) := by decide +kernel
theorem dX2_followsInTime_46 : decode cX2_followsInTime 46 = .ok (.if_icmp .gt 7, 3) := by decide +kernel
theorem dX2_followsInTime_49 : decode cX2_followsInTime 49 = .ok (.iconst 1, 1) := by decide +kernel
theorem dX2_followsInTime_50 : decode cX2_followsInTime 50 = .ok (.goto 4, 3) := by decide +kernel
theorem dX2_followsInTime_53 : decode cX2_followsInTime 53 = .ok (.iconst 0, 1) := by decide +kernel
theorem dX2_followsInTime_54 : decode cX2_followsInTime 54 = .ok (.ireturn, 1) := by decide +kernel
theorem dX2_firstLack_0 : decode cX2_firstLack 0 = .ok (.aload_n 0, 1) := by decide +kernel
theorem dX2_firstLack_1 : decode cX2_firstLack 1 = .ok (.aload_n 1, 1) := by decide +kernel
theorem dX2_firstLack_2 : decode cX2_firstLack 2 = .ok (.aload_n 2, 1) := by decide +kernel
theorem dX2_firstLack_3 : decode cX2_firstLack 3 = .ok (.aload_n 3, 1) := by decide +kernel
theorem dX2_firstLack_4 : decode cX2_firstLack 4 = .ok (.invokevirtual 81, 3) := by decide +kernel
theorem dX2_firstLack_7 : decode cX2_firstLack 7 = .ok (.aload_n 0, 1) := by decide +kernel
theorem dX2_firstLack_8 : decode cX2_firstLack 8 = .ok (.getfield 12, 3) := by decide +kernel
theorem dX2_firstLack_11 : decode cX2_firstLack 11 = .ok (.aload_n 1, 1) := by decide +kernel
theorem dX2_firstLack_12 : decode cX2_firstLack 12 = .ok (.aload_n 3, 1) := by decide +kernel
theorem dX2_firstLack_13 : decode cX2_firstLack 13 = .ok (.invokevirtual 85, 3) := by decide +kernel
theorem dX2_firstLack_16 : decode cX2_firstLack 16 = .ok (.aload_n 0, 1) := by decide +kernel
theorem dX2_firstLack_17 : decode cX2_firstLack 17 = .ok (.getfield 12, 3) := by decide +kernel
theorem dX2_firstLack_20 : decode cX2_firstLack 20 = .ok (.aload_n 1, 1) := by decide +kernel
theorem dX2_firstLack_21 : decode cX2_firstLack 21 = .ok (.getfield 89, 3) := by decide +kernel
theorem dX2_firstLack_24 : decode cX2_firstLack 24 = .ok (.iconst 3, 1) := by decide +kernel
theorem dX2_firstLack_25 : decode cX2_firstLack 25 = .ok (.iaload, 1) := by decide +kernel
theorem dX2_firstLack_26 : decode cX2_firstLack 26 = .ok (.aload_n 1, 1) := by decide +kernel
theorem dX2_firstLack_27 : decode cX2_firstLack 27 = .ok (.getfield 89, 3) := by decide +kernel
theorem dX2_firstLack_30 : decode cX2_firstLack 30 = .ok (.iconst 4, 1) := by decide +kernel
theorem dX2_firstLack_31 : decode cX2_firstLack 31 = .ok (.iaload, 1) := by decide +kernel
theorem dX2_firstLack_32 : decode cX2_firstLack 32 = .ok (.invokevirtual 92, 3) := by decide +kernel
theorem dX2_firstLack_35 : decode cX2_firstLack 35 = .ok (.istore 4, 2) := by decide +kernel
theorem dX2_firstLack_37 : decode cX2_firstLack 37 = .ok (.iconst 0, 1) := by decide +kernel
theorem dX2_firstLack_38 : decode cX2_firstLack 38 = .ok (.istore 5, 2) := by decide +kernel
theorem dX2_firstLack_40 : decode cX2_firstLack 40 = .ok (.iload 5, 2) := by decide +kernel
theorem dX2_firstLack_42 : decode cX2_firstLack 42 = .ok (.bipush 60, 2) := by decide +kernel
theorem dX2_firstLack_44 : decode cX2_firstLack 44 = .ok (.if_icmp .ge 49, 3) := by decide +kernel
