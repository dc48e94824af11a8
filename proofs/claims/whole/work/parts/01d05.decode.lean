theorem dX9_open_22 : decode cX9_open 22 = .ok (.getfield 18, 3) := by decide +kernel
theorem dX9_open_25 : decode cX9_open 25 = .ok (.iload_n 2, 1) := by decide +kernel
theorem dX9_open_26 : decode cX9_open 26 = .ok (.lconst 0, 1) := by decide +kernel
theorem dX9_open_27 : decode cX9_open 27 = .ok (.lastore, 1) := by decide +kernel
theorem dX9_open_28 : decode cX9_open 28 = .ok (.aload_n 0, 1) := by decide +kernel
theorem dX9_open_29 : decode cX9_open 29 = .ok (.getfield 21, 3) := by decide +kernel
theorem dX9_open_32 : decode cX9_open 32 = .ok (.iload_n 2, 1) := by decide +kernel
theorem dX9_open_33 : decode cX9_open 33 = .ok (.aload_n 1, 1) := by decide +kernel
theorem dX9_open_34 : decode cX9_open 34 = .ok (.iload_n 2, 1) := by decide +kernel
theorem dX9_open_35 : decode cX9_open 35 = .ok (.iconst 1, 1) := by decide +kernel
theorem dX9_open_36 : decode cX9_open 36 = .ok (.invokevirtual 24, 3) := by decide +kernel
theorem dX9_open_39 : decode cX9_open 39 = .ok (.lastore, 1) := by decide +kernel
theorem dX9_open_40 : decode cX9_open 40 = .ok (.iinc 2 1, 3) := by decide +kernel
theorem dX9_open_43 : decode cX9_open 43 = .ok (.goto (-41), 3) := by decide +kernel
theorem dX9_open_46 : decode cX9_open 46 = .ok (.return_, 1) := by decide +kernel
theorem dX9_hasRoom_0 : decode cX9_hasRoom 0 = .ok (.aload_n 0, 1) := by decide +kernel
theorem dX9_hasRoom_1 : decode cX9_hasRoom 1 = .ok (.getfield 21, 3) := by decide +kernel
theorem dX9_hasRoom_4 : decode cX9_hasRoom 4 = .ok (.iconst 0, 1) := by decide +kernel
theorem dX9_hasRoom_5 : decode cX9_hasRoom 5 = .ok (.laload, 1) := by decide +kernel
theorem dX9_hasRoom_6 : decode cX9_hasRoom 6 = .ok (.aload_n 1, 1) := by decide +kernel
theorem dX9_hasRoom_7 : decode cX9_hasRoom 7 = .ok (.iconst 0, 1) := by decide +kernel
theorem dX9_hasRoom_8 : decode cX9_hasRoom 8 = .ok (.laload, 1) := by decide +kernel
theorem dX9_hasRoom_9 : decode cX9_hasRoom 9 = .ok (.land, 1) := by decide +kernel
theorem dX9_hasRoom_10 : decode cX9_hasRoom 10 = .ok (.lconst 0, 1) := by decide +kernel
theorem dX9_hasRoom_11 : decode cX9_hasRoom 11 = .ok (.lcmp, 1) := by decide +kernel
theorem dX9_hasRoom_12 : decode cX9_hasRoom 12 = .ok (.ifCond .ne 67, 3) := by decide +kernel
theorem dX9_hasRoom_15 : decode cX9_hasRoom 15 = .ok (.aload_n 0, 1) := by decide +kernel
theorem dX9_hasRoom_16 : decode cX9_hasRoom 16 = .ok (.getfield 21, 3) := by decide +kernel
theorem dX9_hasRoom_19 : decode cX9_hasRoom 19 = .ok (.iconst 1, 1) := by decide +kernel
theorem dX9_hasRoom_20 : decode cX9_hasRoom 20 = .ok (.laload, 1) := by decide +kernel
theorem dX9_hasRoom_21 : decode cX9_hasRoom 21 = .ok (.aload_n 1, 1) := by decide +kernel
theorem dX9_hasRoom_22 : decode cX9_hasRoom 22 = .ok (.iconst 1, 1) := by decide +kernel
theorem dX9_hasRoom_23 : decode cX9_hasRoom 23 = .ok (.laload, 1) := by decide +kernel
theorem dX9_hasRoom_24 : decode cX9_hasRoom 24 = .ok (.land, 1) := by decide +kernel
theorem dX9_hasRoom_25 : decode cX9_hasRoom 25 = .ok (.lconst 0, 1) := by decide +kernel
theorem dX9_hasRoom_26 : decode cX9_hasRoom 26 = .ok (.lcmp, 1) := by decide +kernel
theorem dX9_hasRoom_27 : decode cX9_hasRoom 27 = .ok (.ifCond .ne 52, 3) := by decide +kernel
theorem dX9_hasRoom_30 : decode cX9_hasRoom 30 = .ok (.aload_n 0, 1) := by decide +kernel
theorem dX9_hasRoom_31 : decode cX9_hasRoom 31 = .ok (.getfield 21, 3) := by decide +kernel
theorem dX9_hasRoom_34 : decode cX9_hasRoom 34 = .ok (.iconst 2, 1) := by decide +kernel
theorem dX9_hasRoom_35 : decode cX9_hasRoom 35 = .ok (.laload, 1) := by decide +kernel
theorem dX9_hasRoom_36 : decode cX9_hasRoom 36 = .ok (.aload_n 1, 1) := by decide +kernel
theorem dX9_hasRoom_37 : decode cX9_hasRoom 37 = .ok (.iconst 2, 1) := by decide +kernel
theorem dX9_hasRoom_38 : decode cX9_hasRoom 38 = .ok (.laload, 1) := by decide +kernel
theorem dX9_hasRoom_39 : decode cX9_hasRoom 39 = .ok (.land, 1) := by decide +kernel
theorem dX9_hasRoom_40 : decode cX9_hasRoom 40 = .ok (.lconst 0, 1) := by decide +kernel
theorem dX9_hasRoom_41 : decode cX9_hasRoom 41 = .ok (.lcmp, 1) := by decide +kernel
theorem dX9_hasRoom_42 : decode cX9_hasRoom 42 = .ok (.ifCond .ne 37, 3) := by decide +kernel
theorem dX9_hasRoom_45 : decode cX9_hasRoom 45 = .ok (.aload_n 0, 1) := by decide +kernel
theorem dX9_hasRoom_46 : decode cX9_hasRoom 46 = .ok (.getfield 21, 3) := by decide +kernel
theorem dX9_hasRoom_49 : decode cX9_hasRoom 49 = .ok (.iconst 3, 1) := by decide +kernel
theorem dX9_hasRoom_50 : decode cX9_hasRoom 50 = .ok (.laload, 1) := by decide +kernel
theorem dX9_hasRoom_51 : decode cX9_hasRoom 51 = .ok (.aload_n 1, 1) := by decide +kernel
theorem dX9_hasRoom_52 : decode cX9_hasRoom 52 = .ok (.iconst 3, 1) := by decide +kernel
theorem dX9_hasRoom_53 : decode cX9_hasRoom 53 = .ok (.laload, 1) := by decide +kernel
theorem dX9_hasRoom_54 : decode cX9_hasRoom 54 = .ok (.land, 1) := by decide +kernel
theorem dX9_hasRoom_55 : decode cX9_hasRoom 55 = .ok (.lconst 0, 1) := by decide +kernel
theorem dX9_hasRoom_56 : decode cX9_hasRoom 56 = .ok (.lcmp, 1) := by decide +kernel
theorem dX9_hasRoom_57 : decode cX9_hasRoom 57 = .ok (.ifCond .ne 22, 3) := by decide +kernel
theorem dX9_hasRoom_60 : decode cX9_hasRoom 60 = .ok (.aload_n 0, 1) := by decide +kernel
theorem dX9_hasRoom_61 : decode cX9_hasRoom 61 = .ok (.getfield 21, 3) := by decide +kernel
theorem dX9_hasRoom_64 : decode cX9_hasRoom 64 = .ok (.iconst 4, 1) := by decide +kernel
theorem dX9_hasRoom_65 : decode cX9_hasRoom 65 = .ok (.laload, 1) := by decide +kernel
theorem dX9_hasRoom_66 : decode cX9_hasRoom 66 = .ok (.aload_n 1, 1) := by decide +kernel
theorem dX9_hasRoom_67 : decode cX9_hasRoom 67 = .ok (.iconst 4, 1) := by decide +kernel
theorem dX9_hasRoom_68 : decode cX9_hasRoom 68 = .ok (.laload, 1) := by decide +kernel
theorem dX9_hasRoom_69 : decode cX9_hasRoom 69 = .ok (.land, 1) := by decide +kernel
theorem dX9_hasRoom_70 : decode cX9_hasRoom 70 = .ok (.lconst 0, 1) := by decide +kernel
theorem dX9_hasRoom_71 : decode cX9_hasRoom 71 = .ok (.lcmp, 1) := by decide +kernel
theorem dX9_hasRoom_72 : decode cX9_hasRoom 72 = .ok (.ifCond .ne 7, 3) := by decide +kernel
theorem dX9_hasRoom_75 : decode cX9_hasRoom 75 = .ok (.iconst 1, 1) := by decide +kernel
theorem dX9_hasRoom_76 : decode cX9_hasRoom 76 = .ok (.goto 4, 3) := by decide +kernel
theorem dX9_hasRoom_79 : decode cX9_hasRoom 79 = .ok (.iconst 0, 1) := by decide +kernel
theorem dX9_hasRoom_80 : decode cX9_hasRoom 80 = .ok (.ireturn, 1) := by decide +kernel
theorem dX9_add_0 : decode cX9_add 0 = .ok (.iconst 0, 1) := by decide +kernel
theorem dX9_add_1 : decode cX9_add 1 = .ok (.istore 4, 2) := by decide +kernel
theorem dX9_add_3 : decode cX9_add 3 = .ok (.iload 4, 2) := by decide +kernel
theorem dX9_add_5 : decode cX9_add 5 = .ok (.iconst 5, 1) := by decide +kernel
theorem dX9_add_6 : decode cX9_add 6 = .ok (.if_icmp .ge 144, 3) := by decide +kernel
theorem dX9_add_9 : decode cX9_add 9 = .ok (.aload_n 2, 1) := by decide +kernel
theorem dX9_add_10 : decode cX9_add 10 = .ok (.iload 4, 2) := by decide +kernel
theorem dX9_add_12 : decode cX9_add 12 = .ok (.laload, 1) := by decide +kernel
theorem dX9_add_13 : decode cX9_add 13 = .ok (.lstore 5, 2) := by decide +kernel
theorem dX9_add_15 : decode cX9_add 15 = .ok (.aload_n 0, 1) := by decide +kernel
theorem dX9_add_16 : decode cX9_add 16 = .ok (.getfield 18, 3) := by decide +kernel
theorem dX9_add_19 : decode cX9_add 19 = .ok (.iload 4, 2) := by decide +kernel
theorem dX9_add_21 : decode cX9_add 21 = .ok (.aload_n 1, 1) := by decide +kernel
theorem dX9_add_22 : decode cX9_add 22 = .ok (.getfield 18, 3) := by decide +kernel
theorem dX9_add_25 : decode cX9_add 25 = .ok (.iload 4, 2) := by decide +kernel
theorem dX9_add_27 : decode cX9_add 27 = .ok (.laload, 1) := by decide +kernel
theorem dX9_add_28 : decode cX9_add 28 = .ok (.aload_n 1, 1) := by decide +kernel
theorem dX9_add_29 : decode cX9_add 29 = .ok (.getfield 15, 3) := by decide +kernel
theorem dX9_add_32 : decode cX9_add 32 = .ok (.iload 4, 2) := by decide +kernel
theorem dX9_add_34 : decode cX9_add 34 = .ok (.laload, 1) := by decide +kernel
theorem dX9_add_35 : decode cX9_add 35 = .ok (.lload 5, 2) := by decide +kernel
theorem dX9_add_37 : decode cX9_add 37 = .ok (.land, 1) := by decide +kernel
theorem dX9_add_38 : decode cX9_add 38 = .ok (.lor, 1) := by decide +kernel
theorem dX9_add_39 : decode cX9_add 39 = .ok (.lastore, 1) := by decide +kernel
theorem dX9_add_40 : decode cX9_add 40 = .ok (.aload_n 0, 1) := by decide +kernel
theorem dX9_add_41 : decode cX9_add 41 = .ok (.getfield 15, 3) := by decide +kernel
theorem dX9_add_44 : decode cX9_add 44 = .ok (.iload 4, 2) := by decide +kernel
theorem dX9_add_46 : decode cX9_add 46 = .ok (.aload_n 1, 1) := by decide +kernel
theorem dX9_add_47 : decode cX9_add 47 = .ok (.getfield 15, 3) := by decide +kernel
theorem dX9_add_50 : decode cX9_add 50 = .ok (.iload 4, 2) := by decide +kernel
theorem dX9_add_52 : decode cX9_add 52 = .ok (.laload, 1) := by decide +kernel
theorem dX9_add_53 : decode cX9_add 53 = .ok (.aload_n 1, 1) := by decide +kernel
theorem dX9_add_54 : decode cX9_add 54 = .ok (.getfield 9, 3) := by decide +kernel
theorem dX9_add_57 : decode cX9_add 57 = .ok (.iload 4, 2) := by decide +kernel
theorem dX9_add_59 : decode cX9_add 59 = .ok (.laload, 1) := by decide +kernel
theorem dX9_add_60 : decode cX9_add 60 = .ok (.lload 5, 2) := by decide +kernel
theorem dX9_add_62 : decode cX9_add 62 = .ok (.land, 1) := by decide +kernel
theorem dX9_add_63 : decode cX9_add 63 = .ok (.lor, 1) := by decide +kernel
theorem dX9_add_64 : decode cX9_add 64 = .ok (.lastore, 1) := by decide +kernel
theorem dX9_add_65 : decode cX9_add 65 = .ok (.aload_n 0, 1) := by decide +kernel
theorem dX9_add_66 : decode cX9_add 66 = .ok (.getfield 9, 3) := by decide +kernel
theorem dX9_add_69 : decode cX9_add 69 = .ok (.iload 4, 2) := by decide +kernel
theorem dX9_add_71 : decode cX9_add 71 = .ok (.aload_n 1, 1) := by decide +kernel
theorem dX9_add_72 : decode cX9_add 72 = .ok (.getfield 9, 3) := by decide +kernel
theorem dX9_add_75 : decode cX9_add 75 = .ok (.iload 4, 2) := by decide +kernel
theorem dX9_add_77 : decode cX9_add 77 = .ok (.laload, 1) := by decide +kernel
theorem dX9_add_78 : decode cX9_add 78 = .ok (.lload 5, 2) := by decide +kernel
theorem dX9_add_80 : decode cX9_add 80 = .ok (.lor, 1) := by decide +kernel
theorem dX9_add_81 : decode cX9_add 81 = .ok (.lastore, 1) := by decide +kernel
theorem dX9_add_82 : decode cX9_add 82 = .ok (.aload_n 0, 1) := by decide +kernel
theorem dX9_add_83 : decode cX9_add 83 = .ok (.getfield 21, 3) := by decide +kernel
theorem dX9_add_86 : decode cX9_add 86 = .ok (.iload 4, 2) := by decide +kernel
theorem dX9_add_88 : decode cX9_add 88 = .ok (.aload_n 3, 1) := by decide +kernel
theorem dX9_add_89 : decode cX9_add 89 = .ok (.iload 4, 2) := by decide +kernel
theorem dX9_add_91 : decode cX9_add 91 = .ok (.iconst 1, 1) := by decide +kernel
theorem dX9_add_92 : decode cX9_add 92 = .ok (.invokevirtual 24, 3) := by decide +kernel
theorem dX9_add_95 : decode cX9_add 95 = .ok (.aload_n 3, 1) := by decide +kernel
theorem dX9_add_96 : decode cX9_add 96 = .ok (.iload 4, 2) := by decide +kernel
theorem dX9_add_98 : decode cX9_add 98 = .ok (.iconst 2, 1) := by decide +kernel
theorem dX9_add_99 : decode cX9_add 99 = .ok (.invokevirtual 24, 3) := by decide +kernel
theorem dX9_add_102 : decode cX9_add 102 = .ok (.aload_n 0, 1) := by decide +kernel
theorem dX9_add_103 : decode cX9_add 103 = .ok (.getfield 9, 3) := by decide +kernel
theorem dX9_add_106 : decode cX9_add 106 = .ok (.iload 4, 2) := by decide +kernel
theorem dX9_add_108 : decode cX9_add 108 = .ok (.laload, 1) := by decide +kernel
theorem dX9_add_109 : decode cX9_add 109 = .ok (.land, 1) := by decide +kernel
theorem dX9_add_110 : decode cX9_add 110 = .ok (.lor, 1) := by decide +kernel
theorem dX9_add_111 : decode cX9_add 111 = .ok (.aload_n 3, 1) := by decide +kernel
theorem dX9_add_112 : decode cX9_add 112 = .ok (.iload 4, 2) := by decide +kernel
theorem dX9_add_114 : decode cX9_add 114 = .ok (.iconst 3, 1) := by decide +kernel
theorem dX9_add_115 : decode cX9_add 115 = .ok (.invokevirtual 24, 3) := by decide +kernel
theorem dX9_add_118 : decode cX9_add 118 = .ok (.aload_n 0, 1) := by decide +kernel
theorem dX9_add_119 : decode cX9_add 119 = .ok (.getfield 15, 3) := by decide +kernel
theorem dX9_add_122 : decode cX9_add 122 = .ok (.iload 4, 2) := by decide +kernel
theorem dX9_add_124 : decode cX9_add 124 = .ok (.laload, 1) := by decide +kernel
theorem dX9_add_125 : decode cX9_add 125 = .ok (.land, 1) := by decide +kernel
theorem dX9_add_126 : decode cX9_add 126 = .ok (.lor, 1) := by decide +kernel
theorem dX9_add_127 : decode cX9_add 127 = .ok (.aload_n 3, 1) := by decide +kernel
theorem dX9_add_128 : decode cX9_add 128 = .ok (.iload 4, 2) := by decide +kernel
theorem dX9_add_130 : decode cX9_add 130 = .ok (.iconst 4, 1) := by decide +kernel
theorem dX9_add_131 : decode cX9_add 131 = .ok (.invokevirtual 24, 3) := by decide +kernel
theorem dX9_add_134 : decode cX9_add 134 = .ok (.aload_n 0, 1) := by decide +kernel
theorem dX9_add_135 : decode cX9_add 135 = .ok (.getfield 18, 3) := by decide +kernel
theorem dX9_add_138 : decode cX9_add 138 = .ok (.iload 4, 2) := by decide +kernel
theorem dX9_add_140 : decode cX9_add 140 = .ok (.laload, 1) := by decide +kernel
theorem dX9_add_141 : decode cX9_add 141 = .ok (.land, 1) := by decide +kernel
theorem dX9_add_142 : decode cX9_add 142 = .ok (.lor, 1) := by decide +kernel
theorem dX9_add_143 : decode cX9_add 143 = .ok (.lastore, 1) := by decide +kernel
theorem dX9_add_144 : decode cX9_add 144 = .ok (.iinc 4 1, 3) := by decide +kernel
theorem dX9_add_147 : decode cX9_add 147 = .ok (.goto (-144), 3) := by decide +kernel
theorem dX9_add_150 : decode cX9_add 150 = .ok (.return_, 1) := by decide +kernel
theorem dX10_init_0 : decode cX10_init 0 = .ok (.aload_n 0, 1) := by decide +kernel
theorem dX10_init_1 : decode cX10_init 1 = .ok (.invokespecial 3, 3) := by decide +kernel
theorem dX10_init_4 : decode cX10_init 4 = .ok (.aload_n 0, 1) := by decide +kernel
theorem dX10_init_5 : decode cX10_init 5 = .ok (.iconst 3, 1) := by decide +kernel
theorem dX10_init_6 : decode cX10_init 6 = .ok (.newarray .int, 2) := by decide +kernel
theorem dX10_init_8 : decode cX10_init 8 = .ok (.putfield 9, 3) := by decide +kernel
theorem dX10_init_11 : decode cX10_init 11 = .ok (.aload_n 0, 1) := by decide +kernel
theorem dX10_init_12 : decode cX10_init 12 = .ok (.iconst 3, 1) := by decide +kernel
theorem dX10_init_13 : decode cX10_init 13 = .ok (.newarray .int, 2) := by decide +kernel
theorem dX10_init_15 : decode cX10_init 15 = .ok (.putfield 15, 3) := by decide +kernel
theorem dX10_init_18 : decode cX10_init 18 = .ok (.aload_n 0, 1) := by decide +kernel
theorem dX10_init_19 : decode cX10_init 19 = .ok (.iconst 5, 1) := by decide +kernel
theorem dX10_init_20 : decode cX10_init 20 = .ok (.newarray .long, 2) := by decide +kernel
theorem dX10_init_22 : decode cX10_init 22 = .ok (.putfield 18, 3) := by decide +kernel
theorem dX10_init_25 : decode cX10_init 25 = .ok (.return_, 1) := by decide +kernel
theorem dX10_choose_0 : decode cX10_choose 0 = .ok (.aload_n 0, 1) := by decide +kernel
theorem dX10_choose_1 : decode cX10_choose 1 = .ok (.iload_n 2, 1) := by decide +kernel
theorem dX10_choose_2 : decode cX10_choose 2 = .ok (.putfield 22, 3) := by decide +kernel
theorem dX10_choose_5 : decode cX10_choose 5 = .ok (.aload_n 1, 1) := by decide +kernel
theorem dX10_choose_6 : decode cX10_choose 6 = .ok (.getfield 26, 3) := by decide +kernel
theorem dX10_choose_9 : decode cX10_choose 9 = .ok (.aload_n 0, 1) := by decide +kernel
theorem dX10_choose_10 : decode cX10_choose 10 = .ok (.getfield 22, 3) := by decide +kernel
theorem dX10_choose_13 : decode cX10_choose 13 = .ok (.iaload, 1) := by decide +kernel
theorem dX10_choose_14 : decode cX10_choose 14 = .ok (.istore 6, 2) := by decide +kernel
theorem dX10_choose_16 : decode cX10_choose 16 = .ok (.iload_n 3, 1) := by decide +kernel
theorem dX10_choose_17 : decode cX10_choose 17 = .ok (.istore 7, 2) := by decide +kernel
theorem dX10_choose_19 : decode cX10_choose 19 = .ok (.aload_n 0, 1) := by decide +kernel
theorem dX10_choose_20 : decode cX10_choose 20 = .ok (.iload 4, 2) := by decide +kernel
theorem dX10_choose_22 : decode cX10_choose 22 = .ok (.iload 5, 2) := by decide +kernel
theorem dX10_choose_24 : decode cX10_choose 24 = .ok (.iadd, 1) := by decide +kernel
theorem dX10_choose_25 : decode cX10_choose 25 = .ok (.putfield 31, 3) := by decide +kernel
theorem dX10_choose_28 : decode cX10_choose 28 = .ok (.aload_n 1, 1) := by decide +kernel
theorem dX10_choose_29 : decode cX10_choose 29 = .ok (.getfield 34, 3) := by decide +kernel
theorem dX10_choose_32 : decode cX10_choose 32 = .ok (.aload_n 0, 1) := by decide +kernel
theorem dX10_choose_33 : decode cX10_choose 33 = .ok (.getfield 22, 3) := by decide +kernel
theorem dX10_choose_36 : decode cX10_choose 36 = .ok (.iaload, 1) := by decide +kernel
theorem dX10_choose_37 : decode cX10_choose 37 = .ok (.iconst 1, 1) := by decide +kernel
theorem dX10_choose_38 : decode cX10_choose 38 = .ok (.isub, 1) := by decide +kernel
theorem dX10_choose_39 : decode cX10_choose 39 = .ok (.istore 8, 2) := by decide +kernel
theorem dX10_choose_41 : decode cX10_choose 41 = .ok (.iload 8, 2) := by decide +kernel
theorem dX10_choose_43 : decode cX10_choose 43 = .ok (.ifCond .lt 111, 3) := by decide +kernel
theorem dX10_choose_46 : decode cX10_choose 46 = .ok (.aload_n 0, 1) := by decide +kernel
theorem dX10_choose_47 : decode cX10_choose 47 = .ok (.getfield 15, 3) := by decide +kernel
theorem dX10_choose_50 : decode cX10_choose 50 = .ok (.iload 8, 2) := by decide +kernel
theorem dX10_choose_52 : decode cX10_choose 52 = .ok (.aload_n 1, 1) := by decide +kernel
theorem dX10_choose_53 : decode cX10_choose 53 = .ok (.getfield 37, 3) := by decide +kernel
theorem dX10_choose_56 : decode cX10_choose 56 = .ok (.iload 6, 2) := by decide +kernel
theorem dX10_choose_58 : decode cX10_choose 58 = .ok (.iload 8, 2) := by decide +kernel
theorem dX10_choose_60 : decode cX10_choose 60 = .ok (.iadd, 1) := by decide +kernel
theorem dX10_choose_61 : decode cX10_choose 61 = .ok (.iaload, 1) := by decide +kernel
theorem dX10_choose_62 : decode cX10_choose 62 = .ok (.iastore, 1) := by decide +kernel
theorem dX10_choose_63 : decode cX10_choose 63 = .ok (.iload 7, 2) := by decide +kernel
theorem dX10_choose_65 : decode cX10_choose 65 = .ok (.aload_n 0, 1) := by decide +kernel
theorem dX10_choose_66 : decode cX10_choose 66 = .ok (.getfield 15, 3) := by decide +kernel
theorem dX10_choose_69 : decode cX10_choose 69 = .ok (.iload 8, 2) := by decide +kernel
theorem dX10_choose_71 : decode cX10_choose 71 = .ok (.iaload, 1) := by decide +kernel
theorem dX10_choose_72 : decode cX10_choose 72 = .ok (.iload 8, 2) := by decide +kernel
theorem dX10_choose_74 : decode cX10_choose 74 = .ok (.ifCond .ne 8, 3) := by decide +kernel
theorem dX10_choose_77 : decode cX10_choose 77 = .ok (.iload 4, 2) := by decide +kernel
theorem dX10_choose_79 : decode cX10_choose 79 = .ok (.goto 15, 3) := by decide +kernel
theorem dX10_choose_82 : decode cX10_choose 82 = .ok (.iload 8, 2) := by decide +kernel
theorem dX10_choose_84 : decode cX10_choose 84 = .ok (.iconst 1, 1) := by decide +kernel
theorem dX10_choose_85 : decode cX10_choose 85 = .ok (.if_icmp .ne 8, 3) := by decide +kernel
theorem dX10_choose_88 : decode cX10_choose 88 = .ok (.iload 5, 2) := by decide +kernel
theorem dX10_choose_90 : decode cX10_choose 90 = .ok (.goto 4, 3) := by decide +kernel
theorem dX10_choose_93 : decode cX10_choose 93 = .ok (.iconst 0, 1) := by decide +kernel
theorem dX10_choose_94 : decode cX10_choose 94 = .ok (.iadd, 1) := by decide +kernel
theorem dX10_choose_95 : decode cX10_choose 95 = .ok (.isub, 1) := by decide +kernel
theorem dX10_choose_96 : decode cX10_choose 96 = .ok (.istore 7, 2) := by decide +kernel
theorem dX10_choose_98 : decode cX10_choose 98 = .ok (.aload_n 0, 1) := by decide +kernel
theorem dX10_choose_99 : decode cX10_choose 99 = .ok (.getfield 9, 3) := by decide +kernel
theorem dX10_choose_102 : decode cX10_choose 102 = .ok (.iload 8, 2) := by decide +kernel
theorem dX10_choose_104 : decode cX10_choose 104 = .ok (.iload 7, 2) := by decide +kernel
theorem dX10_choose_106 : decode cX10_choose 106 = .ok (.iastore, 1) := by decide +kernel
theorem dX10_choose_107 : decode cX10_choose 107 = .ok (.aload_n 1, 1) := by decide +kernel
theorem dX10_choose_108 : decode cX10_choose 108 = .ok (.getfield 38, 3) := by decide +kernel
theorem dX10_choose_111 : decode cX10_choose 111 = .ok (.iload 6, 2) := by decide +kernel
theorem dX10_choose_113 : decode cX10_choose 113 = .ok (.iload 8, 2) := by decide +kernel
theorem dX10_choose_115 : decode cX10_choose 115 = .ok (.iadd, 1) := by decide +kernel
theorem dX10_choose_116 : decode cX10_choose 116 = .ok (.iaload, 1) := by decide +kernel
theorem dX10_choose_117 : decode cX10_choose 117 = .ok (.iconst 4, 1) := by decide +kernel
theorem dX10_choose_118 : decode cX10_choose 118 = .ok (.if_icmp .ne 30, 3) := by decide +kernel
theorem dX10_choose_121 : decode cX10_choose 121 = .ok (.aload_n 0, 1) := by decide +kernel
theorem dX10_choose_122 : decode cX10_choose 122 = .ok (.dup, 1) := by decide +kernel
theorem dX10_choose_123 : decode cX10_choose 123 = .ok (.getfield 31, 3) := by decide +kernel
theorem dX10_choose_126 : decode cX10_choose 126 = .ok (.aload_n 1, 1) := by decide +kernel
theorem dX10_choose_127 : decode cX10_choose 127 = .ok (.getfield 41, 3) := by decide +kernel
theorem dX10_choose_130 : decode cX10_choose 130 = .ok (.iload 6, 2) := by decide +kernel
theorem dX10_choose_132 : decode cX10_choose 132 = .ok (.iload 8, 2) := by decide +kernel
theorem dX10_choose_134 : decode cX10_choose 134 = .ok (.iadd, 1) := by decide +kernel
theorem dX10_choose_135 : decode cX10_choose 135 = .ok (.iaload, 1) := by decide +kernel
theorem dX10_choose_136 : decode cX10_choose 136 = .ok (.aload_n 0, 1) := by decide +kernel
theorem dX10_choose_137 : decode cX10_choose 137 = .ok (.getfield 15, 3) := by decide +kernel
theorem dX10_choose_140 : decode cX10_choose 140 = .ok (.iload 8, 2) := by decide +kernel
theorem dX10_choose_142 : decode cX10_choose 142 = .ok (.iaload, 1) := by decide +kernel
theorem dX10_choose_143 : decode cX10_choose 143 = .ok (.imul, 1) := by decide +kernel
theorem dX10_choose_144 : decode cX10_choose 144 = .ok (.iadd, 1) := by decide +kernel
theorem dX10_choose_145 : decode cX10_choose 145 = .ok (.putfield 31, 3) := by decide +kernel
theorem dX10_choose_148 : decode cX10_choose 148 = .ok (.iinc 8 (-1), 3) := by decide +kernel
theorem dX10_choose_151 : decode cX10_choose 151 = .ok (.goto (-110), 3) := by decide +kernel
theorem dX10_choose_154 : decode cX10_choose 154 = .ok (.aload_n 0, 1) := by decide +kernel
theorem dX10_choose_155 : decode cX10_choose 155 = .ok (.iload 7, 2) := by decide +kernel
theorem dX10_choose_157 : decode cX10_choose 157 = .ok (.ifCond .lt 24, 3) := by decide +kernel
theorem dX10_choose_160 : decode cX10_choose 160 = .ok (.aload_n 0, 1) := by decide +kernel
theorem dX10_choose_161 : decode cX10_choose 161 = .ok (.aload_n 1, 1) := by decide +kernel
theorem dX10_choose_162 : decode cX10_choose 162 = .ok (.invokevirtual 44, 3) := by decide +kernel
theorem dX10_choose_165 : decode cX10_choose 165 = .ok (.ifCond .eq 16, 3) := by decide +kernel
theorem dX10_choose_168 : decode cX10_choose 168 = .ok (.aload_n 0, 1) := by decide +kernel
theorem dX10_choose_169 : decode cX10_choose 169 = .ok (.aload_n 1, 1) := by decide +kernel
theorem dX10_choose_170 : decode cX10_choose 170 = .ok (.aload_n 0, 1) := by decide +kernel
theorem dX10_choose_171 : decode cX10_choose 171 = .ok (.invokevirtual 48, 3) := by decide +kernel
theorem dX10_choose_174 : decode cX10_choose 174 = .ok (.ifCond .eq 7, 3) := by decide +kernel
theorem dX10_choose_177 : decode cX10_choose 177 = .ok (.iconst 1, 1) := by decide +kernel
theorem dX10_choose_178 : decode cX10_choose 178 = .ok (.goto 4, 3) := by decide +kernel
theorem dX10_choose_181 : decode cX10_choose 181 = .ok (.iconst 0, 1) := by decide +kernel
theorem dX10_choose_182 : decode cX10_choose 182 = .ok (.putfield 52, 3) := by decide +kernel
theorem dX10_choose_185 : decode cX10_choose 185 = .ok (.aload_n 0, 1) := by decide +kernel
theorem dX10_choose_186 : decode cX10_choose 186 = .ok (.getfield 52, 3) := by decide +kernel
theorem dX10_choose_189 : decode cX10_choose 189 = .ok (.ifCond .eq 8, 3) := by decide +kernel
theorem dX10_choose_192 : decode cX10_choose 192 = .ok (.aload_n 0, 1) := by decide +kernel
theorem dX10_choose_193 : decode cX10_choose 193 = .ok (.aload_n 1, 1) := by decide +kernel
theorem dX10_choose_194 : decode cX10_choose 194 = .ok (.invokevirtual 56, 3) := by decide +kernel
theorem dX10_choose_197 : decode cX10_choose 197 = .ok (.return_, 1) := by decide +kernel
theorem dX10_lay_0 : decode cX10_lay 0 = .ok (.aload_n 0, 1) := by decide +kernel
theorem dX10_lay_1 : decode cX10_lay 1 = .ok (.getfield 18, 3) := by decide +kernel
theorem dX10_lay_4 : decode cX10_lay 4 = .ok (.lconst 0, 1) := by decide +kernel
theorem dX10_lay_5 : decode cX10_lay 5 = .ok (.invokestatic 60, 3) := by decide +kernel
theorem dX10_lay_8 : decode cX10_lay 8 = .ok (.aload_n 1, 1) := by decide +kernel
theorem dX10_lay_9 : decode cX10_lay 9 = .ok (.getfield 26, 3) := by decide +kernel
theorem dX10_lay_12 : decode cX10_lay 12 = .ok (.aload_n 0, 1) := by decide +kernel
theorem dX10_lay_13 : decode cX10_lay 13 = .ok (.getfield 22, 3) := by decide +kernel
theorem dX10_lay_16 : decode cX10_lay 16 = .ok (.iaload, 1) := by decide +kernel
theorem dX10_lay_17 : decode cX10_lay 17 = .ok (.istore_n 2, 1) := by decide +kernel
theorem dX10_lay_18 : decode cX10_lay 18 = .ok (.aload_n 1, 1) := by decide +kernel
theorem dX10_lay_19 : decode cX10_lay 19 = .ok (.getfield 34, 3) := by decide +kernel
theorem dX10_lay_22 : decode cX10_lay 22 = .ok (.aload_n 0, 1) := by decide +kernel
theorem dX10_lay_23 : decode cX10_lay 23 = .ok (.getfield 22, 3) := by decide +kernel
theorem dX10_lay_26 : decode cX10_lay 26 = .ok (.iaload, 1) := by decide +kernel
theorem dX10_lay_27 : decode cX10_lay 27 = .ok (.iconst 1, 1) := by decide +kernel
theorem dX10_lay_28 : decode cX10_lay 28 = .ok (.isub, 1) := by decide +kernel
theorem dX10_lay_29 : decode cX10_lay 29 = .ok (.istore_n 3, 1) := by decide +kernel
theorem dX10_lay_30 : decode cX10_lay 30 = .ok (.iconst 0, 1) := by decide +kernel
theorem dX10_lay_31 : decode cX10_lay 31 = .ok (.istore 4, 2) := by decide +kernel
theorem dX10_lay_33 : decode cX10_lay 33 = .ok (.iload 4, 2) := by decide +kernel
theorem dX10_lay_35 : decode cX10_lay 35 = .ok (.iload_n 3, 1) := by decide +kernel
theorem dX10_lay_36 : decode cX10_lay 36 = .ok (.if_icmp .gt 155, 3) := by decide +kernel
theorem dX10_lay_39 : decode cX10_lay 39 = .ok (.aload_n 0, 1) := by decide +kernel
theorem dX10_lay_40 : decode cX10_lay 40 = .ok (.getfield 9, 3) := by decide +kernel
theorem dX10_lay_43 : decode cX10_lay 43 = .ok (.iload 4, 2) := by decide +kernel
theorem dX10_lay_45 : decode cX10_lay 45 = .ok (.iaload, 1) := by decide +kernel
theorem dX10_lay_46 : decode cX10_lay 46 = .ok (.aload_n 0, 1) := by decide +kernel
theorem dX10_lay_47 : decode cX10_lay 47 = .ok (.getfield 15, 3) := by decide +kernel
theorem dX10_lay_50 : decode cX10_lay 50 = .ok (.iload 4, 2) := by decide +kernel
theorem dX10_lay_52 : decode cX10_lay 52 = .ok (.iaload, 1) := by decide +kernel
theorem dX10_lay_53 : decode cX10_lay 53 = .ok (.invokestatic 66, 3) := by decide +kernel
theorem dX10_lay_56 : decode cX10_lay 56 = .ok (.lstore 5, 2) := by decide +kernel
theorem dX10_lay_58 : decode cX10_lay 58 = .ok (.aload_n 1, 1) := by decide +kernel
theorem dX10_lay_59 : decode cX10_lay 59 = .ok (.getfield 38, 3) := by decide +kernel
theorem dX10_lay_62 : decode cX10_lay 62 = .ok (.iload_n 2, 1) := by decide +kernel
theorem dX10_lay_63 : decode cX10_lay 63 = .ok (.iload 4, 2) := by decide +kernel
theorem dX10_lay_65 : decode cX10_lay 65 = .ok (.iadd, 1) := by decide +kernel
theorem dX10_lay_66 : decode cX10_lay 66 = .ok (.iaload, 1) := by decide +kernel
theorem dX10_lay_67 : decode cX10_lay 67 = .ok (.istore 7, 2) := by decide +kernel
theorem dX10_lay_69 : decode cX10_lay 69 = .ok (.aload_n 1, 1) := by decide +kernel
theorem dX10_lay_70 : decode cX10_lay 70 = .ok (.getfield 70, 3) := by decide +kernel
theorem dX10_lay_73 : decode cX10_lay 73 = .ok (.iload_n 2, 1) := by decide +kernel
theorem dX10_lay_74 : decode cX10_lay 74 = .ok (.iload 4, 2) := by decide +kernel
theorem dX10_lay_76 : decode cX10_lay 76 = .ok (.iadd, 1) := by decide +kernel
theorem dX10_lay_77 : decode cX10_lay 77 = .ok (.iaload, 1) := by decide +kernel
theorem dX10_lay_78 : decode cX10_lay 78 = .ok (.istore 8, 2) := by decide +kernel
theorem dX10_lay_80 : decode cX10_lay 80 = .ok (.iload 7, 2) := by decide +kernel
theorem dX10_lay_82 : decode cX10_lay 82 = .ok (.ifCond .ne 14, 3) := by decide +kernel
theorem dX10_lay_85 : decode cX10_lay 85 = .ok (.aload_n 0, 1) := by decide +kernel
theorem dX10_lay_86 : decode cX10_lay 86 = .ok (.getfield 18, 3) := by decide +kernel
theorem dX10_lay_89 : decode cX10_lay 89 = .ok (.iconst 0, 1) := by decide +kernel
theorem dX10_lay_90 : decode cX10_lay 90 = .ok (.dup2, 1) := by decide +kernel
theorem dX10_lay_91 : decode cX10_lay 91 = .ok (.laload, 1) := by decide +kernel
theorem dX10_lay_92 : decode cX10_lay 92 = .ok (.lload 5, 2) := by decide +kernel
theorem dX10_lay_94 : decode cX10_lay 94 = .ok (.lor, 1) := by decide +kernel
theorem dX10_lay_95 : decode cX10_lay 95 = .ok (.lastore, 1) := by decide +kernel
theorem dX10_lay_96 : decode cX10_lay 96 = .ok (.iload 7, 2) := by decide +kernel
theorem dX10_lay_98 : decode cX10_lay 98 = .ok (.ifCond .ne 27, 3) := by decide +kernel
theorem dX10_lay_101 : decode cX10_lay 101 = .ok (.aload_n 1, 1) := by decide +kernel
theorem dX10_lay_102 : decode cX10_lay 102 = .ok (.getfield 41, 3) := by decide +kernel
theorem dX10_lay_105 : decode cX10_lay 105 = .ok (.iload_n 2, 1) := by decide +kernel
theorem dX10_lay_106 : decode cX10_lay 106 = .ok (.iload 4, 2) := by decide +kernel
theorem dX10_lay_108 : decode cX10_lay 108 = .ok (.iadd, 1) := by decide +kernel
theorem dX10_lay_109 : decode cX10_lay 109 = .ok (.iaload, 1) := by decide +kernel
theorem dX10_lay_110 : decode cX10_lay 110 = .ok (.iconst 1, 1) := by decide +kernel
theorem dX10_lay_111 : decode cX10_lay 111 = .ok (.if_icmp .ne 14, 3) := by decide +kernel
theorem dX10_lay_114 : decode cX10_lay 114 = .ok (.aload_n 0, 1) := by decide +kernel
theorem dX10_lay_115 : decode cX10_lay 115 = .ok (.getfield 18, 3) := by decide +kernel
theorem dX10_lay_118 : decode cX10_lay 118 = .ok (.iconst 1, 1) := by decide +kernel
theorem dX10_lay_119 : decode cX10_lay 119 = .ok (.dup2, 1) := by decide +kernel
theorem dX10_lay_120 : decode cX10_lay 120 = .ok (.laload, 1) := by decide +kernel
theorem dX10_lay_121 : decode cX10_lay 121 = .ok (.lload 5, 2) := by decide +kernel
theorem dX10_lay_123 : decode cX10_lay 123 = .ok (.lor, 1) := by decide +kernel
theorem dX10_lay_124 : decode cX10_lay 124 = .ok (.lastore, 1) := by decide +kernel
theorem dX10_lay_125 : decode cX10_lay 125 = .ok (.iload 7, 2) := by decide +kernel
theorem dX10_lay_127 : decode cX10_lay 127 = .ok (.iconst 1, 1) := by decide +kernel
theorem dX10_lay_128 : decode cX10_lay 128 = .ok (.if_icmp .ne 14, 3) := by decide +kernel
theorem dX10_lay_131 : decode cX10_lay 131 = .ok (.aload_n 0, 1) := by decide +kernel
theorem dX10_lay_132 : decode cX10_lay 132 = .ok (.getfield 18, 3) := by decide +kernel
theorem dX10_lay_135 : decode cX10_lay 135 = .ok (.iconst 2, 1) := by decide +kernel
theorem dX10_lay_136 : decode cX10_lay 136 = .ok (.dup2, 1) := by decide +kernel
theorem dX10_lay_137 : decode cX10_lay 137 = .ok (.laload, 1) := by decide +kernel
theorem dX10_lay_138 : decode cX10_lay 138 = .ok (.lload 5, 2) := by decide +kernel
theorem dX10_lay_140 : decode cX10_lay 140 = .ok (.lor, 1) := by decide +kernel
theorem dX10_lay_141 : decode cX10_lay 141 = .ok (.lastore, 1) := by decide +kernel
theorem dX10_lay_142 : decode cX10_lay 142 = .ok (.iload 8, 2) := by decide +kernel
theorem dX10_lay_144 : decode cX10_lay 144 = .ok (.iconst 1, 1) := by decide +kernel
theorem dX10_lay_145 : decode cX10_lay 145 = .ok (.if_icmp .ne 23, 3) := by decide +kernel
theorem dX10_lay_148 : decode cX10_lay 148 = .ok (.aload_n 0, 1) := by decide +kernel
theorem dX10_lay_149 : decode cX10_lay 149 = .ok (.getfield 18, 3) := by decide +kernel
theorem dX10_lay_152 : decode cX10_lay 152 = .ok (.iconst 3, 1) := by decide +kernel
theorem dX10_lay_153 : decode cX10_lay 153 = .ok (.dup2, 1) := by decide +kernel
theorem dX10_lay_154 : decode cX10_lay 154 = .ok (.laload, 1) := by decide +kernel
theorem dX10_lay_155 : decode cX10_lay 155 = .ok (.aload_n 0, 1) := by decide +kernel
theorem dX10_lay_156 : decode cX10_lay 156 = .ok (.getfield 9, 3) := by decide +kernel
theorem dX10_lay_159 : decode cX10_lay 159 = .ok (.iload 4, 2) := by decide +kernel
theorem dX10_lay_161 : decode cX10_lay 161 = .ok (.iaload, 1) := by decide +kernel
theorem dX10_lay_162 : decode cX10_lay 162 = .ok (.iconst 1, 1) := by decide +kernel
theorem dX10_lay_163 : decode cX10_lay 163 = .ok (.invokestatic 66, 3) := by decide +kernel
theorem dX10_lay_166 : decode cX10_lay 166 = .ok (.lor, 1) := by decide +kernel
theorem dX10_lay_167 : decode cX10_lay 167 = .ok (.lastore, 1) := by decide +kernel
theorem dX10_lay_168 : decode cX10_lay 168 = .ok (.iload 8, 2) := by decide +kernel
theorem dX10_lay_170 : decode cX10_lay 170 = .ok (.iconst 2, 1) := by decide +kernel
theorem dX10_lay_171 : decode cX10_lay 171 = .ok (.if_icmp .ne 14, 3) := by decide +kernel
theorem dX10_lay_174 : decode cX10_lay 174 = .ok (.aload_n 0, 1) := by decide +kernel
theorem dX10_lay_175 : decode cX10_lay 175 = .ok (.getfield 18, 3) := by decide +kernel
theorem dX10_lay_178 : decode cX10_lay 178 = .ok (.iconst 3, 1) := by decide +kernel
theorem dX10_lay_179 : decode cX10_lay 179 = .ok (.dup2, 1) := by decide +kernel
theorem dX10_lay_180 : decode cX10_lay 180 = .ok (.laload, 1) := by decide +kernel
theorem dX10_lay_181 : decode cX10_lay 181 = .ok (.lload 5, 2) := by decide +kernel
theorem dX10_lay_183 : decode cX10_lay 183 = .ok (.lor, 1) := by decide +kernel
theorem dX10_lay_184 : decode cX10_lay 184 = .ok (.lastore, 1) := by decide +kernel
theorem dX10_lay_185 : decode cX10_lay 185 = .ok (.iinc 4 1, 3) := by decide +kernel
theorem dX10_lay_188 : decode cX10_lay 188 = .ok (.goto (-155), 3) := by decide +kernel
theorem dX10_lay_191 : decode cX10_lay 191 = .ok (.aload_n 1, 1) := by decide +kernel
theorem dX10_lay_192 : decode cX10_lay 192 = .ok (.getfield 73, 3) := by decide +kernel
theorem dX10_lay_195 : decode cX10_lay 195 = .ok (.aload_n 0, 1) := by decide +kernel
theorem dX10_lay_196 : decode cX10_lay 196 = .ok (.getfield 22, 3) := by decide +kernel
theorem dX10_lay_199 : decode cX10_lay 199 = .ok (.iaload, 1) := by decide +kernel
theorem dX10_lay_200 : decode cX10_lay 200 = .ok (.iconst 1, 1) := by decide +kernel
theorem dX10_lay_201 : decode cX10_lay 201 = .ok (.if_icmp .ne 38, 3) := by decide +kernel
theorem dX10_lay_204 : decode cX10_lay 204 = .ok (.aload_n 0, 1) := by decide +kernel
theorem dX10_lay_205 : decode cX10_lay 205 = .ok (.getfield 18, 3) := by decide +kernel
theorem dX10_lay_208 : decode cX10_lay 208 = .ok (.iconst 4, 1) := by decide +kernel
theorem dX10_lay_209 : decode cX10_lay 209 = .ok (.aload_n 0, 1) := by decide +kernel
theorem dX10_lay_210 : decode cX10_lay 210 = .ok (.getfield 9, 3) := by decide +kernel
theorem dX10_lay_213 : decode cX10_lay 213 = .ok (.iconst 0, 1) := by decide +kernel
theorem dX10_lay_214 : decode cX10_lay 214 = .ok (.iaload, 1) := by decide +kernel
theorem dX10_lay_215 : decode cX10_lay 215 = .ok (.aload_n 0, 1) := by decide +kernel
theorem dX10_lay_216 : decode cX10_lay 216 = .ok (.getfield 9, 3) := by decide +kernel
theorem dX10_lay_219 : decode cX10_lay 219 = .ok (.iload_n 3, 1) := by decide +kernel
theorem dX10_lay_220 : decode cX10_lay 220 = .ok (.iaload, 1) := by decide +kernel
theorem dX10_lay_221 : decode cX10_lay 221 = .ok (.aload_n 0, 1) := by decide +kernel
theorem dX10_lay_222 : decode cX10_lay 222 = .ok (.getfield 15, 3) := by decide +kernel
theorem dX10_lay_225 : decode cX10_lay 225 = .ok (.iload_n 3, 1) := by decide +kernel
theorem dX10_lay_226 : decode cX10_lay 226 = .ok (.iaload, 1) := by decide +kernel
theorem dX10_lay_227 : decode cX10_lay 227 = .ok (.iadd, 1) := by decide +kernel
theorem dX10_lay_228 : decode cX10_lay 228 = .ok (.aload_n 0, 1) := by decide +kernel
theorem dX10_lay_229 : decode cX10_lay 229 = .ok (.getfield 9, 3) := by decide +kernel
theorem dX10_lay_232 : decode cX10_lay 232 = .ok (.iconst 0, 1) := by decide +kernel
theorem dX10_lay_233 : decode cX10_lay 233 = .ok (.iaload, 1) := by decide +kernel
theorem dX10_lay_234 : decode cX10_lay 234 = .ok (.isub, 1) := by decide +kernel
theorem dX10_lay_235 : decode cX10_lay 235 = .ok (.invokestatic 66, 3) := by decide +kernel
theorem dX10_lay_238 : decode cX10_lay 238 = .ok (.lastore, 1) := by decide +kernel
theorem dX10_lay_239 : decode cX10_lay 239 = .ok (.return_, 1) := by decide +kernel
theorem dX10_isWarmed_0 : decode cX10_isWarmed 0 = .ok (.aload_n 1, 1) := by decide +kernel
theorem dX10_isWarmed_1 : decode cX10_isWarmed 1 = .ok (.getfield 26, 3) := by decide +kernel
theorem dX10_isWarmed_4 : decode cX10_isWarmed 4 = .ok (.aload_n 0, 1) := by decide +kernel
theorem dX10_isWarmed_5 : decode cX10_isWarmed 5 = .ok (.getfield 22, 3) := by decide +kernel
theorem dX10_isWarmed_8 : decode cX10_isWarmed 8 = .ok (.iaload, 1) := by decide +kernel
theorem dX10_isWarmed_9 : decode cX10_isWarmed 9 = .ok (.istore_n 2, 1) := by decide +kernel
theorem dX10_isWarmed_10 : decode cX10_isWarmed 10 = .ok (.iconst 0, 1) := by decide +kernel
theorem dX10_isWarmed_11 : decode cX10_isWarmed 11 = .ok (.istore_n 3, 1) := by decide +kernel
theorem dX10_isWarmed_12 : decode cX10_isWarmed 12 = .ok (.iload_n 3, 1) := by decide +kernel
theorem dX10_isWarmed_13 : decode cX10_isWarmed 13 = .ok (.aload_n 1, 1) := by decide +kernel
theorem dX10_isWarmed_14 : decode cX10_isWarmed 14 = .ok (.getfield 34, 3) := by decide +kernel
theorem dX10_isWarmed_17 : decode cX10_isWarmed 17 = .ok (.aload_n 0, 1) := by decide +kernel
theorem dX10_isWarmed_18 : decode cX10_isWarmed 18 = .ok (.getfield 22, 3) := by decide +kernel
theorem dX10_isWarmed_21 : decode cX10_isWarmed 21 = .ok (.iaload, 1) := by decide +kernel
theorem dX10_isWarmed_22 : decode cX10_isWarmed 22 = .ok (.if_icmp .ge 39, 3) := by decide +kernel
theorem dX10_isWarmed_25 : decode cX10_isWarmed 25 = .ok (.aload_n 1, 1) := by decide +kernel
theorem dX10_isWarmed_26 : decode cX10_isWarmed 26 = .ok (.getfield 38, 3) := by decide +kernel
theorem dX10_isWarmed_29 : decode cX10_isWarmed 29 = .ok (.iload_n 2, 1) := by decide +kernel
theorem dX10_isWarmed_30 : decode cX10_isWarmed 30 = .ok (.iload_n 3, 1) := by decide +kernel
theorem dX10_isWarmed_31 : decode cX10_isWarmed 31 = .ok (.iadd, 1) := by decide +kernel
theorem dX10_isWarmed_32 : decode cX10_isWarmed 32 = .ok (.iaload, 1) := by decide +kernel
theorem dX10_isWarmed_33 : decode cX10_isWarmed 33 = .ok (.iconst 1, 1) := by decide +kernel
theorem dX10_isWarmed_34 : decode cX10_isWarmed 34 = .ok (.if_icmp .ne 21, 3) := by decide +kernel
theorem dX10_isWarmed_37 : decode cX10_isWarmed 37 = .ok (.aload_n 1, 1) := by decide +kernel
theorem dX10_isWarmed_38 : decode cX10_isWarmed 38 = .ok (.iload_n 2, 1) := by decide +kernel
theorem dX10_isWarmed_39 : decode cX10_isWarmed 39 = .ok (.iload_n 3, 1) := by decide +kernel
theorem dX10_isWarmed_40 : decode cX10_isWarmed 40 = .ok (.iadd, 1) := by decide +kernel
theorem dX10_isWarmed_41 : decode cX10_isWarmed 41 = .ok (.aload_n 0, 1) := by decide +kernel
theorem dX10_isWarmed_42 : decode cX10_isWarmed 42 = .ok (.getfield 9, 3) := by decide +kernel
theorem dX10_isWarmed_45 : decode cX10_isWarmed 45 = .ok (.iload_n 3, 1) := by decide +kernel
theorem dX10_isWarmed_46 : decode cX10_isWarmed 46 = .ok (.iaload, 1) := by decide +kernel
theorem dX10_isWarmed_47 : decode cX10_isWarmed 47 = .ok (.invokevirtual 76, 3) := by decide +kernel
theorem dX10_isWarmed_50 : decode cX10_isWarmed 50 = .ok (.ifCond .ne 5, 3) := by decide +kernel
theorem dX10_isWarmed_53 : decode cX10_isWarmed 53 = .ok (.iconst 0, 1) := by decide +kernel
theorem dX10_isWarmed_54 : decode cX10_isWarmed 54 = .ok (.ireturn, 1) := by decide +kernel
theorem dX10_isWarmed_55 : decode cX10_isWarmed 55 = .ok (.iinc 3 1, 3) := by decide +kernel
theorem dX10_isWarmed_58 : decode cX10_isWarmed 58 = .ok (.goto (-46), 3) := by decide +kernel
theorem dX10_isWarmed_61 : decode cX10_isWarmed 61 = .ok (.iconst 1, 1) := by decide +kernel
theorem dX10_isWarmed_62 : decode cX10_isWarmed 62 = .ok (.ireturn, 1) := by decide +kernel
theorem dX10_agrees_0 : decode cX10_agrees 0 = .ok (.aload_n 1, 1) := by decide +kernel
theorem dX10_agrees_1 : decode cX10_agrees 1 = .ok (.getfield 26, 3) := by decide +kernel
theorem dX10_agrees_4 : decode cX10_agrees 4 = .ok (.aload_n 0, 1) := by decide +kernel
theorem dX10_agrees_5 : decode cX10_agrees 5 = .ok (.getfield 22, 3) := by decide +kernel
theorem dX10_agrees_8 : decode cX10_agrees 8 = .ok (.iaload, 1) := by decide +kernel
theorem dX10_agrees_9 : decode cX10_agrees 9 = .ok (.istore_n 3, 1) := by decide +kernel
theorem dX10_agrees_10 : decode cX10_agrees 10 = .ok (.aload_n 1, 1) := by decide +kernel
theorem dX10_agrees_11 : decode cX10_agrees 11 = .ok (.getfield 26, 3) := by decide +kernel
theorem dX10_agrees_14 : decode cX10_agrees 14 = .ok (.aload_n 2, 1) := by decide +kernel
theorem dX10_agrees_15 : decode cX10_agrees 15 = .ok (.getfield 22, 3) := by decide +kernel
theorem dX10_agrees_18 : decode cX10_agrees 18 = .ok (.iaload, 1) := by decide +kernel
theorem dX10_agrees_19 : decode cX10_agrees 19 = .ok (.istore 4, 2) := by decide +kernel
theorem dX10_agrees_21 : decode cX10_agrees 21 = .ok (.iconst 0, 1) := by decide +kernel
theorem dX10_agrees_22 : decode cX10_agrees 22 = .ok (.istore 5, 2) := by decide +kernel
theorem dX10_agrees_24 : decode cX10_agrees 24 = .ok (.iload 5, 2) := by decide +kernel
theorem dX10_agrees_26 : decode cX10_agrees 26 = .ok (.aload_n 1, 1) := by decide +kernel
theorem dX10_agrees_27 : decode cX10_agrees 27 = .ok (.getfield 34, 3) := by decide +kernel
theorem dX10_agrees_30 : decode cX10_agrees 30 = .ok (.aload_n 0, 1) := by decide +kernel
theorem dX10_agrees_31 : decode cX10_agrees 31 = .ok (.getfield 22, 3) := by decide +kernel
theorem dX10_agrees_34 : decode cX10_agrees 34 = .ok (.iaload, 1) := by decide +kernel
theorem dX10_agrees_35 : decode cX10_agrees 35 = .ok (.if_icmp .ge 106, 3) := by decide +kernel
theorem dX10_agrees_38 : decode cX10_agrees 38 = .ok (.aload_n 1, 1) := by decide +kernel
theorem dX10_agrees_39 : decode cX10_agrees 39 = .ok (.getfield 38, 3) := by decide +kernel
theorem dX10_agrees_42 : decode cX10_agrees 42 = .ok (.iload_n 3, 1) := by decide +kernel
theorem dX10_agrees_43 : decode cX10_agrees 43 = .ok (.iload 5, 2) := by decide +kernel
theorem dX10_agrees_45 : decode cX10_agrees 45 = .ok (.iadd, 1) := by decide +kernel
theorem dX10_agrees_46 : decode cX10_agrees 46 = .ok (.iaload, 1) := by decide +kernel
theorem dX10_agrees_47 : decode cX10_agrees 47 = .ok (.iconst 1, 1) := by decide +kernel
theorem dX10_agrees_48 : decode cX10_agrees 48 = .ok (.if_icmp .eq 6, 3) := by decide +kernel
theorem dX10_agrees_51 : decode cX10_agrees 51 = .ok (.goto 84, 3) := by decide +kernel
theorem dX10_agrees_54 : decode cX10_agrees 54 = .ok (.iconst 0, 1) := by decide +kernel
theorem dX10_agrees_55 : decode cX10_agrees 55 = .ok (.istore 6, 2) := by decide +kernel
theorem dX10_agrees_57 : decode cX10_agrees 57 = .ok (.iload 6, 2) := by decide +kernel
theorem dX10_agrees_59 : decode cX10_agrees 59 = .ok (.aload_n 1, 1) := by decide +kernel
theorem dX10_agrees_60 : decode cX10_agrees 60 = .ok (.getfield 34, 3) := by decide +kernel
theorem dX10_agrees_63 : decode cX10_agrees 63 = .ok (.aload_n 2, 1) := by decide +kernel
theorem dX10_agrees_64 : decode cX10_agrees 64 = .ok (.getfield 22, 3) := by decide +kernel
theorem dX10_agrees_67 : decode cX10_agrees 67 = .ok (.iaload, 1) := by decide +kernel
theorem dX10_agrees_68 : decode cX10_agrees 68 = .ok (.if_icmp .ge 67, 3) := by decide +kernel
theorem dX10_agrees_71 : decode cX10_agrees 71 = .ok (.aload_n 1, 1) := by decide +kernel
theorem dX10_agrees_72 : decode cX10_agrees 72 = .ok (.getfield 38, 3) := by decide +kernel
theorem dX10_agrees_75 : decode cX10_agrees 75 = .ok (.iload 4, 2) := by decide +kernel
theorem dX10_agrees_77 : decode cX10_agrees 77 = .ok (.iload 6, 2) := by decide +kernel
theorem dX10_agrees_79 : decode cX10_agrees 79 = .ok (.iadd, 1) := by decide +kernel
theorem dX10_agrees_80 : decode cX10_agrees 80 = .ok (.iaload, 1) := by decide +kernel
theorem dX10_agrees_81 : decode cX10_agrees 81 = .ok (.iconst 1, 1) := by decide +kernel
theorem dX10_agrees_82 : decode cX10_agrees 82 = .ok (.if_icmp .ne 7, 3) := by decide +kernel
theorem dX10_agrees_85 : decode cX10_agrees 85 = .ok (.iconst 1, 1) := by decide +kernel
theorem dX10_agrees_86 : decode cX10_agrees 86 = .ok (.goto 4, 3) := by decide +kernel
theorem dX10_agrees_89 : decode cX10_agrees 89 = .ok (.iconst 0, 1) := by decide +kernel
theorem dX10_agrees_90 : decode cX10_agrees 90 = .ok (.istore 7, 2) := by decide +kernel
theorem dX10_agrees_92 : decode cX10_agrees 92 = .ok (.iload 7, 2) := by decide +kernel
theorem dX10_agrees_94 : decode cX10_agrees 94 = .ok (.ifCond .eq 35, 3) := by decide +kernel
theorem dX10_agrees_97 : decode cX10_agrees 97 = .ok (.aload_n 1, 1) := by decide +kernel
theorem dX10_agrees_98 : decode cX10_agrees 98 = .ok (.iload_n 3, 1) := by decide +kernel
theorem dX10_agrees_99 : decode cX10_agrees 99 = .ok (.iload 5, 2) := by decide +kernel
theorem dX10_agrees_101 : decode cX10_agrees 101 = .ok (.iadd, 1) := by decide +kernel
theorem dX10_agrees_102 : decode cX10_agrees 102 = .ok (.aload_n 0, 1) := by decide +kernel
theorem dX10_agrees_103 : decode cX10_agrees 103 = .ok (.getfield 9, 3) := by decide +kernel
theorem dX10_agrees_106 : decode cX10_agrees 106 = .ok (.iload 5, 2) := by decide +kernel
theorem dX10_agrees_108 : decode cX10_agrees 108 = .ok (.iaload, 1) := by decide +kernel
theorem dX10_agrees_109 : decode cX10_agrees 109 = .ok (.iload 4, 2) := by decide +kernel
theorem dX10_agrees_111 : decode cX10_agrees 111 = .ok (.iload 6, 2) := by decide +kernel
theorem dX10_agrees_113 : decode cX10_agrees 113 = .ok (.iadd, 1) := by decide +kernel
theorem dX10_agrees_114 : decode cX10_agrees 114 = .ok (.aload_n 2, 1) := by decide +kernel
theorem dX10_agrees_115 : decode cX10_agrees 115 = .ok (.getfield 9, 3) := by decide +kernel
theorem dX10_agrees_118 : decode cX10_agrees 118 = .ok (.iload 6, 2) := by decide +kernel
theorem dX10_agrees_120 : decode cX10_agrees 120 = .ok (.iaload, 1) := by decide +kernel
theorem dX10_agrees_121 : decode cX10_agrees 121 = .ok (.invokevirtual 80, 3) := by decide +kernel
theorem dX10_agrees_124 : decode cX10_agrees 124 = .ok (.ifCond .ne 5, 3) := by decide +kernel
theorem dX10_agrees_127 : decode cX10_agrees 127 = .ok (.iconst 0, 1) := by decide +kernel
theorem dX10_agrees_128 : decode cX10_agrees 128 = .ok (.ireturn, 1) := by decide +kernel
theorem dX10_agrees_129 : decode cX10_agrees 129 = .ok (.iinc 6 1, 3) := by decide +kernel
theorem dX10_agrees_132 : decode cX10_agrees 132 = .ok (.goto (-75), 3) := by decide +kernel
theorem dX10_agrees_135 : decode cX10_agrees 135 = .ok (.iinc 5 1, 3) := by decide +kernel
theorem dX10_agrees_138 : decode cX10_agrees 138 = .ok (.goto (-114), 3) := by decide +kernel
theorem dX10_agrees_141 : decode cX10_agrees 141 = .ok (.iconst 1, 1) := by decide +kernel
theorem dX10_agrees_142 : decode cX10_agrees 142 = .ok (.ireturn, 1) := by decide +kernel
theorem dX11_init_0 : decode cX11_init 0 = .ok (.aload_n 0, 1) := by decide +kernel
theorem dX11_init_1 : decode cX11_init 1 = .ok (.invokespecial 1, 3) := by decide +kernel
theorem dX11_init_4 : decode cX11_init 4 = .ok (.aload_n 0, 1) := by decide +kernel
theorem dX11_init_5 : decode cX11_init 5 = .ok (.new 7, 3) := by decide +kernel
theorem dX11_init_8 : decode cX11_init 8 = .ok (.dup, 1) := by decide +kernel
theorem dX11_init_9 : decode cX11_init 9 = .ok (.invokespecial 9, 3) := by decide +kernel
theorem dX11_init_12 : decode cX11_init 12 = .ok (.putfield 10, 3) := by decide +kernel
theorem dX11_init_15 : decode cX11_init 15 = .ok (.aload_n 0, 1) := by decide +kernel
theorem dX11_init_16 : decode cX11_init 16 = .ok (.new 16, 3) := by decide +kernel
theorem dX11_init_19 : decode cX11_init 19 = .ok (.dup, 1) := by decide +kernel
theorem dX11_init_20 : decode cX11_init 20 = .ok (.invokespecial 18, 3) := by decide +kernel
theorem dX11_init_23 : decode cX11_init 23 = .ok (.putfield 19, 3) := by decide +kernel
theorem dX11_init_26 : decode cX11_init 26 = .ok (.aload_n 0, 1) := by decide +kernel
theorem dX11_init_27 : decode cX11_init 27 = .ok (.iconst 2, 1) := by decide +kernel
theorem dX11_init_28 : decode cX11_init 28 = .ok (.anewarray 23, 3) := by decide +kernel
theorem dX11_init_31 : decode cX11_init 31 = .ok (.dup, 1) := by decide +kernel
theorem dX11_init_32 : decode cX11_init 32 = .ok (.iconst 0, 1) := by decide +kernel
theorem dX11_init_33 : decode cX11_init 33 = .ok (.new 23, 3) := by decide +kernel
theorem dX11_init_36 : decode cX11_init 36 = .ok (.dup, 1) := by decide +kernel
theorem dX11_init_37 : decode cX11_init 37 = .ok (.invokespecial 25, 3) := by decide +kernel
theorem dX11_init_40 : decode cX11_init 40 = .ok (.aastore, 1) := by decide +kernel
theorem dX11_init_41 : decode cX11_init 41 = .ok (.dup, 1) := by decide +kernel
theorem dX11_init_42 : decode cX11_init 42 = .ok (.iconst 1, 1) := by decide +kernel
theorem dX11_init_43 : decode cX11_init 43 = .ok (.new 23, 3) := by decide +kernel
theorem dX11_init_46 : decode cX11_init 46 = .ok (.dup, 1) := by decide +kernel
theorem dX11_init_47 : decode cX11_init 47 = .ok (.invokespecial 25, 3) := by decide +kernel
theorem dX11_init_50 : decode cX11_init 50 = .ok (.aastore, 1) := by decide +kernel
theorem dX11_init_51 : decode cX11_init 51 = .ok (.putfield 26, 3) := by decide +kernel
theorem dX11_init_54 : decode cX11_init 54 = .ok (.aload_n 0, 1) := by decide +kernel
theorem dX11_init_55 : decode cX11_init 55 = .ok (.new 23, 3) := by decide +kernel
theorem dX11_init_58 : decode cX11_init 58 = .ok (.dup, 1) := by decide +kernel
theorem dX11_init_59 : decode cX11_init 59 = .ok (.invokespecial 25, 3) := by decide +kernel
theorem dX11_init_62 : decode cX11_init 62 = .ok (.putfield 30, 3) := by decide +kernel
theorem dX11_init_65 : decode cX11_init 65 = .ok (.aload_n 0, 1) := by decide +kernel
theorem dX11_init_66 : decode cX11_init 66 = .ok (.new 23, 3) := by decide +kernel
theorem dX11_init_69 : decode cX11_init 69 = .ok (.dup, 1) := by decide +kernel
theorem dX11_init_70 : decode cX11_init 70 = .ok (.invokespecial 25, 3) := by decide +kernel
theorem dX11_init_73 : decode cX11_init 73 = .ok (.putfield 34, 3) := by decide +kernel
theorem dX11_init_76 : decode cX11_init 76 = .ok (.aload_n 0, 1) := by decide +kernel
theorem dX11_init_77 : decode cX11_init 77 = .ok (.new 37, 3) := by decide +kernel
theorem dX11_init_80 : decode cX11_init 80 = .ok (.dup, 1) := by decide +kernel
theorem dX11_init_81 : decode cX11_init 81 = .ok (.invokespecial 39, 3) := by decide +kernel
theorem dX11_init_84 : decode cX11_init 84 = .ok (.putfield 40, 3) := by decide +kernel
theorem dX11_init_87 : decode cX11_init 87 = .ok (.aload_n 0, 1) := by decide +kernel
theorem dX11_init_88 : decode cX11_init 88 = .ok (.new 37, 3) := by decide +kernel
theorem dX11_init_91 : decode cX11_init 91 = .ok (.dup, 1) := by decide +kernel
theorem dX11_init_92 : decode cX11_init 92 = .ok (.invokespecial 39, 3) := by decide +kernel
theorem dX11_init_95 : decode cX11_init 95 = .ok (.putfield 44, 3) := by decide +kernel
theorem dX11_init_98 : decode cX11_init 98 = .ok (.aload_n 0, 1) := by decide +kernel
theorem dX11_init_99 : decode cX11_init 99 = .ok (.new 47, 3) := by decide +kernel
theorem dX11_init_102 : decode cX11_init 102 = .ok (.dup, 1) := by decide +kernel
theorem dX11_init_103 : decode cX11_init 103 = .ok (.invokespecial 49, 3) := by decide +kernel
theorem dX11_init_106 : decode cX11_init 106 = .ok (.putfield 50, 3) := by decide +kernel
theorem dX11_init_109 : decode cX11_init 109 = .ok (.aload_n 0, 1) := by decide +kernel
theorem dX11_init_110 : decode cX11_init 110 = .ok (.new 54, 3) := by decide +kernel
theorem dX11_init_113 : decode cX11_init 113 = .ok (.dup, 1) := by decide +kernel
theorem dX11_init_114 : decode cX11_init 114 = .ok (.invokespecial 56, 3) := by decide +kernel
theorem dX11_init_117 : decode cX11_init 117 = .ok (.putfield 57, 3) := by decide +kernel
theorem dX11_init_120 : decode cX11_init 120 = .ok (.aload_n 0, 1) := by decide +kernel
theorem dX11_init_121 : decode cX11_init 121 = .ok (.new 61, 3) := by decide +kernel
theorem dX11_init_124 : decode cX11_init 124 = .ok (.dup, 1) := by decide +kernel
theorem dX11_init_125 : decode cX11_init 125 = .ok (.invokespecial 63, 3) := by decide +kernel
theorem dX11_init_128 : decode cX11_init 128 = .ok (.putfield 64, 3) := by decide +kernel
theorem dX11_init_131 : decode cX11_init 131 = .ok (.aload_n 0, 1) := by decide +kernel
theorem dX11_init_132 : decode cX11_init 132 = .ok (.new 68, 3) := by decide +kernel
theorem dX11_init_135 : decode cX11_init 135 = .ok (.dup, 1) := by decide +kernel
theorem dX11_init_136 : decode cX11_init 136 = .ok (.invokespecial 70, 3) := by decide +kernel
theorem dX11_init_139 : decode cX11_init 139 = .ok (.putfield 71, 3) := by decide +kernel
theorem dX11_init_142 : decode cX11_init 142 = .ok (.aload_n 0, 1) := by decide +kernel
theorem dX11_init_143 : decode cX11_init 143 = .ok (.new 68, 3) := by decide +kernel
theorem dX11_init_146 : decode cX11_init 146 = .ok (.dup, 1) := by decide +kernel
theorem dX11_init_147 : decode cX11_init 147 = .ok (.invokespecial 70, 3) := by decide +kernel
theorem dX11_init_150 : decode cX11_init 150 = .ok (.putfield 75, 3) := by decide +kernel
theorem dX11_init_153 : decode cX11_init 153 = .ok (.return_, 1) := by decide +kernel
theorem dX11_sheet_0 : decode cX11_sheet 0 = .ok (.aload_n 0, 1) := by decide +kernel
theorem dX11_sheet_1 : decode cX11_sheet 1 = .ok (.getfield 10, 3) := by decide +kernel
theorem dX11_sheet_4 : decode cX11_sheet 4 = .ok (.iload_n 1, 1) := by decide +kernel
theorem dX11_sheet_5 : decode cX11_sheet 5 = .ok (.invokevirtual 78, 3) := by decide +kernel
theorem dX11_sheet_8 : decode cX11_sheet 8 = .ok (.ifCond .eq 18, 3) := by decide +kernel
theorem dX11_sheet_11 : decode cX11_sheet 11 = .ok (.iload_n 2, 1) := by decide +kernel
theorem dX11_sheet_12 : decode cX11_sheet 12 = .ok (.ifCond .lt 14, 3) := by decide +kernel
theorem dX11_sheet_15 : decode cX11_sheet 15 = .ok (.iload_n 2, 1) := by decide +kernel
theorem dX11_sheet_16 : decode cX11_sheet 16 = .ok (.iconst 3, 1) := by decide +kernel
theorem dX11_sheet_17 : decode cX11_sheet 17 = .ok (.if_icmp .ge 9, 3) := by decide +kernel
theorem dX11_sheet_20 : decode cX11_sheet 20 = .ok (.iload_n 3, 1) := by decide +kernel
theorem dX11_sheet_21 : decode cX11_sheet 21 = .ok (.bipush 40, 2) := by decide +kernel
theorem dX11_sheet_23 : decode cX11_sheet 23 = .ok (.if_icmp .le 6, 3) := by decide +kernel
theorem dX11_sheet_26 : decode cX11_sheet 26 = .ok (.ldc 82, 2) := by decide +kernel
theorem dX11_sheet_28 : decode cX11_sheet 28 = .ok (.ireturn, 1) := by decide +kernel
theorem dX11_sheet_29 : decode cX11_sheet 29 = .ok (.iload_n 3, 1) := by decide +kernel
theorem dX11_sheet_30 : decode cX11_sheet 30 = .ok (.ifCond .ge 9, 3) := by decide +kernel
theorem dX11_sheet_33 : decode cX11_sheet 33 = .ok (.aload_n 0, 1) := by decide +kernel
theorem dX11_sheet_34 : decode cX11_sheet 34 = .ok (.iconst 4, 1) := by decide +kernel
theorem dX11_sheet_35 : decode cX11_sheet 35 = .ok (.invokevirtual 83, 3) := by decide +kernel
theorem dX11_sheet_38 : decode cX11_sheet 38 = .ok (.ireturn, 1) := by decide +kernel
theorem dX11_sheet_39 : decode cX11_sheet 39 = .ok (.aload_n 0, 1) := by decide +kernel
theorem dX11_sheet_40 : decode cX11_sheet 40 = .ok (.getfield 10, 3) := by decide +kernel
theorem dX11_sheet_43 : decode cX11_sheet 43 = .ok (.iload_n 1, 1) := by decide +kernel
theorem dX11_sheet_44 : decode cX11_sheet 44 = .ok (.iload_n 2, 1) := by decide +kernel
theorem dX11_sheet_45 : decode cX11_sheet 45 = .ok (.iload_n 3, 1) := by decide +kernel
theorem dX11_sheet_46 : decode cX11_sheet 46 = .ok (.invokevirtual 87, 3) := by decide +kernel
theorem dX11_sheet_49 : decode cX11_sheet 49 = .ok (.aload_n 0, 1) := by decide +kernel
theorem dX11_sheet_50 : decode cX11_sheet 50 = .ok (.iload_n 3, 1) := by decide +kernel
theorem dX11_sheet_51 : decode cX11_sheet 51 = .ok (.invokevirtual 91, 3) := by decide +kernel
theorem dX11_sheet_54 : decode cX11_sheet 54 = .ok (.ireturn, 1) := by decide +kernel
theorem dX11_set_0 : decode cX11_set 0 = .ok (.aload_n 0, 1) := by decide +kernel
theorem dX11_set_1 : decode cX11_set 1 = .ok (.getfield 10, 3) := by decide +kernel
theorem dX11_set_4 : decode cX11_set 4 = .ok (.iload_n 1, 1) := by decide +kernel
theorem dX11_set_5 : decode cX11_set 5 = .ok (.invokevirtual 78, 3) := by decide +kernel
theorem dX11_set_8 : decode cX11_set 8 = .ok (.ifCond .ne 6, 3) := by decide +kernel
theorem dX11_set_11 : decode cX11_set 11 = .ok (.ldc 82, 2) := by decide +kernel
theorem dX11_set_13 : decode cX11_set 13 = .ok (.ireturn, 1) := by decide +kernel
theorem dX11_set_14 : decode cX11_set 14 = .ok (.aload_n 0, 1) := by decide +kernel
theorem dX11_set_15 : decode cX11_set 15 = .ok (.getfield 10, 3) := by decide +kernel
theorem dX11_set_18 : decode cX11_set 18 = .ok (.iload_n 1, 1) := by decide +kernel
theorem dX11_set_19 : decode cX11_set 19 = .ok (.invokevirtual 94, 3) := by decide +kernel
theorem dX11_set_22 : decode cX11_set 22 = .ok (.ifCond .eq 9, 3) := by decide +kernel
theorem dX11_set_25 : decode cX11_set 25 = .ok (.aload_n 0, 1) := by decide +kernel
theorem dX11_set_26 : decode cX11_set 26 = .ok (.iconst 1, 1) := by decide +kernel
theorem dX11_set_27 : decode cX11_set 27 = .ok (.invokevirtual 83, 3) := by decide +kernel
theorem dX11_set_30 : decode cX11_set 30 = .ok (.ireturn, 1) := by decide +kernel
theorem dX11_set_31 : decode cX11_set 31 = .ok (.aload_n 0, 1) := by decide +kernel
theorem dX11_set_32 : decode cX11_set 32 = .ok (.getfield 10, 3) := by decide +kernel
theorem dX11_set_35 : decode cX11_set 35 = .ok (.iload_n 1, 1) := by decide +kernel
theorem dX11_set_36 : decode cX11_set 36 = .ok (.iload_n 2, 1) := by decide +kernel
theorem dX11_set_37 : decode cX11_set 37 = .ok (.iconst 1, 1) := by decide +kernel
theorem dX11_set_38 : decode cX11_set 38 = .ok (.invokevirtual 97, 3) := by decide +kernel
theorem dX11_set_41 : decode cX11_set 41 = .ok (.ifCond .ne 9, 3) := by decide +kernel
theorem dX11_set_44 : decode cX11_set 44 = .ok (.aload_n 0, 1) := by decide +kernel
theorem dX11_set_45 : decode cX11_set 45 = .ok (.iconst 2, 1) := by decide +kernel
theorem dX11_set_46 : decode cX11_set 46 = .ok (.invokevirtual 83, 3) := by decide +kernel
theorem dX11_set_49 : decode cX11_set 49 = .ok (.ireturn, 1) := by decide +kernel
theorem dX11_set_50 : decode cX11_set 50 = .ok (.aload_n 0, 1) := by decide +kernel
theorem dX11_set_51 : decode cX11_set 51 = .ok (.aload_n 0, 1) := by decide +kernel
theorem dX11_set_52 : decode cX11_set 52 = .ok (.getfield 10, 3) := by decide +kernel
theorem dX11_set_55 : decode cX11_set 55 = .ok (.iload_n 1, 1) := by decide +kernel
theorem dX11_set_56 : decode cX11_set 56 = .ok (.iload_n 2, 1) := by decide +kernel
theorem dX11_set_57 : decode cX11_set 57 = .ok (.iload_n 3, 1) := by decide +kernel
theorem dX11_set_58 : decode cX11_set 58 = .ok (.invokevirtual 101, 3) := by decide +kernel
theorem dX11_set_61 : decode cX11_set 61 = .ok (.invokevirtual 91, 3) := by decide +kernel
theorem dX11_set_64 : decode cX11_set 64 = .ok (.ireturn, 1) := by decide +kernel
theorem dX11_copy_0 : decode cX11_copy 0 = .ok (.aload_n 0, 1) := by decide +kernel
theorem dX11_copy_1 : decode cX11_copy 1 = .ok (.getfield 10, 3) := by decide +kernel
theorem dX11_copy_4 : decode cX11_copy 4 = .ok (.iload_n 1, 1) := by decide +kernel
theorem dX11_copy_5 : decode cX11_copy 5 = .ok (.invokevirtual 78, 3) := by decide +kernel
theorem dX11_copy_8 : decode cX11_copy 8 = .ok (.ifCond .eq 14, 3) := by decide +kernel
theorem dX11_copy_11 : decode cX11_copy 11 = .ok (.aload_n 0, 1) := by decide +kernel
theorem dX11_copy_12 : decode cX11_copy 12 = .ok (.getfield 10, 3) := by decide +kernel
theorem dX11_copy_15 : decode cX11_copy 15 = .ok (.iload_n 3, 1) := by decide +kernel
theorem dX11_copy_16 : decode cX11_copy 16 = .ok (.invokevirtual 78, 3) := by decide +kernel
theorem dX11_copy_19 : decode cX11_copy 19 = .ok (.ifCond .ne 6, 3) := by decide +kernel
theorem dX11_copy_22 : decode cX11_copy 22 = .ok (.ldc 82, 2) := by decide +kernel
theorem dX11_copy_24 : decode cX11_copy 24 = .ok (.ireturn, 1) := by decide +kernel
theorem dX11_copy_25 : decode cX11_copy 25 = .ok (.aload_n 0, 1) := by decide +kernel
theorem dX11_copy_26 : decode cX11_copy 26 = .ok (.getfield 10, 3) := by decide +kernel
theorem dX11_copy_29 : decode cX11_copy 29 = .ok (.iload_n 1, 1) := by decide +kernel
theorem dX11_copy_30 : decode cX11_copy 30 = .ok (.invokevirtual 94, 3) := by decide +kernel
theorem dX11_copy_33 : decode cX11_copy 33 = .ok (.ifCond .ne 14, 3) := by decide +kernel
theorem dX11_copy_36 : decode cX11_copy 36 = .ok (.aload_n 0, 1) := by decide +kernel
theorem dX11_copy_37 : decode cX11_copy 37 = .ok (.getfield 10, 3) := by decide +kernel
theorem dX11_copy_40 : decode cX11_copy 40 = .ok (.iload_n 3, 1) := by decide +kernel
theorem dX11_copy_41 : decode cX11_copy 41 = .ok (.invokevirtual 94, 3) := by decide +kernel
theorem dX11_copy_44 : decode cX11_copy 44 = .ok (.ifCond .eq 9, 3) := by decide +kernel
theorem dX11_copy_47 : decode cX11_copy 47 = .ok (.aload_n 0, 1) := by decide +kernel
theorem dX11_copy_48 : decode cX11_copy 48 = .ok (.iconst 1, 1) := by decide +kernel
theorem dX11_copy_49 : decode cX11_copy 49 = .ok (.invokevirtual 83, 3) := by decide +kernel
theorem dX11_copy_52 : decode cX11_copy 52 = .ok (.ireturn, 1) := by decide +kernel
theorem dX11_copy_53 : decode cX11_copy 53 = .ok (.aload_n 0, 1) := by decide +kernel
theorem dX11_copy_54 : decode cX11_copy 54 = .ok (.getfield 10, 3) := by decide +kernel
theorem dX11_copy_57 : decode cX11_copy 57 = .ok (.getfield 105, 3) := by decide +kernel
theorem dX11_copy_60 : decode cX11_copy 60 = .ok (.iload_n 1, 1) := by decide +kernel
theorem dX11_copy_61 : decode cX11_copy 61 = .ok (.iaload, 1) := by decide +kernel
theorem dX11_copy_62 : decode cX11_copy 62 = .ok (.aload_n 0, 1) := by decide +kernel
theorem dX11_copy_63 : decode cX11_copy 63 = .ok (.getfield 10, 3) := by decide +kernel
theorem dX11_copy_66 : decode cX11_copy 66 = .ok (.getfield 105, 3) := by decide +kernel
theorem dX11_copy_69 : decode cX11_copy 69 = .ok (.iload_n 3, 1) := by decide +kernel
theorem dX11_copy_70 : decode cX11_copy 70 = .ok (.iaload, 1) := by decide +kernel
theorem dX11_copy_71 : decode cX11_copy 71 = .ok (.if_icmp .eq 9, 3) := by decide +kernel
theorem dX11_copy_74 : decode cX11_copy 74 = .ok (.aload_n 0, 1) := by decide +kernel
theorem dX11_copy_75 : decode cX11_copy 75 = .ok (.iconst 5, 1) := by decide +kernel
theorem dX11_copy_76 : decode cX11_copy 76 = .ok (.invokevirtual 83, 3) := by decide +kernel
theorem dX11_copy_79 : decode cX11_copy 79 = .ok (.ireturn, 1) := by decide +kernel
theorem dX11_copy_80 : decode cX11_copy 80 = .ok (.aload_n 0, 1) := by decide +kernel
theorem dX11_copy_81 : decode cX11_copy 81 = .ok (.getfield 10, 3) := by decide +kernel
theorem dX11_copy_84 : decode cX11_copy 84 = .ok (.iload_n 1, 1) := by decide +kernel
theorem dX11_copy_85 : decode cX11_copy 85 = .ok (.iload_n 2, 1) := by decide +kernel
theorem dX11_copy_86 : decode cX11_copy 86 = .ok (.iload 5, 2) := by decide +kernel
theorem dX11_copy_88 : decode cX11_copy 88 = .ok (.invokevirtual 97, 3) := by decide +kernel
theorem dX11_copy_91 : decode cX11_copy 91 = .ok (.ifCond .eq 18, 3) := by decide +kernel
theorem dX11_copy_94 : decode cX11_copy 94 = .ok (.aload_n 0, 1) := by decide +kernel
theorem dX11_copy_95 : decode cX11_copy 95 = .ok (.getfield 10, 3) := by decide +kernel
theorem dX11_copy_98 : decode cX11_copy 98 = .ok (.iload_n 3, 1) := by decide +kernel
theorem dX11_copy_99 : decode cX11_copy 99 = .ok (.iload 4, 2) := by decide +kernel
theorem dX11_copy_101 : decode cX11_copy 101 = .ok (.iload 5, 2) := by decide +kernel
theorem dX11_copy_103 : decode cX11_copy 103 = .ok (.invokevirtual 97, 3) := by decide +kernel
theorem dX11_copy_106 : decode cX11_copy 106 = .ok (.ifCond .ne 9, 3) := by decide +kernel
theorem dX11_copy_109 : decode cX11_copy 109 = .ok (.aload_n 0, 1) := by decide +kernel
theorem dX11_copy_110 : decode cX11_copy 110 = .ok (.iconst 2, 1) := by decide +kernel
theorem dX11_copy_111 : decode cX11_copy 111 = .ok (.invokevirtual 83, 3) := by decide +kernel
theorem dX11_copy_114 : decode cX11_copy 114 = .ok (.ireturn, 1) := by decide +kernel
theorem dX11_copy_115 : decode cX11_copy 115 = .ok (.aload_n 0, 1) := by decide +kernel
theorem dX11_copy_116 : decode cX11_copy 116 = .ok (.getfield 10, 3) := by decide +kernel
theorem dX11_copy_119 : decode cX11_copy 119 = .ok (.getfield 109, 3) := by decide +kernel
theorem dX11_copy_122 : decode cX11_copy 122 = .ok (.iload_n 1, 1) := by decide +kernel
theorem dX11_copy_123 : decode cX11_copy 123 = .ok (.aaload, 1) := by decide +kernel
theorem dX11_copy_124 : decode cX11_copy 124 = .ok (.iload_n 2, 1) := by decide +kernel
theorem dX11_copy_125 : decode cX11_copy 125 = .ok (.aload_n 0, 1) := by decide +kernel
theorem dX11_copy_126 : decode cX11_copy 126 = .ok (.getfield 10, 3) := by decide +kernel
theorem dX11_copy_129 : decode cX11_copy 129 = .ok (.getfield 109, 3) := by decide +kernel
theorem dX11_copy_132 : decode cX11_copy 132 = .ok (.iload_n 3, 1) := by decide +kernel
theorem dX11_copy_133 : decode cX11_copy 133 = .ok (.aaload, 1) := by decide +kernel
theorem dX11_copy_134 : decode cX11_copy 134 = .ok (.iload 4, 2) := by decide +kernel
theorem dX11_copy_136 : decode cX11_copy 136 = .ok (.iload 5, 2) := by decide +kernel
theorem dX11_copy_138 : decode cX11_copy 138 = .ok (.invokestatic 113, 3) := by decide +kernel
theorem dX11_copy_141 : decode cX11_copy 141 = .ok (.aload_n 0, 1) := by decide +kernel
theorem dX11_copy_142 : decode cX11_copy 142 = .ok (.iload 5, 2) := by decide +kernel
theorem dX11_copy_144 : decode cX11_copy 144 = .ok (.invokevirtual 91, 3) := by decide +kernel
theorem dX11_copy_147 : decode cX11_copy 147 = .ok (.ireturn, 1) := by decide +kernel
theorem dX11_drop_0 : decode cX11_drop 0 = .ok (.aload_n 0, 1) := by decide +kernel
theorem dX11_drop_1 : decode cX11_drop 1 = .ok (.getfield 10, 3) := by decide +kernel
theorem dX11_drop_4 : decode cX11_drop 4 = .ok (.iload_n 1, 1) := by decide +kernel
theorem dX11_drop_5 : decode cX11_drop 5 = .ok (.invokevirtual 78, 3) := by decide +kernel
theorem dX11_drop_8 : decode cX11_drop 8 = .ok (.ifCond .ne 6, 3) := by decide +kernel
theorem dX11_drop_11 : decode cX11_drop 11 = .ok (.ldc 82, 2) := by decide +kernel
theorem dX11_drop_13 : decode cX11_drop 13 = .ok (.ireturn, 1) := by decide +kernel
theorem dX11_drop_14 : decode cX11_drop 14 = .ok (.aload_n 0, 1) := by decide +kernel
theorem dX11_drop_15 : decode cX11_drop 15 = .ok (.getfield 10, 3) := by decide +kernel
theorem dX11_drop_18 : decode cX11_drop 18 = .ok (.iload_n 1, 1) := by decide +kernel
theorem dX11_drop_19 : decode cX11_drop 19 = .ok (.invokevirtual 94, 3) := by decide +kernel
theorem dX11_drop_22 : decode cX11_drop 22 = .ok (.ifCond .eq 9, 3) := by decide +kernel
theorem dX11_drop_25 : decode cX11_drop 25 = .ok (.aload_n 0, 1) := by decide +kernel
theorem dX11_drop_26 : decode cX11_drop 26 = .ok (.iconst 1, 1) := by decide +kernel
theorem dX11_drop_27 : decode cX11_drop 27 = .ok (.invokevirtual 83, 3) := by decide +kernel
theorem dX11_drop_30 : decode cX11_drop 30 = .ok (.ireturn, 1) := by decide +kernel
theorem dX11_drop_31 : decode cX11_drop 31 = .ok (.aload_n 0, 1) := by decide +kernel
theorem dX11_drop_32 : decode cX11_drop 32 = .ok (.aload_n 0, 1) := by decide +kernel
theorem dX11_drop_33 : decode cX11_drop 33 = .ok (.getfield 10, 3) := by decide +kernel
theorem dX11_drop_36 : decode cX11_drop 36 = .ok (.iload_n 1, 1) := by decide +kernel
theorem dX11_drop_37 : decode cX11_drop 37 = .ok (.invokevirtual 119, 3) := by decide +kernel
theorem dX11_drop_40 : decode cX11_drop 40 = .ok (.invokevirtual 91, 3) := by decide +kernel
theorem dX11_drop_43 : decode cX11_drop 43 = .ok (.ireturn, 1) := by decide +kernel
theorem dX11_feed_0 : decode cX11_feed 0 = .ok (.iload_n 3, 1) := by decide +kernel
theorem dX11_feed_1 : decode cX11_feed 1 = .ok (.iconst 1, 1) := by decide +kernel
theorem dX11_feed_2 : decode cX11_feed 2 = .ok (.if_icmp .lt 9, 3) := by decide +kernel
theorem dX11_feed_5 : decode cX11_feed 5 = .ok (.iload_n 3, 1) := by decide +kernel
theorem dX11_feed_6 : decode cX11_feed 6 = .ok (.bipush 8, 2) := by decide +kernel
theorem dX11_feed_8 : decode cX11_feed 8 = .ok (.if_icmp .le 6, 3) := by decide +kernel
theorem dX11_feed_11 : decode cX11_feed 11 = .ok (.ldc 82, 2) := by decide +kernel
theorem dX11_feed_13 : decode cX11_feed 13 = .ok (.ireturn, 1) := by decide +kernel
theorem dX11_feed_14 : decode cX11_feed 14 = .ok (.aload_n 0, 1) := by decide +kernel
theorem dX11_feed_15 : decode cX11_feed 15 = .ok (.getfield 19, 3) := by decide +kernel
theorem dX11_feed_18 : decode cX11_feed 18 = .ok (.iload_n 3, 1) := by decide +kernel
theorem dX11_feed_19 : decode cX11_feed 19 = .ok (.invokevirtual 122, 3) := by decide +kernel
theorem dX11_feed_22 : decode cX11_feed 22 = .ok (.ifCond .ne 6, 3) := by decide +kernel
theorem dX11_feed_25 : decode cX11_feed 25 = .ok (.ldc 125, 2) := by decide +kernel
theorem dX11_feed_27 : decode cX11_feed 27 = .ok (.ireturn, 1) := by decide +kernel
theorem dX11_feed_28 : decode cX11_feed 28 = .ok (.aload_n 0, 1) := by decide +kernel
theorem dX11_feed_29 : decode cX11_feed 29 = .ok (.getfield 19, 3) := by decide +kernel
theorem dX11_feed_32 : decode cX11_feed 32 = .ok (.lload_n 1, 1) := by decide +kernel
theorem dX11_feed_33 : decode cX11_feed 33 = .ok (.iload_n 3, 1) := by decide +kernel
theorem dX11_feed_34 : decode cX11_feed 34 = .ok (.invokevirtual 126, 3) := by decide +kernel
theorem dX11_feed_37 : decode cX11_feed 37 = .ok (.aload_n 0, 1) := by decide +kernel
theorem dX11_feed_38 : decode cX11_feed 38 = .ok (.getfield 19, 3) := by decide +kernel
theorem dX11_feed_41 : decode cX11_feed 41 = .ok (.getfield 130, 3) := by decide +kernel
theorem dX11_feed_44 : decode cX11_feed 44 = .ok (.ireturn, 1) := by decide +kernel
theorem dX11_book_0 : decode cX11_book 0 = .ok (.aload_n 0, 1) := by decide +kernel
theorem dX11_book_1 : decode cX11_book 1 = .ok (.getfield 19, 3) := by decide +kernel
theorem dX11_book_4 : decode cX11_book 4 = .ok (.aload_n 0, 1) := by decide +kernel
theorem dX11_book_5 : decode cX11_book 5 = .ok (.getfield 34, 3) := by decide +kernel
theorem dX11_book_8 : decode cX11_book 8 = .ok (.invokevirtual 134, 3) := by decide +kernel
theorem dX11_book_11 : decode cX11_book 11 = .ok (.aload_n 0, 1) := by decide +kernel
theorem dX11_book_12 : decode cX11_book 12 = .ok (.getfield 19, 3) := by decide +kernel
theorem dX11_book_15 : decode cX11_book 15 = .ok (.getfield 138, 3) := by decide +kernel
theorem dX11_book_18 : decode cX11_book 18 = .ok (.ifCond .eq 25, 3) := by decide +kernel
theorem dX11_book_21 : decode cX11_book 21 = .ok (.aload_n 0, 1) := by decide +kernel
theorem dX11_book_22 : decode cX11_book 22 = .ok (.aload_n 0, 1) := by decide +kernel
theorem dX11_book_23 : decode cX11_book 23 = .ok (.getfield 19, 3) := by decide +kernel
theorem dX11_book_26 : decode cX11_book 26 = .ok (.getfield 138, 3) := by decide +kernel
theorem dX11_book_29 : decode cX11_book 29 = .ok (.putfield 141, 3) := by decide +kernel
theorem dX11_book_32 : decode cX11_book 32 = .ok (.ldc 142, 2) := by decide +kernel
theorem dX11_book_34 : decode cX11_book 34 = .ok (.aload_n 0, 1) := by decide +kernel
theorem dX11_book_35 : decode cX11_book 35 = .ok (.getfield 19, 3) := by decide +kernel
theorem dX11_book_38 : decode cX11_book 38 = .ok (.getfield 143, 3) := by decide +kernel
theorem dX11_book_41 : decode cX11_book 41 = .ok (.isub, 1) := by decide +kernel
theorem dX11_book_42 : decode cX11_book 42 = .ok (.ireturn, 1) := by decide +kernel
theorem dX11_book_43 : decode cX11_book 43 = .ok (.aload_n 0, 1) := by decide +kernel
theorem dX11_book_44 : decode cX11_book 44 = .ok (.getfield 34, 3) := by decide +kernel
theorem dX11_book_47 : decode cX11_book 47 = .ok (.astore_n 1, 1) := by decide +kernel
theorem dX11_book_48 : decode cX11_book 48 = .ok (.aload_n 0, 1) := by decide +kernel
theorem dX11_book_49 : decode cX11_book 49 = .ok (.aload_n 0, 1) := by decide +kernel
theorem dX11_book_50 : decode cX11_book 50 = .ok (.getfield 30, 3) := by decide +kernel
theorem dX11_book_53 : decode cX11_book 53 = .ok (.putfield 34, 3) := by decide +kernel
theorem dX11_book_56 : decode cX11_book 56 = .ok (.aload_n 0, 1) := by decide +kernel
theorem dX11_book_57 : decode cX11_book 57 = .ok (.aload_n 1, 1) := by decide +kernel
theorem dX11_book_58 : decode cX11_book 58 = .ok (.putfield 30, 3) := by decide +kernel
theorem dX11_book_61 : decode cX11_book 61 = .ok (.aload_n 0, 1) := by decide +kernel
theorem dX11_book_62 : decode cX11_book 62 = .ok (.invokevirtual 146, 3) := by decide +kernel
theorem dX11_book_65 : decode cX11_book 65 = .ok (.aload_n 0, 1) := by decide +kernel
theorem dX11_book_66 : decode cX11_book 66 = .ok (.getfield 30, 3) := by decide +kernel
theorem dX11_book_69 : decode cX11_book 69 = .ok (.getfield 149, 3) := by decide +kernel
theorem dX11_book_72 : decode cX11_book 72 = .ok (.ireturn, 1) := by decide +kernel
theorem dX11_fault_0 : decode cX11_fault 0 = .ok (.aload_n 0, 1) := by decide +kernel
theorem dX11_fault_1 : decode cX11_fault 1 = .ok (.getfield 141, 3) := by decide +kernel
theorem dX11_fault_4 : decode cX11_fault 4 = .ok (.ireturn, 1) := by decide +kernel
theorem dX11_dish_0 : decode cX11_dish 0 = .ok (.iload_n 1, 1) := by decide +kernel
theorem dX11_dish_1 : decode cX11_dish 1 = .ok (.ifCond .lt 14, 3) := by decide +kernel
theorem dX11_dish_4 : decode cX11_dish 4 = .ok (.iload_n 1, 1) := by decide +kernel
theorem dX11_dish_5 : decode cX11_dish 5 = .ok (.aload_n 0, 1) := by decide +kernel
theorem dX11_dish_6 : decode cX11_dish 6 = .ok (.getfield 30, 3) := by decide +kernel
theorem dX11_dish_9 : decode cX11_dish 9 = .ok (.getfield 149, 3) := by decide +kernel
theorem dX11_dish_12 : decode cX11_dish 12 = .ok (.if_icmp .lt 6, 3) := by decide +kernel
theorem dX11_dish_15 : decode cX11_dish 15 = .ok (.ldc 82, 2) := by decide +kernel
theorem dX11_dish_17 : decode cX11_dish 17 = .ok (.ireturn, 1) := by decide +kernel
theorem dX11_dish_18 : decode cX11_dish 18 = .ok (.iload_n 2, 1) := by decide +kernel
theorem dX11_dish_19 : decode cX11_dish 19 = .ok (.tableswitch 123 0 5 #[37, 47, 57, 67, 77, 87], 37) := by decide +kernel
theorem dX11_dish_56 : decode cX11_dish 56 = .ok (.aload_n 0, 1) := by decide +kernel
theorem dX11_dish_57 : decode cX11_dish 57 = .ok (.getfield 30, 3) := by decide +kernel
theorem dX11_dish_60 : decode cX11_dish 60 = .ok (.getfield 152, 3) := by decide +kernel
theorem dX11_dish_63 : decode cX11_dish 63 = .ok (.iload_n 1, 1) := by decide +kernel
theorem dX11_dish_64 : decode cX11_dish 64 = .ok (.iaload, 1) := by decide +kernel
theorem dX11_dish_65 : decode cX11_dish 65 = .ok (.ireturn, 1) := by decide +kernel
theorem dX11_dish_66 : decode cX11_dish 66 = .ok (.aload_n 0, 1) := by decide +kernel
theorem dX11_dish_67 : decode cX11_dish 67 = .ok (.getfield 30, 3) := by decide +kernel
theorem dX11_dish_70 : decode cX11_dish 70 = .ok (.getfield 155, 3) := by decide +kernel
theorem dX11_dish_73 : decode cX11_dish 73 = .ok (.iload_n 1, 1) := by decide +kernel
theorem dX11_dish_74 : decode cX11_dish 74 = .ok (.iaload, 1) := by decide +kernel
theorem dX11_dish_75 : decode cX11_dish 75 = .ok (.ireturn, 1) := by decide +kernel
theorem dX11_dish_76 : decode cX11_dish 76 = .ok (.aload_n 0, 1) := by decide +kernel
theorem dX11_dish_77 : decode cX11_dish 77 = .ok (.getfield 30, 3) := by decide +kernel
theorem dX11_dish_80 : decode cX11_dish 80 = .ok (.getfield 158, 3) := by decide +kernel
theorem dX11_dish_83 : decode cX11_dish 83 = .ok (.iload_n 1, 1) := by decide +kernel
theorem dX11_dish_84 : decode cX11_dish 84 = .ok (.iaload, 1) := by decide +kernel
theorem dX11_dish_85 : decode cX11_dish 85 = .ok (.ireturn, 1) := by decide +kernel
theorem dX11_dish_86 : decode cX11_dish 86 = .ok (.aload_n 0, 1) := by decide +kernel
theorem dX11_dish_87 : decode cX11_dish 87 = .ok (.getfield 30, 3) := by decide +kernel
theorem dX11_dish_90 : decode cX11_dish 90 = .ok (.getfield 161, 3) := by decide +kernel
theorem dX11_dish_93 : decode cX11_dish 93 = .ok (.iload_n 1, 1) := by decide +kernel
theorem dX11_dish_94 : decode cX11_dish 94 = .ok (.iaload, 1) := by decide +kernel
theorem dX11_dish_95 : decode cX11_dish 95 = .ok (.ireturn, 1) := by decide +kernel
theorem dX11_dish_96 : decode cX11_dish 96 = .ok (.aload_n 0, 1) := by decide +kernel
theorem dX11_dish_97 : decode cX11_dish 97 = .ok (.getfield 30, 3) := by decide +kernel
theorem dX11_dish_100 : decode cX11_dish 100 = .ok (.getfield 164, 3) := by decide +kernel
theorem dX11_dish_103 : decode cX11_dish 103 = .ok (.iload_n 1, 1) := by decide +kernel
theorem dX11_dish_104 : decode cX11_dish 104 = .ok (.iaload, 1) := by decide +kernel
theorem dX11_dish_105 : decode cX11_dish 105 = .ok (.ireturn, 1) := by decide +kernel
theorem dX11_dish_106 : decode cX11_dish 106 = .ok (.aload_n 0, 1) := by decide +kernel
theorem dX11_dish_107 : decode cX11_dish 107 = .ok (.getfield 30, 3) := by decide +kernel
theorem dX11_dish_110 : decode cX11_dish 110 = .ok (.getfield 152, 3) := by decide +kernel
theorem dX11_dish_113 : decode cX11_dish 113 = .ok (.iload_n 1, 1) := by decide +kernel
theorem dX11_dish_114 : decode cX11_dish 114 = .ok (.iaload, 1) := by decide +kernel
