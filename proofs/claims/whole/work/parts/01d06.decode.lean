theorem dX11_dish_115 : decode cX11_dish 115 = .ok (.iconst 1, 1) := by decide +kernel
theorem dX11_dish_116 : decode cX11_dish 116 = .ok (.iadd, 1) := by decide +kernel
theorem dX11_dish_117 : decode cX11_dish 117 = .ok (.aload_n 0, 1) := by decide +kernel
theorem dX11_dish_118 : decode cX11_dish 118 = .ok (.getfield 30, 3) := by decide +kernel
theorem dX11_dish_121 : decode cX11_dish 121 = .ok (.iload_n 1, 1) := by decide +kernel
theorem dX11_dish_122 : decode cX11_dish 122 = .ok (.iconst 0, 1) := by decide +kernel
theorem dX11_dish_123 : decode cX11_dish 123 = .ok (.invokevirtual 167, 3) := by decide +kernel
theorem dX11_dish_126 : decode cX11_dish 126 = .ok (.iconst 1, 1) := by decide +kernel
theorem dX11_dish_127 : decode cX11_dish 127 = .ok (.iadd, 1) := by decide +kernel
theorem dX11_dish_128 : decode cX11_dish 128 = .ok (.imul, 1) := by decide +kernel
theorem dX11_dish_129 : decode cX11_dish 129 = .ok (.aload_n 0, 1) := by decide +kernel
theorem dX11_dish_130 : decode cX11_dish 130 = .ok (.getfield 30, 3) := by decide +kernel
theorem dX11_dish_133 : decode cX11_dish 133 = .ok (.iload_n 1, 1) := by decide +kernel
theorem dX11_dish_134 : decode cX11_dish 134 = .ok (.iconst 1, 1) := by decide +kernel
theorem dX11_dish_135 : decode cX11_dish 135 = .ok (.invokevirtual 167, 3) := by decide +kernel
theorem dX11_dish_138 : decode cX11_dish 138 = .ok (.iconst 1, 1) := by decide +kernel
theorem dX11_dish_139 : decode cX11_dish 139 = .ok (.iadd, 1) := by decide +kernel
theorem dX11_dish_140 : decode cX11_dish 140 = .ok (.imul, 1) := by decide +kernel
theorem dX11_dish_141 : decode cX11_dish 141 = .ok (.ireturn, 1) := by decide +kernel
theorem dX11_dish_142 : decode cX11_dish 142 = .ok (.ldc 82, 2) := by decide +kernel
theorem dX11_dish_144 : decode cX11_dish 144 = .ok (.ireturn, 1) := by decide +kernel
theorem dX11_step_0 : decode cX11_step 0 = .ok (.aload_n 0, 1) := by decide +kernel
theorem dX11_step_1 : decode cX11_step 1 = .ok (.getfield 30, 3) := by decide +kernel
theorem dX11_step_4 : decode cX11_step 4 = .ok (.iload_n 1, 1) := by decide +kernel
theorem dX11_step_5 : decode cX11_step 5 = .ok (.invokevirtual 171, 3) := by decide +kernel
theorem dX11_step_8 : decode cX11_step 8 = .ok (.ifCond .ne 6, 3) := by decide +kernel
theorem dX11_step_11 : decode cX11_step 11 = .ok (.ldc 82, 2) := by decide +kernel
theorem dX11_step_13 : decode cX11_step 13 = .ok (.ireturn, 1) := by decide +kernel
theorem dX11_step_14 : decode cX11_step 14 = .ok (.iload_n 2, 1) := by decide +kernel
theorem dX11_step_15 : decode cX11_step 15 = .ok (.tableswitch 83 0 4 #[33, 43, 53, 63, 73], 33) := by decide +kernel
theorem dX11_step_48 : decode cX11_step 48 = .ok (.aload_n 0, 1) := by decide +kernel
theorem dX11_step_49 : decode cX11_step 49 = .ok (.getfield 30, 3) := by decide +kernel
theorem dX11_step_52 : decode cX11_step 52 = .ok (.getfield 174, 3) := by decide +kernel
theorem dX11_step_55 : decode cX11_step 55 = .ok (.iload_n 1, 1) := by decide +kernel
theorem dX11_step_56 : decode cX11_step 56 = .ok (.iaload, 1) := by decide +kernel
theorem dX11_step_57 : decode cX11_step 57 = .ok (.ireturn, 1) := by decide +kernel
theorem dX11_step_58 : decode cX11_step 58 = .ok (.aload_n 0, 1) := by decide +kernel
theorem dX11_step_59 : decode cX11_step 59 = .ok (.getfield 30, 3) := by decide +kernel
theorem dX11_step_62 : decode cX11_step 62 = .ok (.getfield 177, 3) := by decide +kernel
theorem dX11_step_65 : decode cX11_step 65 = .ok (.iload_n 1, 1) := by decide +kernel
theorem dX11_step_66 : decode cX11_step 66 = .ok (.iaload, 1) := by decide +kernel
theorem dX11_step_67 : decode cX11_step 67 = .ok (.ireturn, 1) := by decide +kernel
theorem dX11_step_68 : decode cX11_step 68 = .ok (.aload_n 0, 1) := by decide +kernel
theorem dX11_step_69 : decode cX11_step 69 = .ok (.getfield 30, 3) := by decide +kernel
theorem dX11_step_72 : decode cX11_step 72 = .ok (.getfield 180, 3) := by decide +kernel
theorem dX11_step_75 : decode cX11_step 75 = .ok (.iload_n 1, 1) := by decide +kernel
theorem dX11_step_76 : decode cX11_step 76 = .ok (.iaload, 1) := by decide +kernel
theorem dX11_step_77 : decode cX11_step 77 = .ok (.ireturn, 1) := by decide +kernel
theorem dX11_step_78 : decode cX11_step 78 = .ok (.aload_n 0, 1) := by decide +kernel
theorem dX11_step_79 : decode cX11_step 79 = .ok (.getfield 30, 3) := by decide +kernel
theorem dX11_step_82 : decode cX11_step 82 = .ok (.getfield 183, 3) := by decide +kernel
theorem dX11_step_85 : decode cX11_step 85 = .ok (.iload_n 1, 1) := by decide +kernel
theorem dX11_step_86 : decode cX11_step 86 = .ok (.iaload, 1) := by decide +kernel
theorem dX11_step_87 : decode cX11_step 87 = .ok (.ireturn, 1) := by decide +kernel
theorem dX11_step_88 : decode cX11_step 88 = .ok (.aload_n 0, 1) := by decide +kernel
theorem dX11_step_89 : decode cX11_step 89 = .ok (.getfield 30, 3) := by decide +kernel
theorem dX11_step_92 : decode cX11_step 92 = .ok (.getfield 186, 3) := by decide +kernel
theorem dX11_step_95 : decode cX11_step 95 = .ok (.iload_n 1, 1) := by decide +kernel
theorem dX11_step_96 : decode cX11_step 96 = .ok (.iaload, 1) := by decide +kernel
theorem dX11_step_97 : decode cX11_step 97 = .ok (.ireturn, 1) := by decide +kernel
theorem dX11_step_98 : decode cX11_step 98 = .ok (.ldc 82, 2) := by decide +kernel
theorem dX11_step_100 : decode cX11_step 100 = .ok (.ireturn, 1) := by decide +kernel
theorem dX11_gives_0 : decode cX11_gives 0 = .ok (.aload_n 0, 1) := by decide +kernel
theorem dX11_gives_1 : decode cX11_gives 1 = .ok (.getfield 30, 3) := by decide +kernel
theorem dX11_gives_4 : decode cX11_gives 4 = .ok (.invokevirtual 189, 3) := by decide +kernel
theorem dX11_gives_7 : decode cX11_gives 7 = .ok (.ifCond .ne 6, 3) := by decide +kernel
theorem dX11_gives_10 : decode cX11_gives 10 = .ok (.ldc 193, 2) := by decide +kernel
theorem dX11_gives_12 : decode cX11_gives 12 = .ok (.ireturn, 1) := by decide +kernel
theorem dX11_gives_13 : decode cX11_gives 13 = .ok (.iload_n 1, 1) := by decide +kernel
theorem dX11_gives_14 : decode cX11_gives 14 = .ok (.invokestatic 194, 3) := by decide +kernel
theorem dX11_gives_17 : decode cX11_gives 17 = .ok (.ifCond .eq 12, 3) := by decide +kernel
theorem dX11_gives_20 : decode cX11_gives 20 = .ok (.iload_n 2, 1) := by decide +kernel
theorem dX11_gives_21 : decode cX11_gives 21 = .ok (.ifCond .lt 8, 3) := by decide +kernel
theorem dX11_gives_24 : decode cX11_gives 24 = .ok (.iload_n 2, 1) := by decide +kernel
theorem dX11_gives_25 : decode cX11_gives 25 = .ok (.iconst 5, 1) := by decide +kernel
theorem dX11_gives_26 : decode cX11_gives 26 = .ok (.if_icmp .lt 6, 3) := by decide +kernel
theorem dX11_gives_29 : decode cX11_gives 29 = .ok (.ldc 82, 2) := by decide +kernel
theorem dX11_gives_31 : decode cX11_gives 31 = .ok (.ireturn, 1) := by decide +kernel
theorem dX11_gives_32 : decode cX11_gives 32 = .ok (.aload_n 0, 1) := by decide +kernel
theorem dX11_gives_33 : decode cX11_gives 33 = .ok (.getfield 30, 3) := by decide +kernel
theorem dX11_gives_36 : decode cX11_gives 36 = .ok (.iload_n 1, 1) := by decide +kernel
theorem dX11_gives_37 : decode cX11_gives 37 = .ok (.iload_n 2, 1) := by decide +kernel
theorem dX11_gives_38 : decode cX11_gives 38 = .ok (.invokevirtual 197, 3) := by decide +kernel
theorem dX11_gives_41 : decode cX11_gives 41 = .ok (.ireturn, 1) := by decide +kernel
theorem dX11_dinner_0 : decode cX11_dinner 0 = .ok (.iload_n 1, 1) := by decide +kernel
theorem dX11_dinner_1 : decode cX11_dinner 1 = .ok (.invokestatic 200, 3) := by decide +kernel
theorem dX11_dinner_4 : decode cX11_dinner 4 = .ok (.istore_n 2, 1) := by decide +kernel
theorem dX11_dinner_5 : decode cX11_dinner 5 = .ok (.iload_n 2, 1) := by decide +kernel
theorem dX11_dinner_6 : decode cX11_dinner 6 = .ok (.iconst 1, 1) := by decide +kernel
theorem dX11_dinner_7 : decode cX11_dinner 7 = .ok (.if_icmp .lt 22, 3) := by decide +kernel
theorem dX11_dinner_10 : decode cX11_dinner 10 = .ok (.iload_n 2, 1) := by decide +kernel
theorem dX11_dinner_11 : decode cX11_dinner 11 = .ok (.iconst 4, 1) := by decide +kernel
theorem dX11_dinner_12 : decode cX11_dinner 12 = .ok (.if_icmp .gt 17, 3) := by decide +kernel
theorem dX11_dinner_15 : decode cX11_dinner 15 = .ok (.iload_n 1, 1) := by decide +kernel
theorem dX11_dinner_16 : decode cX11_dinner 16 = .ok (.aload_n 0, 1) := by decide +kernel
theorem dX11_dinner_17 : decode cX11_dinner 17 = .ok (.getfield 30, 3) := by decide +kernel
theorem dX11_dinner_20 : decode cX11_dinner 20 = .ok (.invokevirtual 205, 3) := by decide +kernel
theorem dX11_dinner_23 : decode cX11_dinner 23 = .ok (.iconst (-1), 1) := by decide +kernel
theorem dX11_dinner_24 : decode cX11_dinner 24 = .ok (.ixor, 1) := by decide +kernel
theorem dX11_dinner_25 : decode cX11_dinner 25 = .ok (.iand, 1) := by decide +kernel
theorem dX11_dinner_26 : decode cX11_dinner 26 = .ok (.ifCond .eq 6, 3) := by decide +kernel
theorem dX11_dinner_29 : decode cX11_dinner 29 = .ok (.ldc 82, 2) := by decide +kernel
theorem dX11_dinner_31 : decode cX11_dinner 31 = .ok (.ireturn, 1) := by decide +kernel
theorem dX11_dinner_32 : decode cX11_dinner 32 = .ok (.aload_n 0, 1) := by decide +kernel
theorem dX11_dinner_33 : decode cX11_dinner 33 = .ok (.getfield 30, 3) := by decide +kernel
theorem dX11_dinner_36 : decode cX11_dinner 36 = .ok (.iload_n 1, 1) := by decide +kernel
theorem dX11_dinner_37 : decode cX11_dinner 37 = .ok (.putfield 209, 3) := by decide +kernel
theorem dX11_dinner_40 : decode cX11_dinner 40 = .ok (.aload_n 0, 1) := by decide +kernel
theorem dX11_dinner_41 : decode cX11_dinner 41 = .ok (.invokevirtual 146, 3) := by decide +kernel
theorem dX11_dinner_44 : decode cX11_dinner 44 = .ok (.iload_n 2, 1) := by decide +kernel
theorem dX11_dinner_45 : decode cX11_dinner 45 = .ok (.ireturn, 1) := by decide +kernel
theorem dX11_out_0 : decode cX11_out 0 = .ok (.iload_n 1, 1) := by decide +kernel
theorem dX11_out_1 : decode cX11_out 1 = .ok (.ifCond .lt 9, 3) := by decide +kernel
theorem dX11_out_4 : decode cX11_out 4 = .ok (.iload_n 1, 1) := by decide +kernel
theorem dX11_out_5 : decode cX11_out 5 = .ok (.bipush 60, 2) := by decide +kernel
theorem dX11_out_7 : decode cX11_out 7 = .ok (.if_icmp .le 6, 3) := by decide +kernel
theorem dX11_out_10 : decode cX11_out 10 = .ok (.ldc 82, 2) := by decide +kernel
theorem dX11_out_12 : decode cX11_out 12 = .ok (.ireturn, 1) := by decide +kernel
theorem dX11_out_13 : decode cX11_out 13 = .ok (.aload_n 0, 1) := by decide +kernel
theorem dX11_out_14 : decode cX11_out 14 = .ok (.getfield 30, 3) := by decide +kernel
theorem dX11_out_17 : decode cX11_out 17 = .ok (.invokevirtual 189, 3) := by decide +kernel
theorem dX11_out_20 : decode cX11_out 20 = .ok (.ifCond .eq 15, 3) := by decide +kernel
theorem dX11_out_23 : decode cX11_out 23 = .ok (.aload_n 0, 1) := by decide +kernel
theorem dX11_out_24 : decode cX11_out 24 = .ok (.getfield 30, 3) := by decide +kernel
theorem dX11_out_27 : decode cX11_out 27 = .ok (.getfield 212, 3) := by decide +kernel
theorem dX11_out_30 : decode cX11_out 30 = .ok (.iconst 1, 1) := by decide +kernel
theorem dX11_out_31 : decode cX11_out 31 = .ok (.iaload, 1) := by decide +kernel
theorem dX11_out_32 : decode cX11_out 32 = .ok (.ifCond .ne 6, 3) := by decide +kernel
theorem dX11_out_35 : decode cX11_out 35 = .ok (.ldc 193, 2) := by decide +kernel
theorem dX11_out_37 : decode cX11_out 37 = .ok (.ireturn, 1) := by decide +kernel
theorem dX11_out_38 : decode cX11_out 38 = .ok (.aload_n 0, 1) := by decide +kernel
theorem dX11_out_39 : decode cX11_out 39 = .ok (.getfield 30, 3) := by decide +kernel
theorem dX11_out_42 : decode cX11_out 42 = .ok (.iload_n 1, 1) := by decide +kernel
theorem dX11_out_43 : decode cX11_out 43 = .ok (.putfield 215, 3) := by decide +kernel
theorem dX11_out_46 : decode cX11_out 46 = .ok (.aload_n 0, 1) := by decide +kernel
theorem dX11_out_47 : decode cX11_out 47 = .ok (.invokevirtual 146, 3) := by decide +kernel
theorem dX11_out_50 : decode cX11_out 50 = .ok (.iconst 1, 1) := by decide +kernel
theorem dX11_out_51 : decode cX11_out 51 = .ok (.ireturn, 1) := by decide +kernel
theorem dX11_judge_0 : decode cX11_judge 0 = .ok (.aload_n 0, 1) := by decide +kernel
theorem dX11_judge_1 : decode cX11_judge 1 = .ok (.aload_n 0, 1) := by decide +kernel
theorem dX11_judge_2 : decode cX11_judge 2 = .ok (.getfield 10, 3) := by decide +kernel
theorem dX11_judge_5 : decode cX11_judge 5 = .ok (.iload_n 1, 1) := by decide +kernel
theorem dX11_judge_6 : decode cX11_judge 6 = .ok (.invokevirtual 78, 3) := by decide +kernel
theorem dX11_judge_9 : decode cX11_judge 9 = .ok (.ifCond .eq 14, 3) := by decide +kernel
theorem dX11_judge_12 : decode cX11_judge 12 = .ok (.iload_n 3, 1) := by decide +kernel
theorem dX11_judge_13 : decode cX11_judge 13 = .ok (.invokestatic 218, 3) := by decide +kernel
theorem dX11_judge_16 : decode cX11_judge 16 = .ok (.ifCond .eq 7, 3) := by decide +kernel
theorem dX11_judge_19 : decode cX11_judge 19 = .ok (.iconst 1, 1) := by decide +kernel
theorem dX11_judge_20 : decode cX11_judge 20 = .ok (.goto 4, 3) := by decide +kernel
theorem dX11_judge_23 : decode cX11_judge 23 = .ok (.iconst 0, 1) := by decide +kernel
theorem dX11_judge_24 : decode cX11_judge 24 = .ok (.invokevirtual 221, 3) := by decide +kernel
theorem dX11_judge_27 : decode cX11_judge 27 = .ok (.istore 4, 2) := by decide +kernel
theorem dX11_judge_29 : decode cX11_judge 29 = .ok (.iload 4, 2) := by decide +kernel
theorem dX11_judge_31 : decode cX11_judge 31 = .ok (.ifCond .eq 6, 3) := by decide +kernel
theorem dX11_judge_34 : decode cX11_judge 34 = .ok (.iload 4, 2) := by decide +kernel
theorem dX11_judge_36 : decode cX11_judge 36 = .ok (.ireturn, 1) := by decide +kernel
theorem dX11_judge_37 : decode cX11_judge 37 = .ok (.aload_n 0, 1) := by decide +kernel
theorem dX11_judge_38 : decode cX11_judge 38 = .ok (.getfield 10, 3) := by decide +kernel
theorem dX11_judge_41 : decode cX11_judge 41 = .ok (.iload_n 1, 1) := by decide +kernel
theorem dX11_judge_42 : decode cX11_judge 42 = .ok (.invokevirtual 94, 3) := by decide +kernel
theorem dX11_judge_45 : decode cX11_judge 45 = .ok (.ifCond .eq 9, 3) := by decide +kernel
theorem dX11_judge_48 : decode cX11_judge 48 = .ok (.aload_n 0, 1) := by decide +kernel
theorem dX11_judge_49 : decode cX11_judge 49 = .ok (.iconst 1, 1) := by decide +kernel
theorem dX11_judge_50 : decode cX11_judge 50 = .ok (.invokevirtual 83, 3) := by decide +kernel
theorem dX11_judge_53 : decode cX11_judge 53 = .ok (.ireturn, 1) := by decide +kernel
theorem dX11_judge_54 : decode cX11_judge 54 = .ok (.aload_n 0, 1) := by decide +kernel
theorem dX11_judge_55 : decode cX11_judge 55 = .ok (.getfield 75, 3) := by decide +kernel
theorem dX11_judge_58 : decode cX11_judge 58 = .ok (.aload_n 0, 1) := by decide +kernel
theorem dX11_judge_59 : decode cX11_judge 59 = .ok (.getfield 30, 3) := by decide +kernel
theorem dX11_judge_62 : decode cX11_judge 62 = .ok (.invokevirtual 225, 3) := by decide +kernel
theorem dX11_judge_65 : decode cX11_judge 65 = .ok (.aload_n 0, 1) := by decide +kernel
theorem dX11_judge_66 : decode cX11_judge 66 = .ok (.getfield 10, 3) := by decide +kernel
theorem dX11_judge_69 : decode cX11_judge 69 = .ok (.iload_n 1, 1) := by decide +kernel
theorem dX11_judge_70 : decode cX11_judge 70 = .ok (.iload_n 2, 1) := by decide +kernel
theorem dX11_judge_71 : decode cX11_judge 71 = .ok (.aload_n 0, 1) := by decide +kernel
theorem dX11_judge_72 : decode cX11_judge 72 = .ok (.getfield 75, 3) := by decide +kernel
theorem dX11_judge_75 : decode cX11_judge 75 = .ok (.getfield 228, 3) := by decide +kernel
theorem dX11_judge_78 : decode cX11_judge 78 = .ok (.invokevirtual 97, 3) := by decide +kernel
theorem dX11_judge_81 : decode cX11_judge 81 = .ok (.ifCond .ne 9, 3) := by decide +kernel
theorem dX11_judge_84 : decode cX11_judge 84 = .ok (.aload_n 0, 1) := by decide +kernel
theorem dX11_judge_85 : decode cX11_judge 85 = .ok (.iconst 2, 1) := by decide +kernel
theorem dX11_judge_86 : decode cX11_judge 86 = .ok (.invokevirtual 83, 3) := by decide +kernel
theorem dX11_judge_89 : decode cX11_judge 89 = .ok (.ireturn, 1) := by decide +kernel
theorem dX11_judge_90 : decode cX11_judge 90 = .ok (.aload_n 0, 1) := by decide +kernel
theorem dX11_judge_91 : decode cX11_judge 91 = .ok (.getfield 10, 3) := by decide +kernel
theorem dX11_judge_94 : decode cX11_judge 94 = .ok (.getfield 109, 3) := by decide +kernel
theorem dX11_judge_97 : decode cX11_judge 97 = .ok (.iload_n 1, 1) := by decide +kernel
theorem dX11_judge_98 : decode cX11_judge 98 = .ok (.aaload, 1) := by decide +kernel
theorem dX11_judge_99 : decode cX11_judge 99 = .ok (.iload_n 2, 1) := by decide +kernel
theorem dX11_judge_100 : decode cX11_judge 100 = .ok (.aload_n 0, 1) := by decide +kernel
theorem dX11_judge_101 : decode cX11_judge 101 = .ok (.getfield 75, 3) := by decide +kernel
theorem dX11_judge_104 : decode cX11_judge 104 = .ok (.getfield 231, 3) := by decide +kernel
theorem dX11_judge_107 : decode cX11_judge 107 = .ok (.iconst 0, 1) := by decide +kernel
theorem dX11_judge_108 : decode cX11_judge 108 = .ok (.aload_n 0, 1) := by decide +kernel
theorem dX11_judge_109 : decode cX11_judge 109 = .ok (.getfield 75, 3) := by decide +kernel
theorem dX11_judge_112 : decode cX11_judge 112 = .ok (.getfield 228, 3) := by decide +kernel
theorem dX11_judge_115 : decode cX11_judge 115 = .ok (.invokestatic 113, 3) := by decide +kernel
theorem dX11_judge_118 : decode cX11_judge 118 = .ok (.aload_n 0, 1) := by decide +kernel
theorem dX11_judge_119 : decode cX11_judge 119 = .ok (.aload_n 0, 1) := by decide +kernel
theorem dX11_judge_120 : decode cX11_judge 120 = .ok (.getfield 57, 3) := by decide +kernel
theorem dX11_judge_123 : decode cX11_judge 123 = .ok (.aload_n 0, 1) := by decide +kernel
theorem dX11_judge_124 : decode cX11_judge 124 = .ok (.getfield 30, 3) := by decide +kernel
theorem dX11_judge_127 : decode cX11_judge 127 = .ok (.aload_n 0, 1) := by decide +kernel
theorem dX11_judge_128 : decode cX11_judge 128 = .ok (.getfield 40, 3) := by decide +kernel
theorem dX11_judge_131 : decode cX11_judge 131 = .ok (.aload_n 0, 1) := by decide +kernel
theorem dX11_judge_132 : decode cX11_judge 132 = .ok (.getfield 75, 3) := by decide +kernel
theorem dX11_judge_135 : decode cX11_judge 135 = .ok (.iload_n 3, 1) := by decide +kernel
theorem dX11_judge_136 : decode cX11_judge 136 = .ok (.invokevirtual 234, 3) := by decide +kernel
theorem dX11_judge_139 : decode cX11_judge 139 = .ok (.invokevirtual 91, 3) := by decide +kernel
theorem dX11_judge_142 : decode cX11_judge 142 = .ok (.ireturn, 1) := by decide +kernel
theorem dX11_least_0 : decode cX11_least 0 = .ok (.aload_n 0, 1) := by decide +kernel
theorem dX11_least_1 : decode cX11_least 1 = .ok (.iload_n 1, 1) := by decide +kernel
theorem dX11_least_2 : decode cX11_least 2 = .ok (.invokestatic 218, 3) := by decide +kernel
theorem dX11_least_5 : decode cX11_least 5 = .ok (.ifCond .eq 12, 3) := by decide +kernel
theorem dX11_least_8 : decode cX11_least 8 = .ok (.iload_n 2, 1) := by decide +kernel
theorem dX11_least_9 : decode cX11_least 9 = .ok (.iconst (-1), 1) := by decide +kernel
theorem dX11_least_10 : decode cX11_least 10 = .ok (.if_icmp .lt 7, 3) := by decide +kernel
theorem dX11_least_13 : decode cX11_least 13 = .ok (.iconst 1, 1) := by decide +kernel
theorem dX11_least_14 : decode cX11_least 14 = .ok (.goto 4, 3) := by decide +kernel
theorem dX11_least_17 : decode cX11_least 17 = .ok (.iconst 0, 1) := by decide +kernel
theorem dX11_least_18 : decode cX11_least 18 = .ok (.invokevirtual 221, 3) := by decide +kernel
theorem dX11_least_21 : decode cX11_least 21 = .ok (.istore_n 3, 1) := by decide +kernel
theorem dX11_least_22 : decode cX11_least 22 = .ok (.iload_n 3, 1) := by decide +kernel
theorem dX11_least_23 : decode cX11_least 23 = .ok (.ifCond .eq 5, 3) := by decide +kernel
theorem dX11_least_26 : decode cX11_least 26 = .ok (.iload_n 3, 1) := by decide +kernel
theorem dX11_least_27 : decode cX11_least 27 = .ok (.ireturn, 1) := by decide +kernel
theorem dX11_least_28 : decode cX11_least 28 = .ok (.aload_n 0, 1) := by decide +kernel
theorem dX11_least_29 : decode cX11_least 29 = .ok (.iload_n 1, 1) := by decide +kernel
theorem dX11_least_30 : decode cX11_least 30 = .ok (.invokevirtual 238, 3) := by decide +kernel
theorem dX11_least_33 : decode cX11_least 33 = .ok (.ifCond .ne 6, 3) := by decide +kernel
theorem dX11_least_36 : decode cX11_least 36 = .ok (.ldc 241, 2) := by decide +kernel
theorem dX11_least_38 : decode cX11_least 38 = .ok (.ireturn, 1) := by decide +kernel
theorem dX11_least_39 : decode cX11_least 39 = .ok (.iload_n 2, 1) := by decide +kernel
theorem dX11_least_40 : decode cX11_least 40 = .ok (.iconst (-1), 1) := by decide +kernel
theorem dX11_least_41 : decode cX11_least 41 = .ok (.if_icmp .ne 8, 3) := by decide +kernel
theorem dX11_least_44 : decode cX11_least 44 = .ok (.aload_n 0, 1) := by decide +kernel
theorem dX11_least_45 : decode cX11_least 45 = .ok (.getfield 242, 3) := by decide +kernel
theorem dX11_least_48 : decode cX11_least 48 = .ok (.ireturn, 1) := by decide +kernel
theorem dX11_least_49 : decode cX11_least 49 = .ok (.iload_n 2, 1) := by decide +kernel
theorem dX11_least_50 : decode cX11_least 50 = .ok (.aload_n 0, 1) := by decide +kernel
theorem dX11_least_51 : decode cX11_least 51 = .ok (.getfield 71, 3) := by decide +kernel
theorem dX11_least_54 : decode cX11_least 54 = .ok (.getfield 245, 3) := by decide +kernel
theorem dX11_least_57 : decode cX11_least 57 = .ok (.if_icmp .ge 15, 3) := by decide +kernel
theorem dX11_least_60 : decode cX11_least 60 = .ok (.aload_n 0, 1) := by decide +kernel
theorem dX11_least_61 : decode cX11_least 61 = .ok (.getfield 71, 3) := by decide +kernel
theorem dX11_least_64 : decode cX11_least 64 = .ok (.getfield 246, 3) := by decide +kernel
theorem dX11_least_67 : decode cX11_least 67 = .ok (.iload_n 2, 1) := by decide +kernel
theorem dX11_least_68 : decode cX11_least 68 = .ok (.iaload, 1) := by decide +kernel
theorem dX11_least_69 : decode cX11_least 69 = .ok (.goto 5, 3) := by decide +kernel
theorem dX11_least_72 : decode cX11_least 72 = .ok (.ldc 241, 2) := by decide +kernel
theorem dX11_least_74 : decode cX11_least 74 = .ok (.ireturn, 1) := by decide +kernel
theorem dX11_begins_0 : decode cX11_begins 0 = .ok (.aload_n 0, 1) := by decide +kernel
theorem dX11_begins_1 : decode cX11_begins 1 = .ok (.iload_n 1, 1) := by decide +kernel
theorem dX11_begins_2 : decode cX11_begins 2 = .ok (.invokestatic 218, 3) := by decide +kernel
theorem dX11_begins_5 : decode cX11_begins 5 = .ok (.ifCond .eq 11, 3) := by decide +kernel
theorem dX11_begins_8 : decode cX11_begins 8 = .ok (.iload_n 2, 1) := by decide +kernel
theorem dX11_begins_9 : decode cX11_begins 9 = .ok (.ifCond .lt 7, 3) := by decide +kernel
theorem dX11_begins_12 : decode cX11_begins 12 = .ok (.iconst 1, 1) := by decide +kernel
theorem dX11_begins_13 : decode cX11_begins 13 = .ok (.goto 4, 3) := by decide +kernel
theorem dX11_begins_16 : decode cX11_begins 16 = .ok (.iconst 0, 1) := by decide +kernel
theorem dX11_begins_17 : decode cX11_begins 17 = .ok (.invokevirtual 221, 3) := by decide +kernel
theorem dX11_begins_20 : decode cX11_begins 20 = .ok (.istore_n 3, 1) := by decide +kernel
theorem dX11_begins_21 : decode cX11_begins 21 = .ok (.iload_n 3, 1) := by decide +kernel
theorem dX11_begins_22 : decode cX11_begins 22 = .ok (.ifCond .eq 5, 3) := by decide +kernel
theorem dX11_begins_25 : decode cX11_begins 25 = .ok (.iload_n 3, 1) := by decide +kernel
theorem dX11_begins_26 : decode cX11_begins 26 = .ok (.ireturn, 1) := by decide +kernel
theorem dX11_begins_27 : decode cX11_begins 27 = .ok (.aload_n 0, 1) := by decide +kernel
theorem dX11_begins_28 : decode cX11_begins 28 = .ok (.iload_n 1, 1) := by decide +kernel
theorem dX11_begins_29 : decode cX11_begins 29 = .ok (.invokevirtual 238, 3) := by decide +kernel
theorem dX11_begins_32 : decode cX11_begins 32 = .ok (.ifCond .eq 26, 3) := by decide +kernel
theorem dX11_begins_35 : decode cX11_begins 35 = .ok (.iload_n 2, 1) := by decide +kernel
theorem dX11_begins_36 : decode cX11_begins 36 = .ok (.aload_n 0, 1) := by decide +kernel
theorem dX11_begins_37 : decode cX11_begins 37 = .ok (.getfield 71, 3) := by decide +kernel
theorem dX11_begins_40 : decode cX11_begins 40 = .ok (.getfield 228, 3) := by decide +kernel
theorem dX11_begins_43 : decode cX11_begins 43 = .ok (.if_icmp .ge 15, 3) := by decide +kernel
theorem dX11_begins_46 : decode cX11_begins 46 = .ok (.aload_n 0, 1) := by decide +kernel
theorem dX11_begins_47 : decode cX11_begins 47 = .ok (.getfield 71, 3) := by decide +kernel
theorem dX11_begins_50 : decode cX11_begins 50 = .ok (.getfield 231, 3) := by decide +kernel
theorem dX11_begins_53 : decode cX11_begins 53 = .ok (.iload_n 2, 1) := by decide +kernel
theorem dX11_begins_54 : decode cX11_begins 54 = .ok (.iaload, 1) := by decide +kernel
theorem dX11_begins_55 : decode cX11_begins 55 = .ok (.goto 5, 3) := by decide +kernel
theorem dX11_begins_58 : decode cX11_begins 58 = .ok (.ldc 241, 2) := by decide +kernel
theorem dX11_begins_60 : decode cX11_begins 60 = .ok (.ireturn, 1) := by decide +kernel
theorem dX11_seven_0 : decode cX11_seven 0 = .ok (.aload_n 0, 1) := by decide +kernel
theorem dX11_seven_1 : decode cX11_seven 1 = .ok (.iload_n 1, 1) := by decide +kernel
theorem dX11_seven_2 : decode cX11_seven 2 = .ok (.invokestatic 218, 3) := by decide +kernel
theorem dX11_seven_5 : decode cX11_seven 5 = .ok (.invokevirtual 221, 3) := by decide +kernel
theorem dX11_seven_8 : decode cX11_seven 8 = .ok (.istore_n 2, 1) := by decide +kernel
theorem dX11_seven_9 : decode cX11_seven 9 = .ok (.iload_n 2, 1) := by decide +kernel
theorem dX11_seven_10 : decode cX11_seven 10 = .ok (.ifCond .eq 5, 3) := by decide +kernel
theorem dX11_seven_13 : decode cX11_seven 13 = .ok (.iload_n 2, 1) := by decide +kernel
theorem dX11_seven_14 : decode cX11_seven 14 = .ok (.ireturn, 1) := by decide +kernel
theorem dX11_seven_15 : decode cX11_seven 15 = .ok (.aload_n 0, 1) := by decide +kernel
theorem dX11_seven_16 : decode cX11_seven 16 = .ok (.getfield 50, 3) := by decide +kernel
theorem dX11_seven_19 : decode cX11_seven 19 = .ok (.aload_n 0, 1) := by decide +kernel
theorem dX11_seven_20 : decode cX11_seven 20 = .ok (.getfield 30, 3) := by decide +kernel
theorem dX11_seven_23 : decode cX11_seven 23 = .ok (.aload_n 0, 1) := by decide +kernel
theorem dX11_seven_24 : decode cX11_seven 24 = .ok (.getfield 40, 3) := by decide +kernel
theorem dX11_seven_27 : decode cX11_seven 27 = .ok (.aload_n 0, 1) := by decide +kernel
theorem dX11_seven_28 : decode cX11_seven 28 = .ok (.getfield 30, 3) := by decide +kernel
theorem dX11_seven_31 : decode cX11_seven 31 = .ok (.getfield 209, 3) := by decide +kernel
theorem dX11_seven_34 : decode cX11_seven 34 = .ok (.iload_n 1, 1) := by decide +kernel
theorem dX11_seven_35 : decode cX11_seven 35 = .ok (.invokevirtual 249, 3) := by decide +kernel
theorem dX11_seven_38 : decode cX11_seven 38 = .ok (.aload_n 0, 1) := by decide +kernel
theorem dX11_seven_39 : decode cX11_seven 39 = .ok (.getfield 50, 3) := by decide +kernel
theorem dX11_seven_42 : decode cX11_seven 42 = .ok (.invokevirtual 252, 3) := by decide +kernel
theorem dX11_seven_45 : decode cX11_seven 45 = .ok (.aload_n 0, 1) := by decide +kernel
theorem dX11_seven_46 : decode cX11_seven 46 = .ok (.getfield 50, 3) := by decide +kernel
theorem dX11_seven_49 : decode cX11_seven 49 = .ok (.aload_n 0, 1) := by decide +kernel
theorem dX11_seven_50 : decode cX11_seven 50 = .ok (.getfield 30, 3) := by decide +kernel
theorem dX11_seven_53 : decode cX11_seven 53 = .ok (.getfield 209, 3) := by decide +kernel
theorem dX11_seven_56 : decode cX11_seven 56 = .ok (.invokevirtual 255, 3) := by decide +kernel
theorem dX11_seven_59 : decode cX11_seven 59 = .ok (.aload_n 0, 1) := by decide +kernel
theorem dX11_seven_60 : decode cX11_seven 60 = .ok (.getfield 50, 3) := by decide +kernel
theorem dX11_seven_63 : decode cX11_seven 63 = .ok (.aload_n 0, 1) := by decide +kernel
theorem dX11_seven_64 : decode cX11_seven 64 = .ok (.getfield 30, 3) := by decide +kernel
theorem dX11_seven_67 : decode cX11_seven 67 = .ok (.getfield 209, 3) := by decide +kernel
theorem dX11_seven_70 : decode cX11_seven 70 = .ok (.iconst 1, 1) := by decide +kernel
theorem dX11_seven_71 : decode cX11_seven 71 = .ok (.invokevirtual 259, 3) := by decide +kernel
theorem dX11_seven_74 : decode cX11_seven 74 = .ok (.ifCond .eq 7, 3) := by decide +kernel
theorem dX11_seven_77 : decode cX11_seven 77 = .ok (.iconst 1, 1) := by decide +kernel
theorem dX11_seven_78 : decode cX11_seven 78 = .ok (.goto 4, 3) := by decide +kernel
theorem dX11_seven_81 : decode cX11_seven 81 = .ok (.iconst 0, 1) := by decide +kernel
theorem dX11_seven_82 : decode cX11_seven 82 = .ok (.ireturn, 1) := by decide +kernel
theorem dX11_earliest_0 : decode cX11_earliest 0 = .ok (.aload_n 0, 1) := by decide +kernel
theorem dX11_earliest_1 : decode cX11_earliest 1 = .ok (.getfield 30, 3) := by decide +kernel
theorem dX11_earliest_4 : decode cX11_earliest 4 = .ok (.invokevirtual 189, 3) := by decide +kernel
theorem dX11_earliest_7 : decode cX11_earliest 7 = .ok (.ifCond .ne 6, 3) := by decide +kernel
theorem dX11_earliest_10 : decode cX11_earliest 10 = .ok (.ldc 193, 2) := by decide +kernel
theorem dX11_earliest_12 : decode cX11_earliest 12 = .ok (.ireturn, 1) := by decide +kernel
theorem dX11_earliest_13 : decode cX11_earliest 13 = .ok (.aload_n 0, 1) := by decide +kernel
theorem dX11_earliest_14 : decode cX11_earliest 14 = .ok (.getfield 44, 3) := by decide +kernel
theorem dX11_earliest_17 : decode cX11_earliest 17 = .ok (.aload_n 0, 1) := by decide +kernel
theorem dX11_earliest_18 : decode cX11_earliest 18 = .ok (.getfield 30, 3) := by decide +kernel
theorem dX11_earliest_21 : decode cX11_earliest 21 = .ok (.aload_n 0, 1) := by decide +kernel
theorem dX11_earliest_22 : decode cX11_earliest 22 = .ok (.getfield 30, 3) := by decide +kernel
theorem dX11_earliest_25 : decode cX11_earliest 25 = .ok (.getfield 212, 3) := by decide +kernel
theorem dX11_earliest_28 : decode cX11_earliest 28 = .ok (.iconst 5, 1) := by decide +kernel
theorem dX11_earliest_29 : decode cX11_earliest 29 = .ok (.iaload, 1) := by decide +kernel
theorem dX11_earliest_30 : decode cX11_earliest 30 = .ok (.invokevirtual 263, 3) := by decide +kernel
theorem dX11_earliest_33 : decode cX11_earliest 33 = .ok (.aload_n 0, 1) := by decide +kernel
theorem dX11_earliest_34 : decode cX11_earliest 34 = .ok (.aload_n 0, 1) := by decide +kernel
theorem dX11_earliest_35 : decode cX11_earliest 35 = .ok (.getfield 44, 3) := by decide +kernel
theorem dX11_earliest_38 : decode cX11_earliest 38 = .ok (.aload_n 0, 1) := by decide +kernel
theorem dX11_earliest_39 : decode cX11_earliest 39 = .ok (.getfield 30, 3) := by decide +kernel
theorem dX11_earliest_42 : decode cX11_earliest 42 = .ok (.getfield 209, 3) := by decide +kernel
theorem dX11_earliest_45 : decode cX11_earliest 45 = .ok (.bipush 60, 2) := by decide +kernel
theorem dX11_earliest_47 : decode cX11_earliest 47 = .ok (.invokevirtual 267, 3) := by decide +kernel
theorem dX11_earliest_50 : decode cX11_earliest 50 = .ok (.ifCond .ne 6, 3) := by decide +kernel
theorem dX11_earliest_53 : decode cX11_earliest 53 = .ok (.ldc 241, 2) := by decide +kernel
theorem dX11_earliest_55 : decode cX11_earliest 55 = .ok (.ireturn, 1) := by decide +kernel
theorem dX11_earliest_56 : decode cX11_earliest 56 = .ok (.iconst 1, 1) := by decide +kernel
theorem dX11_earliest_57 : decode cX11_earliest 57 = .ok (.istore_n 1, 1) := by decide +kernel
theorem dX11_earliest_58 : decode cX11_earliest 58 = .ok (.iload_n 1, 1) := by decide +kernel
theorem dX11_earliest_59 : decode cX11_earliest 59 = .ok (.bipush 60, 2) := by decide +kernel
theorem dX11_earliest_61 : decode cX11_earliest 61 = .ok (.if_icmp .gt 30, 3) := by decide +kernel
theorem dX11_earliest_64 : decode cX11_earliest 64 = .ok (.aload_n 0, 1) := by decide +kernel
theorem dX11_earliest_65 : decode cX11_earliest 65 = .ok (.aload_n 0, 1) := by decide +kernel
theorem dX11_earliest_66 : decode cX11_earliest 66 = .ok (.getfield 40, 3) := by decide +kernel
theorem dX11_earliest_69 : decode cX11_earliest 69 = .ok (.aload_n 0, 1) := by decide +kernel
theorem dX11_earliest_70 : decode cX11_earliest 70 = .ok (.getfield 30, 3) := by decide +kernel
theorem dX11_earliest_73 : decode cX11_earliest 73 = .ok (.getfield 209, 3) := by decide +kernel
theorem dX11_earliest_76 : decode cX11_earliest 76 = .ok (.iload_n 1, 1) := by decide +kernel
theorem dX11_earliest_77 : decode cX11_earliest 77 = .ok (.invokevirtual 267, 3) := by decide +kernel
theorem dX11_earliest_80 : decode cX11_earliest 80 = .ok (.ifCond .eq 5, 3) := by decide +kernel
theorem dX11_earliest_83 : decode cX11_earliest 83 = .ok (.iload_n 1, 1) := by decide +kernel
theorem dX11_earliest_84 : decode cX11_earliest 84 = .ok (.ireturn, 1) := by decide +kernel
theorem dX11_earliest_85 : decode cX11_earliest 85 = .ok (.iinc 1 1, 3) := by decide +kernel
theorem dX11_earliest_88 : decode cX11_earliest 88 = .ok (.goto (-30), 3) := by decide +kernel
theorem dX11_earliest_91 : decode cX11_earliest 91 = .ok (.ldc 241, 2) := by decide +kernel
theorem dX11_earliest_93 : decode cX11_earliest 93 = .ok (.ireturn, 1) := by decide +kernel
theorem dX11_heat_0 : decode cX11_heat 0 = .ok (.aload_n 0, 1) := by decide +kernel
theorem dX11_heat_1 : decode cX11_heat 1 = .ok (.iload_n 1, 1) := by decide +kernel
theorem dX11_heat_2 : decode cX11_heat 2 = .ok (.invokestatic 218, 3) := by decide +kernel
theorem dX11_heat_5 : decode cX11_heat 5 = .ok (.ifCond .eq 14, 3) := by decide +kernel
theorem dX11_heat_8 : decode cX11_heat 8 = .ok (.iload_n 2, 1) := by decide +kernel
theorem dX11_heat_9 : decode cX11_heat 9 = .ok (.invokestatic 194, 3) := by decide +kernel
theorem dX11_heat_12 : decode cX11_heat 12 = .ok (.ifCond .eq 7, 3) := by decide +kernel
theorem dX11_heat_15 : decode cX11_heat 15 = .ok (.iconst 1, 1) := by decide +kernel
theorem dX11_heat_16 : decode cX11_heat 16 = .ok (.goto 4, 3) := by decide +kernel
theorem dX11_heat_19 : decode cX11_heat 19 = .ok (.iconst 0, 1) := by decide +kernel
theorem dX11_heat_20 : decode cX11_heat 20 = .ok (.invokevirtual 221, 3) := by decide +kernel
theorem dX11_heat_23 : decode cX11_heat 23 = .ok (.istore_n 3, 1) := by decide +kernel
theorem dX11_heat_24 : decode cX11_heat 24 = .ok (.iload_n 3, 1) := by decide +kernel
theorem dX11_heat_25 : decode cX11_heat 25 = .ok (.ifCond .eq 5, 3) := by decide +kernel
theorem dX11_heat_28 : decode cX11_heat 28 = .ok (.iload_n 3, 1) := by decide +kernel
theorem dX11_heat_29 : decode cX11_heat 29 = .ok (.ireturn, 1) := by decide +kernel
theorem dX11_heat_30 : decode cX11_heat 30 = .ok (.aload_n 0, 1) := by decide +kernel
theorem dX11_heat_31 : decode cX11_heat 31 = .ok (.iload_n 1, 1) := by decide +kernel
theorem dX11_heat_32 : decode cX11_heat 32 = .ok (.invokevirtual 238, 3) := by decide +kernel
theorem dX11_heat_35 : decode cX11_heat 35 = .ok (.ifCond .ne 6, 3) := by decide +kernel
theorem dX11_heat_38 : decode cX11_heat 38 = .ok (.ldc 241, 2) := by decide +kernel
theorem dX11_heat_40 : decode cX11_heat 40 = .ok (.ireturn, 1) := by decide +kernel
theorem dX11_heat_41 : decode cX11_heat 41 = .ok (.aload_n 0, 1) := by decide +kernel
theorem dX11_heat_42 : decode cX11_heat 42 = .ok (.getfield 57, 3) := by decide +kernel
theorem dX11_heat_45 : decode cX11_heat 45 = .ok (.getfield 271, 3) := by decide +kernel
theorem dX11_heat_48 : decode cX11_heat 48 = .ok (.aload_n 0, 1) := by decide +kernel
theorem dX11_heat_49 : decode cX11_heat 49 = .ok (.getfield 30, 3) := by decide +kernel
theorem dX11_heat_52 : decode cX11_heat 52 = .ok (.aload_n 0, 1) := by decide +kernel
theorem dX11_heat_53 : decode cX11_heat 53 = .ok (.getfield 71, 3) := by decide +kernel
theorem dX11_heat_56 : decode cX11_heat 56 = .ok (.invokevirtual 275, 3) := by decide +kernel
theorem dX11_heat_59 : decode cX11_heat 59 = .ok (.aload_n 0, 1) := by decide +kernel
theorem dX11_heat_60 : decode cX11_heat 60 = .ok (.getfield 57, 3) := by decide +kernel
theorem dX11_heat_63 : decode cX11_heat 63 = .ok (.getfield 271, 3) := by decide +kernel
theorem dX11_heat_66 : decode cX11_heat 66 = .ok (.aload_n 0, 1) := by decide +kernel
theorem dX11_heat_67 : decode cX11_heat 67 = .ok (.getfield 30, 3) := by decide +kernel
theorem dX11_heat_70 : decode cX11_heat 70 = .ok (.getfield 212, 3) := by decide +kernel
theorem dX11_heat_73 : decode cX11_heat 73 = .ok (.iconst 3, 1) := by decide +kernel
theorem dX11_heat_74 : decode cX11_heat 74 = .ok (.iaload, 1) := by decide +kernel
theorem dX11_heat_75 : decode cX11_heat 75 = .ok (.aload_n 0, 1) := by decide +kernel
theorem dX11_heat_76 : decode cX11_heat 76 = .ok (.getfield 30, 3) := by decide +kernel
theorem dX11_heat_79 : decode cX11_heat 79 = .ok (.getfield 212, 3) := by decide +kernel
theorem dX11_heat_82 : decode cX11_heat 82 = .ok (.iconst 4, 1) := by decide +kernel
theorem dX11_heat_83 : decode cX11_heat 83 = .ok (.iaload, 1) := by decide +kernel
theorem dX11_heat_84 : decode cX11_heat 84 = .ok (.invokevirtual 281, 3) := by decide +kernel
theorem dX11_heat_87 : decode cX11_heat 87 = .ok (.aload_n 0, 1) := by decide +kernel
theorem dX11_heat_88 : decode cX11_heat 88 = .ok (.getfield 57, 3) := by decide +kernel
theorem dX11_heat_91 : decode cX11_heat 91 = .ok (.getfield 271, 3) := by decide +kernel
theorem dX11_heat_94 : decode cX11_heat 94 = .ok (.getfield 284, 3) := by decide +kernel
theorem dX11_heat_97 : decode cX11_heat 97 = .ok (.iload_n 2, 1) := by decide +kernel
theorem dX11_heat_98 : decode cX11_heat 98 = .ok (.iaload, 1) := by decide +kernel
theorem dX11_heat_99 : decode cX11_heat 99 = .ok (.ireturn, 1) := by decide +kernel
theorem dX11_wanted_0 : decode cX11_wanted 0 = .ok (.aload_n 0, 1) := by decide +kernel
theorem dX11_wanted_1 : decode cX11_wanted 1 = .ok (.iload_n 1, 1) := by decide +kernel
theorem dX11_wanted_2 : decode cX11_wanted 2 = .ok (.invokestatic 218, 3) := by decide +kernel
theorem dX11_wanted_5 : decode cX11_wanted 5 = .ok (.ifCond .eq 26, 3) := by decide +kernel
theorem dX11_wanted_8 : decode cX11_wanted 8 = .ok (.iload_n 2, 1) := by decide +kernel
theorem dX11_wanted_9 : decode cX11_wanted 9 = .ok (.invokestatic 194, 3) := by decide +kernel
theorem dX11_wanted_12 : decode cX11_wanted 12 = .ok (.ifCond .eq 19, 3) := by decide +kernel
theorem dX11_wanted_15 : decode cX11_wanted 15 = .ok (.iload_n 3, 1) := by decide +kernel
theorem dX11_wanted_16 : decode cX11_wanted 16 = .ok (.ifCond .lt 15, 3) := by decide +kernel
theorem dX11_wanted_19 : decode cX11_wanted 19 = .ok (.iload_n 3, 1) := by decide +kernel
theorem dX11_wanted_20 : decode cX11_wanted 20 = .ok (.getstatic 287, 3) := by decide +kernel
theorem dX11_wanted_23 : decode cX11_wanted 23 = .ok (.arraylength, 1) := by decide +kernel
theorem dX11_wanted_24 : decode cX11_wanted 24 = .ok (.if_icmp .ge 7, 3) := by decide +kernel
theorem dX11_wanted_27 : decode cX11_wanted 27 = .ok (.iconst 1, 1) := by decide +kernel
theorem dX11_wanted_28 : decode cX11_wanted 28 = .ok (.goto 4, 3) := by decide +kernel
theorem dX11_wanted_31 : decode cX11_wanted 31 = .ok (.iconst 0, 1) := by decide +kernel
theorem dX11_wanted_32 : decode cX11_wanted 32 = .ok (.invokevirtual 221, 3) := by decide +kernel
theorem dX11_wanted_35 : decode cX11_wanted 35 = .ok (.istore 4, 2) := by decide +kernel
theorem dX11_wanted_37 : decode cX11_wanted 37 = .ok (.iload 4, 2) := by decide +kernel
theorem dX11_wanted_39 : decode cX11_wanted 39 = .ok (.ifCond .eq 6, 3) := by decide +kernel
theorem dX11_wanted_42 : decode cX11_wanted 42 = .ok (.iload 4, 2) := by decide +kernel
theorem dX11_wanted_44 : decode cX11_wanted 44 = .ok (.ireturn, 1) := by decide +kernel
theorem dX11_wanted_45 : decode cX11_wanted 45 = .ok (.aload_n 0, 1) := by decide +kernel
theorem dX11_wanted_46 : decode cX11_wanted 46 = .ok (.iload_n 1, 1) := by decide +kernel
theorem dX11_wanted_47 : decode cX11_wanted 47 = .ok (.invokevirtual 238, 3) := by decide +kernel
theorem dX11_wanted_50 : decode cX11_wanted 50 = .ok (.ifCond .ne 6, 3) := by decide +kernel
theorem dX11_wanted_53 : decode cX11_wanted 53 = .ok (.ldc 241, 2) := by decide +kernel
theorem dX11_wanted_55 : decode cX11_wanted 55 = .ok (.ireturn, 1) := by decide +kernel
theorem dX11_wanted_56 : decode cX11_wanted 56 = .ok (.aload_n 0, 1) := by decide +kernel
theorem dX11_wanted_57 : decode cX11_wanted 57 = .ok (.getfield 57, 3) := by decide +kernel
theorem dX11_wanted_60 : decode cX11_wanted 60 = .ok (.aload_n 0, 1) := by decide +kernel
theorem dX11_wanted_61 : decode cX11_wanted 61 = .ok (.getfield 30, 3) := by decide +kernel
theorem dX11_wanted_64 : decode cX11_wanted 64 = .ok (.aload_n 0, 1) := by decide +kernel
theorem dX11_wanted_65 : decode cX11_wanted 65 = .ok (.getfield 40, 3) := by decide +kernel
theorem dX11_wanted_68 : decode cX11_wanted 68 = .ok (.aload_n 0, 1) := by decide +kernel
theorem dX11_wanted_69 : decode cX11_wanted 69 = .ok (.getfield 71, 3) := by decide +kernel
theorem dX11_wanted_72 : decode cX11_wanted 72 = .ok (.invokevirtual 290, 3) := by decide +kernel
theorem dX11_wanted_75 : decode cX11_wanted 75 = .ok (.aload_n 0, 1) := by decide +kernel
theorem dX11_wanted_76 : decode cX11_wanted 76 = .ok (.getfield 57, 3) := by decide +kernel
theorem dX11_wanted_79 : decode cX11_wanted 79 = .ok (.aload_n 0, 1) := by decide +kernel
theorem dX11_wanted_80 : decode cX11_wanted 80 = .ok (.getfield 71, 3) := by decide +kernel
theorem dX11_wanted_83 : decode cX11_wanted 83 = .ok (.iload_n 2, 1) := by decide +kernel
theorem dX11_wanted_84 : decode cX11_wanted 84 = .ok (.getstatic 287, 3) := by decide +kernel
theorem dX11_wanted_87 : decode cX11_wanted 87 = .ok (.iload_n 3, 1) := by decide +kernel
theorem dX11_wanted_88 : decode cX11_wanted 88 = .ok (.iaload, 1) := by decide +kernel
theorem dX11_wanted_89 : decode cX11_wanted 89 = .ok (.invokevirtual 293, 3) := by decide +kernel
theorem dX11_wanted_92 : decode cX11_wanted 92 = .ok (.ireturn, 1) := by decide +kernel
theorem dX11_dinners_0 : decode cX11_dinners 0 = .ok (.aload_n 0, 1) := by decide +kernel
theorem dX11_dinners_1 : decode cX11_dinners 1 = .ok (.iload_n 1, 1) := by decide +kernel
theorem dX11_dinners_2 : decode cX11_dinners 2 = .ok (.iconst 1, 1) := by decide +kernel
theorem dX11_dinners_3 : decode cX11_dinners 3 = .ok (.if_icmp .lt 28, 3) := by decide +kernel
theorem dX11_dinners_6 : decode cX11_dinners 6 = .ok (.iload_n 1, 1) := by decide +kernel
theorem dX11_dinners_7 : decode cX11_dinners 7 = .ok (.iconst 3, 1) := by decide +kernel
theorem dX11_dinners_8 : decode cX11_dinners 8 = .ok (.if_icmp .gt 23, 3) := by decide +kernel
theorem dX11_dinners_11 : decode cX11_dinners 11 = .ok (.iload_n 2, 1) := by decide +kernel
theorem dX11_dinners_12 : decode cX11_dinners 12 = .ok (.invokestatic 218, 3) := by decide +kernel
theorem dX11_dinners_15 : decode cX11_dinners 15 = .ok (.ifCond .eq 16, 3) := by decide +kernel
theorem dX11_dinners_18 : decode cX11_dinners 18 = .ok (.iload_n 3, 1) := by decide +kernel
theorem dX11_dinners_19 : decode cX11_dinners 19 = .ok (.ifCond .lt 12, 3) := by decide +kernel
theorem dX11_dinners_22 : decode cX11_dinners 22 = .ok (.iload_n 3, 1) := by decide +kernel
theorem dX11_dinners_23 : decode cX11_dinners 23 = .ok (.iconst 1, 1) := by decide +kernel
theorem dX11_dinners_24 : decode cX11_dinners 24 = .ok (.if_icmp .gt 7, 3) := by decide +kernel
theorem dX11_dinners_27 : decode cX11_dinners 27 = .ok (.iconst 1, 1) := by decide +kernel
theorem dX11_dinners_28 : decode cX11_dinners 28 = .ok (.goto 4, 3) := by decide +kernel
theorem dX11_dinners_31 : decode cX11_dinners 31 = .ok (.iconst 0, 1) := by decide +kernel
theorem dX11_dinners_32 : decode cX11_dinners 32 = .ok (.invokevirtual 221, 3) := by decide +kernel
theorem dX11_dinners_35 : decode cX11_dinners 35 = .ok (.istore 4, 2) := by decide +kernel
theorem dX11_dinners_37 : decode cX11_dinners 37 = .ok (.iload 4, 2) := by decide +kernel
theorem dX11_dinners_39 : decode cX11_dinners 39 = .ok (.ifCond .eq 6, 3) := by decide +kernel
theorem dX11_dinners_42 : decode cX11_dinners 42 = .ok (.iload 4, 2) := by decide +kernel
theorem dX11_dinners_44 : decode cX11_dinners 44 = .ok (.ireturn, 1) := by decide +kernel
theorem dX11_dinners_45 : decode cX11_dinners 45 = .ok (.iload_n 1, 1) := by decide +kernel
theorem dX11_dinners_46 : decode cX11_dinners 46 = .ok (.bipush 61, 2) := by decide +kernel
theorem dX11_dinners_48 : decode cX11_dinners 48 = .ok (.imul, 1) := by decide +kernel
theorem dX11_dinners_49 : decode cX11_dinners 49 = .ok (.iload_n 2, 1) := by decide +kernel
theorem dX11_dinners_50 : decode cX11_dinners 50 = .ok (.iadd, 1) := by decide +kernel
theorem dX11_dinners_51 : decode cX11_dinners 51 = .ok (.istore 5, 2) := by decide +kernel
theorem dX11_dinners_53 : decode cX11_dinners 53 = .ok (.aload_n 0, 1) := by decide +kernel
theorem dX11_dinners_54 : decode cX11_dinners 54 = .ok (.getfield 297, 3) := by decide +kernel
theorem dX11_dinners_57 : decode cX11_dinners 57 = .ok (.iload 5, 2) := by decide +kernel
theorem dX11_dinners_59 : decode cX11_dinners 59 = .ok (.if_icmp .eq 72, 3) := by decide +kernel
theorem dX11_dinners_62 : decode cX11_dinners 62 = .ok (.aload_n 0, 1) := by decide +kernel
theorem dX11_dinners_63 : decode cX11_dinners 63 = .ok (.getfield 44, 3) := by decide +kernel
theorem dX11_dinners_66 : decode cX11_dinners 66 = .ok (.aload_n 0, 1) := by decide +kernel
theorem dX11_dinners_67 : decode cX11_dinners 67 = .ok (.getfield 30, 3) := by decide +kernel
theorem dX11_dinners_70 : decode cX11_dinners 70 = .ok (.iload_n 1, 1) := by decide +kernel
theorem dX11_dinners_71 : decode cX11_dinners 71 = .ok (.aload_n 0, 1) := by decide +kernel
theorem dX11_dinners_72 : decode cX11_dinners 72 = .ok (.getfield 30, 3) := by decide +kernel
theorem dX11_dinners_75 : decode cX11_dinners 75 = .ok (.getfield 215, 3) := by decide +kernel
theorem dX11_dinners_78 : decode cX11_dinners 78 = .ok (.invokevirtual 300, 3) := by decide +kernel
theorem dX11_dinners_81 : decode cX11_dinners 81 = .ok (.aload_n 0, 1) := by decide +kernel
theorem dX11_dinners_82 : decode cX11_dinners 82 = .ok (.getfield 50, 3) := by decide +kernel
theorem dX11_dinners_85 : decode cX11_dinners 85 = .ok (.aload_n 0, 1) := by decide +kernel
theorem dX11_dinners_86 : decode cX11_dinners 86 = .ok (.getfield 30, 3) := by decide +kernel
theorem dX11_dinners_89 : decode cX11_dinners 89 = .ok (.aload_n 0, 1) := by decide +kernel
theorem dX11_dinners_90 : decode cX11_dinners 90 = .ok (.getfield 44, 3) := by decide +kernel
theorem dX11_dinners_93 : decode cX11_dinners 93 = .ok (.aload_n 0, 1) := by decide +kernel
theorem dX11_dinners_94 : decode cX11_dinners 94 = .ok (.getfield 30, 3) := by decide +kernel
theorem dX11_dinners_97 : decode cX11_dinners 97 = .ok (.invokevirtual 205, 3) := by decide +kernel
theorem dX11_dinners_100 : decode cX11_dinners 100 = .ok (.iload_n 2, 1) := by decide +kernel
theorem dX11_dinners_101 : decode cX11_dinners 101 = .ok (.invokevirtual 249, 3) := by decide +kernel
theorem dX11_dinners_104 : decode cX11_dinners 104 = .ok (.aload_n 0, 1) := by decide +kernel
theorem dX11_dinners_105 : decode cX11_dinners 105 = .ok (.getfield 50, 3) := by decide +kernel
theorem dX11_dinners_108 : decode cX11_dinners 108 = .ok (.aload_n 0, 1) := by decide +kernel
theorem dX11_dinners_109 : decode cX11_dinners 109 = .ok (.getfield 30, 3) := by decide +kernel
theorem dX11_dinners_112 : decode cX11_dinners 112 = .ok (.invokevirtual 205, 3) := by decide +kernel
theorem dX11_dinners_115 : decode cX11_dinners 115 = .ok (.invokevirtual 255, 3) := by decide +kernel
theorem dX11_dinners_118 : decode cX11_dinners 118 = .ok (.aload_n 0, 1) := by decide +kernel
theorem dX11_dinners_119 : decode cX11_dinners 119 = .ok (.getfield 50, 3) := by decide +kernel
theorem dX11_dinners_122 : decode cX11_dinners 122 = .ok (.invokevirtual 304, 3) := by decide +kernel
theorem dX11_dinners_125 : decode cX11_dinners 125 = .ok (.aload_n 0, 1) := by decide +kernel
theorem dX11_dinners_126 : decode cX11_dinners 126 = .ok (.iload 5, 2) := by decide +kernel
theorem dX11_dinners_128 : decode cX11_dinners 128 = .ok (.putfield 297, 3) := by decide +kernel
theorem dX11_dinners_131 : decode cX11_dinners 131 = .ok (.iload_n 3, 1) := by decide +kernel
theorem dX11_dinners_132 : decode cX11_dinners 132 = .ok (.ifCond .ne 13, 3) := by decide +kernel
theorem dX11_dinners_135 : decode cX11_dinners 135 = .ok (.aload_n 0, 1) := by decide +kernel
theorem dX11_dinners_136 : decode cX11_dinners 136 = .ok (.getfield 50, 3) := by decide +kernel
theorem dX11_dinners_139 : decode cX11_dinners 139 = .ok (.getfield 307, 3) := by decide +kernel
theorem dX11_dinners_142 : decode cX11_dinners 142 = .ok (.goto 10, 3) := by decide +kernel
theorem dX11_dinners_145 : decode cX11_dinners 145 = .ok (.aload_n 0, 1) := by decide +kernel
theorem dX11_dinners_146 : decode cX11_dinners 146 = .ok (.getfield 50, 3) := by decide +kernel
theorem dX11_dinners_149 : decode cX11_dinners 149 = .ok (.getfield 310, 3) := by decide +kernel
theorem dX11_dinners_152 : decode cX11_dinners 152 = .ok (.ireturn, 1) := by decide +kernel
theorem dX11_more_0 : decode cX11_more 0 = .ok (.aload_n 0, 1) := by decide +kernel
theorem dX11_more_1 : decode cX11_more 1 = .ok (.iload_n 1, 1) := by decide +kernel
theorem dX11_more_2 : decode cX11_more 2 = .ok (.invokestatic 218, 3) := by decide +kernel
theorem dX11_more_5 : decode cX11_more 5 = .ok (.invokevirtual 221, 3) := by decide +kernel
theorem dX11_more_8 : decode cX11_more 8 = .ok (.istore_n 2, 1) := by decide +kernel
theorem dX11_more_9 : decode cX11_more 9 = .ok (.iload_n 2, 1) := by decide +kernel
theorem dX11_more_10 : decode cX11_more 10 = .ok (.ifCond .eq 5, 3) := by decide +kernel
theorem dX11_more_13 : decode cX11_more 13 = .ok (.iload_n 2, 1) := by decide +kernel
theorem dX11_more_14 : decode cX11_more 14 = .ok (.ireturn, 1) := by decide +kernel
theorem dX11_more_15 : decode cX11_more 15 = .ok (.iconst 0, 1) := by decide +kernel
theorem dX11_more_16 : decode cX11_more 16 = .ok (.istore_n 3, 1) := by decide +kernel
theorem dX11_more_17 : decode cX11_more 17 = .ok (.aload_n 0, 1) := by decide +kernel
theorem dX11_more_18 : decode cX11_more 18 = .ok (.getfield 30, 3) := by decide +kernel
theorem dX11_more_21 : decode cX11_more 21 = .ok (.getfield 209, 3) := by decide +kernel
theorem dX11_more_24 : decode cX11_more 24 = .ok (.invokestatic 200, 3) := by decide +kernel
theorem dX11_more_27 : decode cX11_more 27 = .ok (.iconst 4, 1) := by decide +kernel
theorem dX11_more_28 : decode cX11_more 28 = .ok (.if_icmp .ge 70, 3) := by decide +kernel
theorem dX11_more_31 : decode cX11_more 31 = .ok (.iconst 0, 1) := by decide +kernel
theorem dX11_more_32 : decode cX11_more 32 = .ok (.istore 4, 2) := by decide +kernel
theorem dX11_more_34 : decode cX11_more 34 = .ok (.iload 4, 2) := by decide +kernel
theorem dX11_more_36 : decode cX11_more 36 = .ok (.aload_n 0, 1) := by decide +kernel
theorem dX11_more_37 : decode cX11_more 37 = .ok (.getfield 30, 3) := by decide +kernel
theorem dX11_more_40 : decode cX11_more 40 = .ok (.getfield 149, 3) := by decide +kernel
theorem dX11_more_43 : decode cX11_more 43 = .ok (.if_icmp .ge 55, 3) := by decide +kernel
theorem dX11_more_46 : decode cX11_more 46 = .ok (.iconst 1, 1) := by decide +kernel
theorem dX11_more_47 : decode cX11_more 47 = .ok (.iload 4, 2) := by decide +kernel
theorem dX11_more_49 : decode cX11_more 49 = .ok (.ishl, 1) := by decide +kernel
theorem dX11_more_50 : decode cX11_more 50 = .ok (.istore 5, 2) := by decide +kernel
theorem dX11_more_52 : decode cX11_more 52 = .ok (.aload_n 0, 1) := by decide +kernel
theorem dX11_more_53 : decode cX11_more 53 = .ok (.getfield 30, 3) := by decide +kernel
theorem dX11_more_56 : decode cX11_more 56 = .ok (.getfield 209, 3) := by decide +kernel
theorem dX11_more_59 : decode cX11_more 59 = .ok (.iload 5, 2) := by decide +kernel
theorem dX11_more_61 : decode cX11_more 61 = .ok (.iand, 1) := by decide +kernel
theorem dX11_more_62 : decode cX11_more 62 = .ok (.ifCond .ne 30, 3) := by decide +kernel
theorem dX11_more_65 : decode cX11_more 65 = .ok (.aload_n 0, 1) := by decide +kernel
theorem dX11_more_66 : decode cX11_more 66 = .ok (.aload_n 0, 1) := by decide +kernel
theorem dX11_more_67 : decode cX11_more 67 = .ok (.getfield 40, 3) := by decide +kernel
theorem dX11_more_70 : decode cX11_more 70 = .ok (.aload_n 0, 1) := by decide +kernel
theorem dX11_more_71 : decode cX11_more 71 = .ok (.getfield 30, 3) := by decide +kernel
theorem dX11_more_74 : decode cX11_more 74 = .ok (.getfield 209, 3) := by decide +kernel
theorem dX11_more_77 : decode cX11_more 77 = .ok (.iload 5, 2) := by decide +kernel
theorem dX11_more_79 : decode cX11_more 79 = .ok (.ior, 1) := by decide +kernel
theorem dX11_more_80 : decode cX11_more 80 = .ok (.iload_n 1, 1) := by decide +kernel
theorem dX11_more_81 : decode cX11_more 81 = .ok (.invokevirtual 267, 3) := by decide +kernel
theorem dX11_more_84 : decode cX11_more 84 = .ok (.ifCond .eq 8, 3) := by decide +kernel
theorem dX11_more_87 : decode cX11_more 87 = .ok (.iload_n 3, 1) := by decide +kernel
theorem dX11_more_88 : decode cX11_more 88 = .ok (.iload 5, 2) := by decide +kernel
theorem dX11_more_90 : decode cX11_more 90 = .ok (.ior, 1) := by decide +kernel
theorem dX11_more_91 : decode cX11_more 91 = .ok (.istore_n 3, 1) := by decide +kernel
theorem dX11_more_92 : decode cX11_more 92 = .ok (.iinc 4 1, 3) := by decide +kernel
theorem dX11_more_95 : decode cX11_more 95 = .ok (.goto (-61), 3) := by decide +kernel
theorem dX11_more_98 : decode cX11_more 98 = .ok (.iload_n 3, 1) := by decide +kernel
theorem dX11_more_99 : decode cX11_more 99 = .ok (.ireturn, 1) := by decide +kernel
theorem dX11_mend_0 : decode cX11_mend 0 = .ok (.aload_n 0, 1) := by decide +kernel
theorem dX11_mend_1 : decode cX11_mend 1 = .ok (.iload_n 1, 1) := by decide +kernel
theorem dX11_mend_2 : decode cX11_mend 2 = .ok (.invokestatic 218, 3) := by decide +kernel
theorem dX11_mend_5 : decode cX11_mend 5 = .ok (.ifCond .eq 14, 3) := by decide +kernel
theorem dX11_mend_8 : decode cX11_mend 8 = .ok (.iload_n 2, 1) := by decide +kernel
theorem dX11_mend_9 : decode cX11_mend 9 = .ok (.invokestatic 194, 3) := by decide +kernel
theorem dX11_mend_12 : decode cX11_mend 12 = .ok (.ifCond .eq 7, 3) := by decide +kernel
theorem dX11_mend_15 : decode cX11_mend 15 = .ok (.iconst 1, 1) := by decide +kernel
theorem dX11_mend_16 : decode cX11_mend 16 = .ok (.goto 4, 3) := by decide +kernel
theorem dX11_mend_19 : decode cX11_mend 19 = .ok (.iconst 0, 1) := by decide +kernel
theorem dX11_mend_20 : decode cX11_mend 20 = .ok (.invokevirtual 221, 3) := by decide +kernel
theorem dX11_mend_23 : decode cX11_mend 23 = .ok (.istore_n 3, 1) := by decide +kernel
theorem dX11_mend_24 : decode cX11_mend 24 = .ok (.iload_n 3, 1) := by decide +kernel
theorem dX11_mend_25 : decode cX11_mend 25 = .ok (.ifCond .eq 5, 3) := by decide +kernel
theorem dX11_mend_28 : decode cX11_mend 28 = .ok (.iload_n 3, 1) := by decide +kernel
theorem dX11_mend_29 : decode cX11_mend 29 = .ok (.ireturn, 1) := by decide +kernel
theorem dX11_mend_30 : decode cX11_mend 30 = .ok (.aload_n 0, 1) := by decide +kernel
theorem dX11_mend_31 : decode cX11_mend 31 = .ok (.getfield 30, 3) := by decide +kernel
theorem dX11_mend_34 : decode cX11_mend 34 = .ok (.getfield 212, 3) := by decide +kernel
theorem dX11_mend_37 : decode cX11_mend 37 = .ok (.iconst 1, 1) := by decide +kernel
theorem dX11_mend_38 : decode cX11_mend 38 = .ok (.iaload, 1) := by decide +kernel
theorem dX11_mend_39 : decode cX11_mend 39 = .ok (.ifCond .eq 15, 3) := by decide +kernel
theorem dX11_mend_42 : decode cX11_mend 42 = .ok (.aload_n 0, 1) := by decide +kernel
theorem dX11_mend_43 : decode cX11_mend 43 = .ok (.getfield 30, 3) := by decide +kernel
theorem dX11_mend_46 : decode cX11_mend 46 = .ok (.getfield 215, 3) := by decide +kernel
theorem dX11_mend_49 : decode cX11_mend 49 = .ok (.bipush 60, 2) := by decide +kernel
theorem dX11_mend_51 : decode cX11_mend 51 = .ok (.if_icmp .ge 6, 3) := by decide +kernel
theorem dX11_mend_54 : decode cX11_mend 54 = .ok (.ldc 193, 2) := by decide +kernel
theorem dX11_mend_56 : decode cX11_mend 56 = .ok (.ireturn, 1) := by decide +kernel
theorem dX11_mend_57 : decode cX11_mend 57 = .ok (.aload_n 0, 1) := by decide +kernel
theorem dX11_mend_58 : decode cX11_mend 58 = .ok (.iload_n 1, 1) := by decide +kernel
theorem dX11_mend_59 : decode cX11_mend 59 = .ok (.invokevirtual 238, 3) := by decide +kernel
theorem dX11_mend_62 : decode cX11_mend 62 = .ok (.ifCond .ne 6, 3) := by decide +kernel
theorem dX11_mend_65 : decode cX11_mend 65 = .ok (.ldc 241, 2) := by decide +kernel
theorem dX11_mend_67 : decode cX11_mend 67 = .ok (.ireturn, 1) := by decide +kernel
theorem dX11_mend_68 : decode cX11_mend 68 = .ok (.aload_n 0, 1) := by decide +kernel
theorem dX11_mend_69 : decode cX11_mend 69 = .ok (.getfield 44, 3) := by decide +kernel
theorem dX11_mend_72 : decode cX11_mend 72 = .ok (.aload_n 0, 1) := by decide +kernel
theorem dX11_mend_73 : decode cX11_mend 73 = .ok (.getfield 30, 3) := by decide +kernel
theorem dX11_mend_76 : decode cX11_mend 76 = .ok (.aload_n 0, 1) := by decide +kernel
theorem dX11_mend_77 : decode cX11_mend 77 = .ok (.getfield 30, 3) := by decide +kernel
theorem dX11_mend_80 : decode cX11_mend 80 = .ok (.getfield 212, 3) := by decide +kernel
theorem dX11_mend_83 : decode cX11_mend 83 = .ok (.iconst 5, 1) := by decide +kernel
theorem dX11_mend_84 : decode cX11_mend 84 = .ok (.iaload, 1) := by decide +kernel
theorem dX11_mend_85 : decode cX11_mend 85 = .ok (.iload_n 2, 1) := by decide +kernel
theorem dX11_mend_86 : decode cX11_mend 86 = .ok (.invokevirtual 300, 3) := by decide +kernel
theorem dX11_mend_89 : decode cX11_mend 89 = .ok (.aload_n 0, 1) := by decide +kernel
theorem dX11_mend_90 : decode cX11_mend 90 = .ok (.getfield 50, 3) := by decide +kernel
theorem dX11_mend_93 : decode cX11_mend 93 = .ok (.aload_n 0, 1) := by decide +kernel
theorem dX11_mend_94 : decode cX11_mend 94 = .ok (.getfield 30, 3) := by decide +kernel
theorem dX11_mend_97 : decode cX11_mend 97 = .ok (.aload_n 0, 1) := by decide +kernel
theorem dX11_mend_98 : decode cX11_mend 98 = .ok (.getfield 44, 3) := by decide +kernel
theorem dX11_mend_101 : decode cX11_mend 101 = .ok (.aload_n 0, 1) := by decide +kernel
theorem dX11_mend_102 : decode cX11_mend 102 = .ok (.getfield 30, 3) := by decide +kernel
theorem dX11_mend_105 : decode cX11_mend 105 = .ok (.getfield 209, 3) := by decide +kernel
theorem dX11_mend_108 : decode cX11_mend 108 = .ok (.iload_n 1, 1) := by decide +kernel
theorem dX11_mend_109 : decode cX11_mend 109 = .ok (.invokevirtual 249, 3) := by decide +kernel
theorem dX11_mend_112 : decode cX11_mend 112 = .ok (.aload_n 0, 1) := by decide +kernel
theorem dX11_mend_113 : decode cX11_mend 113 = .ok (.getfield 50, 3) := by decide +kernel
theorem dX11_mend_116 : decode cX11_mend 116 = .ok (.aload_n 0, 1) := by decide +kernel
theorem dX11_mend_117 : decode cX11_mend 117 = .ok (.getfield 71, 3) := by decide +kernel
theorem dX11_mend_120 : decode cX11_mend 120 = .ok (.iload_n 2, 1) := by decide +kernel
theorem dX11_mend_121 : decode cX11_mend 121 = .ok (.invokevirtual 313, 3) := by decide +kernel
theorem dX11_mend_124 : decode cX11_mend 124 = .ok (.aload_n 0, 1) := by decide +kernel
theorem dX11_mend_125 : decode cX11_mend 125 = .ok (.getfield 50, 3) := by decide +kernel
theorem dX11_mend_128 : decode cX11_mend 128 = .ok (.aload_n 0, 1) := by decide +kernel
theorem dX11_mend_129 : decode cX11_mend 129 = .ok (.getfield 30, 3) := by decide +kernel
theorem dX11_mend_132 : decode cX11_mend 132 = .ok (.getfield 209, 3) := by decide +kernel
theorem dX11_mend_135 : decode cX11_mend 135 = .ok (.invokevirtual 255, 3) := by decide +kernel
theorem dX11_mend_138 : decode cX11_mend 138 = .ok (.aload_n 0, 1) := by decide +kernel
theorem dX11_mend_139 : decode cX11_mend 139 = .ok (.getfield 50, 3) := by decide +kernel
theorem dX11_mend_142 : decode cX11_mend 142 = .ok (.aload_n 0, 1) := by decide +kernel
theorem dX11_mend_143 : decode cX11_mend 143 = .ok (.getfield 30, 3) := by decide +kernel
theorem dX11_mend_146 : decode cX11_mend 146 = .ok (.getfield 209, 3) := by decide +kernel
theorem dX11_mend_149 : decode cX11_mend 149 = .ok (.iconst 0, 1) := by decide +kernel
theorem dX11_mend_150 : decode cX11_mend 150 = .ok (.invokevirtual 259, 3) := by decide +kernel
theorem dX11_mend_153 : decode cX11_mend 153 = .ok (.ifCond .eq 13, 3) := by decide +kernel
theorem dX11_mend_156 : decode cX11_mend 156 = .ok (.aload_n 0, 1) := by decide +kernel
theorem dX11_mend_157 : decode cX11_mend 157 = .ok (.getfield 50, 3) := by decide +kernel
theorem dX11_mend_160 : decode cX11_mend 160 = .ok (.getfield 317, 3) := by decide +kernel
theorem dX11_mend_163 : decode cX11_mend 163 = .ok (.goto 5, 3) := by decide +kernel
theorem dX11_mend_166 : decode cX11_mend 166 = .ok (.ldc 241, 2) := by decide +kernel
theorem dX11_mend_168 : decode cX11_mend 168 = .ok (.ireturn, 1) := by decide +kernel
theorem dX11_slack_0 : decode cX11_slack 0 = .ok (.aload_n 0, 1) := by decide +kernel
theorem dX11_slack_1 : decode cX11_slack 1 = .ok (.iload_n 1, 1) := by decide +kernel
theorem dX11_slack_2 : decode cX11_slack 2 = .ok (.invokestatic 218, 3) := by decide +kernel
theorem dX11_slack_5 : decode cX11_slack 5 = .ok (.ifCond .eq 11, 3) := by decide +kernel
theorem dX11_slack_8 : decode cX11_slack 8 = .ok (.iload_n 2, 1) := by decide +kernel
theorem dX11_slack_9 : decode cX11_slack 9 = .ok (.ifCond .lt 7, 3) := by decide +kernel
theorem dX11_slack_12 : decode cX11_slack 12 = .ok (.iconst 1, 1) := by decide +kernel
theorem dX11_slack_13 : decode cX11_slack 13 = .ok (.goto 4, 3) := by decide +kernel
theorem dX11_slack_16 : decode cX11_slack 16 = .ok (.iconst 0, 1) := by decide +kernel
theorem dX11_slack_17 : decode cX11_slack 17 = .ok (.invokevirtual 221, 3) := by decide +kernel
theorem dX11_slack_20 : decode cX11_slack 20 = .ok (.istore_n 3, 1) := by decide +kernel
theorem dX11_slack_21 : decode cX11_slack 21 = .ok (.iload_n 3, 1) := by decide +kernel
theorem dX11_slack_22 : decode cX11_slack 22 = .ok (.ifCond .eq 5, 3) := by decide +kernel
theorem dX11_slack_25 : decode cX11_slack 25 = .ok (.iload_n 3, 1) := by decide +kernel
theorem dX11_slack_26 : decode cX11_slack 26 = .ok (.ireturn, 1) := by decide +kernel
theorem dX11_slack_27 : decode cX11_slack 27 = .ok (.aload_n 0, 1) := by decide +kernel
theorem dX11_slack_28 : decode cX11_slack 28 = .ok (.iload_n 1, 1) := by decide +kernel
theorem dX11_slack_29 : decode cX11_slack 29 = .ok (.invokevirtual 238, 3) := by decide +kernel
theorem dX11_slack_32 : decode cX11_slack 32 = .ok (.ifCond .eq 14, 3) := by decide +kernel
theorem dX11_slack_35 : decode cX11_slack 35 = .ok (.iload_n 2, 1) := by decide +kernel
theorem dX11_slack_36 : decode cX11_slack 36 = .ok (.aload_n 0, 1) := by decide +kernel
theorem dX11_slack_37 : decode cX11_slack 37 = .ok (.getfield 71, 3) := by decide +kernel
theorem dX11_slack_40 : decode cX11_slack 40 = .ok (.getfield 228, 3) := by decide +kernel
theorem dX11_slack_43 : decode cX11_slack 43 = .ok (.if_icmp .lt 6, 3) := by decide +kernel
theorem dX11_slack_46 : decode cX11_slack 46 = .ok (.ldc 241, 2) := by decide +kernel
theorem dX11_slack_48 : decode cX11_slack 48 = .ok (.ireturn, 1) := by decide +kernel
theorem dX11_slack_49 : decode cX11_slack 49 = .ok (.aload_n 0, 1) := by decide +kernel
theorem dX11_slack_50 : decode cX11_slack 50 = .ok (.getfield 75, 3) := by decide +kernel
theorem dX11_slack_53 : decode cX11_slack 53 = .ok (.aload_n 0, 1) := by decide +kernel
theorem dX11_slack_54 : decode cX11_slack 54 = .ok (.getfield 71, 3) := by decide +kernel
theorem dX11_slack_57 : decode cX11_slack 57 = .ok (.invokevirtual 320, 3) := by decide +kernel
theorem dX11_slack_60 : decode cX11_slack 60 = .ok (.iconst 0, 1) := by decide +kernel
theorem dX11_slack_61 : decode cX11_slack 61 = .ok (.istore 4, 2) := by decide +kernel
theorem dX11_slack_63 : decode cX11_slack 63 = .ok (.iload 4, 2) := by decide +kernel
theorem dX11_slack_65 : decode cX11_slack 65 = .ok (.bipush 60, 2) := by decide +kernel
theorem dX11_slack_67 : decode cX11_slack 67 = .ok (.if_icmp .ge 48, 3) := by decide +kernel
theorem dX11_slack_70 : decode cX11_slack 70 = .ok (.aload_n 0, 1) := by decide +kernel
theorem dX11_slack_71 : decode cX11_slack 71 = .ok (.getfield 75, 3) := by decide +kernel
theorem dX11_slack_74 : decode cX11_slack 74 = .ok (.getfield 231, 3) := by decide +kernel
theorem dX11_slack_77 : decode cX11_slack 77 = .ok (.iload_n 2, 1) := by decide +kernel
theorem dX11_slack_78 : decode cX11_slack 78 = .ok (.dup2, 1) := by decide +kernel
theorem dX11_slack_79 : decode cX11_slack 79 = .ok (.iaload, 1) := by decide +kernel
theorem dX11_slack_80 : decode cX11_slack 80 = .ok (.iconst 1, 1) := by decide +kernel
theorem dX11_slack_81 : decode cX11_slack 81 = .ok (.iadd, 1) := by decide +kernel
theorem dX11_slack_82 : decode cX11_slack 82 = .ok (.iastore, 1) := by decide +kernel
theorem dX11_slack_83 : decode cX11_slack 83 = .ok (.aload_n 0, 1) := by decide +kernel
theorem dX11_slack_84 : decode cX11_slack 84 = .ok (.getfield 57, 3) := by decide +kernel
theorem dX11_slack_87 : decode cX11_slack 87 = .ok (.aload_n 0, 1) := by decide +kernel
theorem dX11_slack_88 : decode cX11_slack 88 = .ok (.getfield 30, 3) := by decide +kernel
theorem dX11_slack_91 : decode cX11_slack 91 = .ok (.aload_n 0, 1) := by decide +kernel
theorem dX11_slack_92 : decode cX11_slack 92 = .ok (.getfield 40, 3) := by decide +kernel
theorem dX11_slack_95 : decode cX11_slack 95 = .ok (.aload_n 0, 1) := by decide +kernel
theorem dX11_slack_96 : decode cX11_slack 96 = .ok (.getfield 75, 3) := by decide +kernel
theorem dX11_slack_99 : decode cX11_slack 99 = .ok (.iload_n 1, 1) := by decide +kernel
theorem dX11_slack_100 : decode cX11_slack 100 = .ok (.invokevirtual 234, 3) := by decide +kernel
theorem dX11_slack_103 : decode cX11_slack 103 = .ok (.ifCond .eq 6, 3) := by decide +kernel
theorem dX11_slack_106 : decode cX11_slack 106 = .ok (.iload 4, 2) := by decide +kernel
theorem dX11_slack_108 : decode cX11_slack 108 = .ok (.ireturn, 1) := by decide +kernel
theorem dX11_slack_109 : decode cX11_slack 109 = .ok (.iinc 4 1, 3) := by decide +kernel
theorem dX11_slack_112 : decode cX11_slack 112 = .ok (.goto (-49), 3) := by decide +kernel
theorem dX11_slack_115 : decode cX11_slack 115 = .ok (.bipush 60, 2) := by decide +kernel
theorem dX11_slack_117 : decode cX11_slack 117 = .ok (.ireturn, 1) := by decide +kernel
theorem dX11_bears_0 : decode cX11_bears 0 = .ok (.aload_n 0, 1) := by decide +kernel
theorem dX11_bears_1 : decode cX11_bears 1 = .ok (.iload_n 1, 1) := by decide +kernel
theorem dX11_bears_2 : decode cX11_bears 2 = .ok (.invokestatic 218, 3) := by decide +kernel
theorem dX11_bears_5 : decode cX11_bears 5 = .ok (.ifCond .eq 22, 3) := by decide +kernel
theorem dX11_bears_8 : decode cX11_bears 8 = .ok (.iload_n 2, 1) := by decide +kernel
theorem dX11_bears_9 : decode cX11_bears 9 = .ok (.ifCond .lt 18, 3) := by decide +kernel
theorem dX11_bears_12 : decode cX11_bears 12 = .ok (.iload_n 3, 1) := by decide +kernel
theorem dX11_bears_13 : decode cX11_bears 13 = .ok (.iconst 1, 1) := by decide +kernel
theorem dX11_bears_14 : decode cX11_bears 14 = .ok (.if_icmp .lt 13, 3) := by decide +kernel
theorem dX11_bears_17 : decode cX11_bears 17 = .ok (.iload_n 3, 1) := by decide +kernel
theorem dX11_bears_18 : decode cX11_bears 18 = .ok (.bipush 9, 2) := by decide +kernel
theorem dX11_bears_20 : decode cX11_bears 20 = .ok (.if_icmp .gt 7, 3) := by decide +kernel
theorem dX11_bears_23 : decode cX11_bears 23 = .ok (.iconst 1, 1) := by decide +kernel
theorem dX11_bears_24 : decode cX11_bears 24 = .ok (.goto 4, 3) := by decide +kernel
theorem dX11_bears_27 : decode cX11_bears 27 = .ok (.iconst 0, 1) := by decide +kernel
theorem dX11_bears_28 : decode cX11_bears 28 = .ok (.invokevirtual 221, 3) := by decide +kernel
theorem dX11_bears_31 : decode cX11_bears 31 = .ok (.istore 4, 2) := by decide +kernel
theorem dX11_bears_33 : decode cX11_bears 33 = .ok (.iload 4, 2) := by decide +kernel
theorem dX11_bears_35 : decode cX11_bears 35 = .ok (.ifCond .eq 6, 3) := by decide +kernel
theorem dX11_bears_38 : decode cX11_bears 38 = .ok (.iload 4, 2) := by decide +kernel
theorem dX11_bears_40 : decode cX11_bears 40 = .ok (.ireturn, 1) := by decide +kernel
theorem dX11_bears_41 : decode cX11_bears 41 = .ok (.aload_n 0, 1) := by decide +kernel
theorem dX11_bears_42 : decode cX11_bears 42 = .ok (.iload_n 1, 1) := by decide +kernel
theorem dX11_bears_43 : decode cX11_bears 43 = .ok (.invokevirtual 238, 3) := by decide +kernel
theorem dX11_bears_46 : decode cX11_bears 46 = .ok (.ifCond .eq 14, 3) := by decide +kernel
theorem dX11_bears_49 : decode cX11_bears 49 = .ok (.iload_n 2, 1) := by decide +kernel
theorem dX11_bears_50 : decode cX11_bears 50 = .ok (.aload_n 0, 1) := by decide +kernel
theorem dX11_bears_51 : decode cX11_bears 51 = .ok (.getfield 71, 3) := by decide +kernel
theorem dX11_bears_54 : decode cX11_bears 54 = .ok (.getfield 228, 3) := by decide +kernel
theorem dX11_bears_57 : decode cX11_bears 57 = .ok (.if_icmp .lt 6, 3) := by decide +kernel
theorem dX11_bears_60 : decode cX11_bears 60 = .ok (.ldc 241, 2) := by decide +kernel
theorem dX11_bears_62 : decode cX11_bears 62 = .ok (.ireturn, 1) := by decide +kernel
theorem dX11_bears_63 : decode cX11_bears 63 = .ok (.aload_n 0, 1) := by decide +kernel
theorem dX11_bears_64 : decode cX11_bears 64 = .ok (.getfield 75, 3) := by decide +kernel
theorem dX11_bears_67 : decode cX11_bears 67 = .ok (.aload_n 0, 1) := by decide +kernel
theorem dX11_bears_68 : decode cX11_bears 68 = .ok (.getfield 71, 3) := by decide +kernel
theorem dX11_bears_71 : decode cX11_bears 71 = .ok (.invokevirtual 320, 3) := by decide +kernel
theorem dX11_bears_74 : decode cX11_bears 74 = .ok (.aload_n 0, 1) := by decide +kernel
theorem dX11_bears_75 : decode cX11_bears 75 = .ok (.getfield 75, 3) := by decide +kernel
theorem dX11_bears_78 : decode cX11_bears 78 = .ok (.getfield 324, 3) := by decide +kernel
theorem dX11_bears_81 : decode cX11_bears 81 = .ok (.iload_n 2, 1) := by decide +kernel
theorem dX11_bears_82 : decode cX11_bears 82 = .ok (.dup2, 1) := by decide +kernel
theorem dX11_bears_83 : decode cX11_bears 83 = .ok (.iaload, 1) := by decide +kernel
theorem dX11_bears_84 : decode cX11_bears 84 = .ok (.iload_n 3, 1) := by decide +kernel
theorem dX11_bears_85 : decode cX11_bears 85 = .ok (.iadd, 1) := by decide +kernel
theorem dX11_bears_86 : decode cX11_bears 86 = .ok (.iastore, 1) := by decide +kernel
theorem dX11_bears_87 : decode cX11_bears 87 = .ok (.aload_n 0, 1) := by decide +kernel
theorem dX11_bears_88 : decode cX11_bears 88 = .ok (.getfield 57, 3) := by decide +kernel
theorem dX11_bears_91 : decode cX11_bears 91 = .ok (.aload_n 0, 1) := by decide +kernel
theorem dX11_bears_92 : decode cX11_bears 92 = .ok (.getfield 30, 3) := by decide +kernel
theorem dX11_bears_95 : decode cX11_bears 95 = .ok (.aload_n 0, 1) := by decide +kernel
theorem dX11_bears_96 : decode cX11_bears 96 = .ok (.getfield 40, 3) := by decide +kernel
theorem dX11_bears_99 : decode cX11_bears 99 = .ok (.aload_n 0, 1) := by decide +kernel
theorem dX11_bears_100 : decode cX11_bears 100 = .ok (.getfield 75, 3) := by decide +kernel
theorem dX11_bears_103 : decode cX11_bears 103 = .ok (.iload_n 1, 1) := by decide +kernel
theorem dX11_bears_104 : decode cX11_bears 104 = .ok (.invokevirtual 234, 3) := by decide +kernel
theorem dX11_bears_107 : decode cX11_bears 107 = .ok (.ifCond .ne 7, 3) := by decide +kernel
theorem dX11_bears_110 : decode cX11_bears 110 = .ok (.iconst 1, 1) := by decide +kernel
theorem dX11_bears_111 : decode cX11_bears 111 = .ok (.goto 4, 3) := by decide +kernel
theorem dX11_bears_114 : decode cX11_bears 114 = .ok (.iconst 0, 1) := by decide +kernel
theorem dX11_bears_115 : decode cX11_bears 115 = .ok (.ireturn, 1) := by decide +kernel
theorem dX11_mind_0 : decode cX11_mind 0 = .ok (.aload_n 0, 1) := by decide +kernel
theorem dX11_mind_1 : decode cX11_mind 1 = .ok (.iload_n 1, 1) := by decide +kernel
theorem dX11_mind_2 : decode cX11_mind 2 = .ok (.invokestatic 218, 3) := by decide +kernel
theorem dX11_mind_5 : decode cX11_mind 5 = .ok (.ifCond .eq 14, 3) := by decide +kernel
theorem dX11_mind_8 : decode cX11_mind 8 = .ok (.iload_n 2, 1) := by decide +kernel
theorem dX11_mind_9 : decode cX11_mind 9 = .ok (.invokestatic 194, 3) := by decide +kernel
theorem dX11_mind_12 : decode cX11_mind 12 = .ok (.ifCond .eq 7, 3) := by decide +kernel
theorem dX11_mind_15 : decode cX11_mind 15 = .ok (.iconst 1, 1) := by decide +kernel
theorem dX11_mind_16 : decode cX11_mind 16 = .ok (.goto 4, 3) := by decide +kernel
theorem dX11_mind_19 : decode cX11_mind 19 = .ok (.iconst 0, 1) := by decide +kernel
theorem dX11_mind_20 : decode cX11_mind 20 = .ok (.invokevirtual 221, 3) := by decide +kernel
theorem dX11_mind_23 : decode cX11_mind 23 = .ok (.istore_n 3, 1) := by decide +kernel
theorem dX11_mind_24 : decode cX11_mind 24 = .ok (.iload_n 3, 1) := by decide +kernel
theorem dX11_mind_25 : decode cX11_mind 25 = .ok (.ifCond .eq 5, 3) := by decide +kernel
theorem dX11_mind_28 : decode cX11_mind 28 = .ok (.iload_n 3, 1) := by decide +kernel
theorem dX11_mind_29 : decode cX11_mind 29 = .ok (.ireturn, 1) := by decide +kernel
theorem dX11_mind_30 : decode cX11_mind 30 = .ok (.aload_n 0, 1) := by decide +kernel
theorem dX11_mind_31 : decode cX11_mind 31 = .ok (.iload_n 1, 1) := by decide +kernel
theorem dX11_mind_32 : decode cX11_mind 32 = .ok (.invokevirtual 238, 3) := by decide +kernel
theorem dX11_mind_35 : decode cX11_mind 35 = .ok (.ifCond .ne 6, 3) := by decide +kernel
theorem dX11_mind_38 : decode cX11_mind 38 = .ok (.ldc 241, 2) := by decide +kernel
theorem dX11_mind_40 : decode cX11_mind 40 = .ok (.ireturn, 1) := by decide +kernel
theorem dX11_mind_41 : decode cX11_mind 41 = .ok (.ldc 241, 2) := by decide +kernel
theorem dX11_mind_43 : decode cX11_mind 43 = .ok (.istore 4, 2) := by decide +kernel
theorem dX11_mind_45 : decode cX11_mind 45 = .ok (.bipush 60, 2) := by decide +kernel
theorem dX11_mind_47 : decode cX11_mind 47 = .ok (.istore 5, 2) := by decide +kernel
theorem dX11_mind_49 : decode cX11_mind 49 = .ok (.iconst 0, 1) := by decide +kernel
theorem dX11_mind_50 : decode cX11_mind 50 = .ok (.istore 6, 2) := by decide +kernel
theorem dX11_mind_52 : decode cX11_mind 52 = .ok (.iload 6, 2) := by decide +kernel
theorem dX11_mind_54 : decode cX11_mind 54 = .ok (.aload_n 0, 1) := by decide +kernel
theorem dX11_mind_55 : decode cX11_mind 55 = .ok (.getfield 71, 3) := by decide +kernel
theorem dX11_mind_58 : decode cX11_mind 58 = .ok (.getfield 228, 3) := by decide +kernel
theorem dX11_mind_61 : decode cX11_mind 61 = .ok (.if_icmp .ge 54, 3) := by decide +kernel
theorem dX11_mind_64 : decode cX11_mind 64 = .ok (.aload_n 0, 1) := by decide +kernel
theorem dX11_mind_65 : decode cX11_mind 65 = .ok (.getfield 71, 3) := by decide +kernel
theorem dX11_mind_68 : decode cX11_mind 68 = .ok (.getfield 231, 3) := by decide +kernel
theorem dX11_mind_71 : decode cX11_mind 71 = .ok (.iload 6, 2) := by decide +kernel
theorem dX11_mind_73 : decode cX11_mind 73 = .ok (.iaload, 1) := by decide +kernel
theorem dX11_mind_74 : decode cX11_mind 74 = .ok (.iload_n 2, 1) := by decide +kernel
theorem dX11_mind_75 : decode cX11_mind 75 = .ok (.if_icmp .lt 34, 3) := by decide +kernel
theorem dX11_mind_78 : decode cX11_mind 78 = .ok (.aload_n 0, 1) := by decide +kernel
theorem dX11_mind_79 : decode cX11_mind 79 = .ok (.getfield 71, 3) := by decide +kernel
theorem dX11_mind_82 : decode cX11_mind 82 = .ok (.getfield 231, 3) := by decide +kernel
theorem dX11_mind_85 : decode cX11_mind 85 = .ok (.iload 6, 2) := by decide +kernel
theorem dX11_mind_87 : decode cX11_mind 87 = .ok (.iaload, 1) := by decide +kernel
theorem dX11_mind_88 : decode cX11_mind 88 = .ok (.iload 5, 2) := by decide +kernel
theorem dX11_mind_90 : decode cX11_mind 90 = .ok (.if_icmp .ge 19, 3) := by decide +kernel
theorem dX11_mind_93 : decode cX11_mind 93 = .ok (.iload 6, 2) := by decide +kernel
theorem dX11_mind_95 : decode cX11_mind 95 = .ok (.istore 4, 2) := by decide +kernel
theorem dX11_mind_97 : decode cX11_mind 97 = .ok (.aload_n 0, 1) := by decide +kernel
theorem dX11_mind_98 : decode cX11_mind 98 = .ok (.getfield 71, 3) := by decide +kernel
theorem dX11_mind_101 : decode cX11_mind 101 = .ok (.getfield 231, 3) := by decide +kernel
theorem dX11_mind_104 : decode cX11_mind 104 = .ok (.iload 6, 2) := by decide +kernel
theorem dX11_mind_106 : decode cX11_mind 106 = .ok (.iaload, 1) := by decide +kernel
theorem dX11_mind_107 : decode cX11_mind 107 = .ok (.istore 5, 2) := by decide +kernel
theorem dX11_mind_109 : decode cX11_mind 109 = .ok (.iinc 6 1, 3) := by decide +kernel
theorem dX11_mind_112 : decode cX11_mind 112 = .ok (.goto (-60), 3) := by decide +kernel
theorem dX11_mind_115 : decode cX11_mind 115 = .ok (.iload 4, 2) := by decide +kernel
theorem dX11_mind_117 : decode cX11_mind 117 = .ok (.ireturn, 1) := by decide +kernel
theorem dX11_image_0 : decode cX11_image 0 = .ok (.aload_n 0, 1) := by decide +kernel
theorem dX11_image_1 : decode cX11_image 1 = .ok (.iload_n 1, 1) := by decide +kernel
theorem dX11_image_2 : decode cX11_image 2 = .ok (.ifCond .lt 12, 3) := by decide +kernel
theorem dX11_image_5 : decode cX11_image 5 = .ok (.iload_n 1, 1) := by decide +kernel
theorem dX11_image_6 : decode cX11_image 6 = .ok (.iconst 2, 1) := by decide +kernel
theorem dX11_image_7 : decode cX11_image 7 = .ok (.if_icmp .ge 7, 3) := by decide +kernel
theorem dX11_image_10 : decode cX11_image 10 = .ok (.iconst 1, 1) := by decide +kernel
theorem dX11_image_11 : decode cX11_image 11 = .ok (.goto 4, 3) := by decide +kernel
theorem dX11_image_14 : decode cX11_image 14 = .ok (.iconst 0, 1) := by decide +kernel
theorem dX11_image_15 : decode cX11_image 15 = .ok (.invokevirtual 221, 3) := by decide +kernel
theorem dX11_image_18 : decode cX11_image 18 = .ok (.istore_n 2, 1) := by decide +kernel
theorem dX11_image_19 : decode cX11_image 19 = .ok (.iload_n 2, 1) := by decide +kernel
theorem dX11_image_20 : decode cX11_image 20 = .ok (.ifCond .eq 5, 3) := by decide +kernel
theorem dX11_image_23 : decode cX11_image 23 = .ok (.iload_n 2, 1) := by decide +kernel
theorem dX11_image_24 : decode cX11_image 24 = .ok (.ireturn, 1) := by decide +kernel
theorem dX11_image_25 : decode cX11_image 25 = .ok (.aload_n 0, 1) := by decide +kernel
theorem dX11_image_26 : decode cX11_image 26 = .ok (.getfield 26, 3) := by decide +kernel
theorem dX11_image_29 : decode cX11_image 29 = .ok (.iload_n 1, 1) := by decide +kernel
theorem dX11_image_30 : decode cX11_image 30 = .ok (.aaload, 1) := by decide +kernel
theorem dX11_image_31 : decode cX11_image 31 = .ok (.aload_n 0, 1) := by decide +kernel
theorem dX11_image_32 : decode cX11_image 32 = .ok (.getfield 30, 3) := by decide +kernel
theorem dX11_image_35 : decode cX11_image 35 = .ok (.invokevirtual 325, 3) := by decide +kernel
theorem dX11_image_38 : decode cX11_image 38 = .ok (.iconst 1, 1) := by decide +kernel
theorem dX11_image_39 : decode cX11_image 39 = .ok (.ireturn, 1) := by decide +kernel
theorem dX11_restore_0 : decode cX11_restore 0 = .ok (.iload_n 1, 1) := by decide +kernel
theorem dX11_restore_1 : decode cX11_restore 1 = .ok (.ifCond .lt 8, 3) := by decide +kernel
theorem dX11_restore_4 : decode cX11_restore 4 = .ok (.iload_n 1, 1) := by decide +kernel
theorem dX11_restore_5 : decode cX11_restore 5 = .ok (.iconst 2, 1) := by decide +kernel
theorem dX11_restore_6 : decode cX11_restore 6 = .ok (.if_icmp .lt 6, 3) := by decide +kernel
theorem dX11_restore_9 : decode cX11_restore 9 = .ok (.ldc 82, 2) := by decide +kernel
theorem dX11_restore_11 : decode cX11_restore 11 = .ok (.ireturn, 1) := by decide +kernel
theorem dX11_restore_12 : decode cX11_restore 12 = .ok (.aload_n 0, 1) := by decide +kernel
theorem dX11_restore_13 : decode cX11_restore 13 = .ok (.getfield 26, 3) := by decide +kernel
theorem dX11_restore_16 : decode cX11_restore 16 = .ok (.iload_n 1, 1) := by decide +kernel
theorem dX11_restore_17 : decode cX11_restore 17 = .ok (.aaload, 1) := by decide +kernel
theorem dX11_restore_18 : decode cX11_restore 18 = .ok (.invokevirtual 189, 3) := by decide +kernel
theorem dX11_restore_21 : decode cX11_restore 21 = .ok (.ifCond .ne 6, 3) := by decide +kernel
