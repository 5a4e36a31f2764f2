theorem dL_cell_0 : decode cL_cell 0 = .ok (.iload_n 1, 1) := by decide +kernel
theorem dL_cell_1 : decode cL_cell 1 = .ok (.aload_n 0, 1) := by decide +kernel
theorem dL_cell_2 : decode cL_cell 2 = .ok (.arraylength, 1) := by decide +kernel
theorem dL_cell_3 : decode cL_cell 3 = .ok (.if_icmp .ge 9, 3) := by decide +kernel
theorem dL_cell_6 : decode cL_cell 6 = .ok (.aload_n 0, 1) := by decide +kernel
theorem dL_cell_7 : decode cL_cell 7 = .ok (.iload_n 1, 1) := by decide +kernel
theorem dL_cell_8 : decode cL_cell 8 = .ok (.iaload, 1) := by decide +kernel
theorem dL_cell_9 : decode cL_cell 9 = .ok (.goto 10, 3) := by decide +kernel
theorem dL_cell_12 : decode cL_cell 12 = .ok (.ldc 7, 2) := by decide +kernel
theorem dL_cell_14 : decode cL_cell 14 = .ok (.iload_n 1, 1) := by decide +kernel
theorem dL_cell_15 : decode cL_cell 15 = .ok (.imul, 1) := by decide +kernel
theorem dL_cell_16 : decode cL_cell 16 = .ok (.ldc 8, 2) := by decide +kernel
theorem dL_cell_18 : decode cL_cell 18 = .ok (.iadd, 1) := by decide +kernel
theorem dL_cell_19 : decode cL_cell 19 = .ok (.ireturn, 1) := by decide +kernel
theorem dL_low_0 : decode cL_low 0 = .ok (.iload_n 0, 1) := by decide +kernel
theorem dL_low_1 : decode cL_low 1 = .ok (.ldc 9, 2) := by decide +kernel
theorem dL_low_3 : decode cL_low 3 = .ok (.iand, 1) := by decide +kernel
theorem dL_low_4 : decode cL_low 4 = .ok (.iload_n 1, 1) := by decide +kernel
theorem dL_low_5 : decode cL_low 5 = .ok (.irem, 1) := by decide +kernel
theorem dL_low_6 : decode cL_low 6 = .ok (.ireturn, 1) := by decide +kernel
theorem dL_one_0 : decode cL_one 0 = .ok (.aload_n 0, 1) := by decide +kernel
theorem dL_one_1 : decode cL_one 1 = .ok (.iload_n 1, 1) := by decide +kernel
theorem dL_one_2 : decode cL_one 2 = .ok (.iaload, 1) := by decide +kernel
theorem dL_one_3 : decode cL_one 3 = .ok (.bipush 16, 2) := by decide +kernel
theorem dL_one_5 : decode cL_one 5 = .ok (.irem, 1) := by decide +kernel
theorem dL_one_6 : decode cL_one 6 = .ok (.ireturn, 1) := by decide +kernel
theorem dL_two_0 : decode cL_two 0 = .ok (.aload_n 0, 1) := by decide +kernel
theorem dL_two_1 : decode cL_two 1 = .ok (.iload_n 1, 1) := by decide +kernel
theorem dL_two_2 : decode cL_two 2 = .ok (.iaload, 1) := by decide +kernel
theorem dL_two_3 : decode cL_two 3 = .ok (.bipush 16, 2) := by decide +kernel
theorem dL_two_5 : decode cL_two 5 = .ok (.idiv, 1) := by decide +kernel
theorem dL_two_6 : decode cL_two 6 = .ok (.bipush 16, 2) := by decide +kernel
theorem dL_two_8 : decode cL_two 8 = .ok (.irem, 1) := by decide +kernel
theorem dL_two_9 : decode cL_two 9 = .ok (.ireturn, 1) := by decide +kernel
theorem dL_creak_0 : decode cL_creak 0 = .ok (.aload_n 0, 1) := by decide +kernel
theorem dL_creak_1 : decode cL_creak 1 = .ok (.iload_n 1, 1) := by decide +kernel
theorem dL_creak_2 : decode cL_creak 2 = .ok (.iaload, 1) := by decide +kernel
theorem dL_creak_3 : decode cL_creak 3 = .ok (.sipush 256, 3) := by decide +kernel
theorem dL_creak_6 : decode cL_creak 6 = .ok (.idiv, 1) := by decide +kernel
theorem dL_creak_7 : decode cL_creak 7 = .ok (.bipush 16, 2) := by decide +kernel
theorem dL_creak_9 : decode cL_creak 9 = .ok (.irem, 1) := by decide +kernel
theorem dL_creak_10 : decode cL_creak 10 = .ok (.ireturn, 1) := by decide +kernel
theorem dL_minutes_0 : decode cL_minutes 0 = .ok (.aload_n 0, 1) := by decide +kernel
theorem dL_minutes_1 : decode cL_minutes 1 = .ok (.iload_n 1, 1) := by decide +kernel
theorem dL_minutes_2 : decode cL_minutes 2 = .ok (.iaload, 1) := by decide +kernel
theorem dL_minutes_3 : decode cL_minutes 3 = .ok (.sipush 4096, 3) := by decide +kernel
theorem dL_minutes_6 : decode cL_minutes 6 = .ok (.idiv, 1) := by decide +kernel
theorem dL_minutes_7 : decode cL_minutes 7 = .ok (.ireturn, 1) := by decide +kernel
theorem dL_reach_0 : decode cL_reach 0 = .ok (.iconst 1, 1) := by decide +kernel
theorem dL_reach_1 : decode cL_reach 1 = .ok (.iload_n 2, 1) := by decide +kernel
theorem dL_reach_2 : decode cL_reach 2 = .ok (.ishl, 1) := by decide +kernel
theorem dL_reach_3 : decode cL_reach 3 = .ok (.istore 5, 2) := by decide +kernel
theorem dL_reach_5 : decode cL_reach 5 = .ok (.iconst 0, 1) := by decide +kernel
theorem dL_reach_6 : decode cL_reach 6 = .ok (.istore 6, 2) := by decide +kernel
theorem dL_reach_8 : decode cL_reach 8 = .ok (.iload 6, 2) := by decide +kernel
theorem dL_reach_10 : decode cL_reach 10 = .ok (.iload 4, 2) := by decide +kernel
theorem dL_reach_12 : decode cL_reach 12 = .ok (.if_icmp .ge 121, 3) := by decide +kernel
theorem dL_reach_15 : decode cL_reach 15 = .ok (.iload 5, 2) := by decide +kernel
theorem dL_reach_17 : decode cL_reach 17 = .ok (.istore 7, 2) := by decide +kernel
theorem dL_reach_19 : decode cL_reach 19 = .ok (.iconst 0, 1) := by decide +kernel
theorem dL_reach_20 : decode cL_reach 20 = .ok (.istore 8, 2) := by decide +kernel
theorem dL_reach_22 : decode cL_reach 22 = .ok (.iload 8, 2) := by decide +kernel
theorem dL_reach_24 : decode cL_reach 24 = .ok (.aload_n 1, 1) := by decide +kernel
theorem dL_reach_25 : decode cL_reach 25 = .ok (.iconst 4, 1) := by decide +kernel
theorem dL_reach_26 : decode cL_reach 26 = .ok (.iaload, 1) := by decide +kernel
theorem dL_reach_27 : decode cL_reach 27 = .ok (.if_icmp .ge 100, 3) := by decide +kernel
theorem dL_reach_30 : decode cL_reach 30 = .ok (.iload_n 3, 1) := by decide +kernel
theorem dL_reach_31 : decode cL_reach 31 = .ok (.iload 8, 2) := by decide +kernel
theorem dL_reach_33 : decode cL_reach 33 = .ok (.ishr, 1) := by decide +kernel
theorem dL_reach_34 : decode cL_reach 34 = .ok (.iconst 1, 1) := by decide +kernel
theorem dL_reach_35 : decode cL_reach 35 = .ok (.iand, 1) := by decide +kernel
theorem dL_reach_36 : decode cL_reach 36 = .ok (.iconst 1, 1) := by decide +kernel
theorem dL_reach_37 : decode cL_reach 37 = .ok (.if_icmp .ne 7, 3) := by decide +kernel
theorem dL_reach_40 : decode cL_reach 40 = .ok (.iconst 1, 1) := by decide +kernel
theorem dL_reach_41 : decode cL_reach 41 = .ok (.goto 4, 3) := by decide +kernel
theorem dL_reach_44 : decode cL_reach 44 = .ok (.iconst 0, 1) := by decide +kernel
theorem dL_reach_45 : decode cL_reach 45 = .ok (.istore 9, 2) := by decide +kernel
theorem dL_reach_47 : decode cL_reach 47 = .ok (.iload 5, 2) := by decide +kernel
theorem dL_reach_49 : decode cL_reach 49 = .ok (.iload 9, 2) := by decide +kernel
theorem dL_reach_51 : decode cL_reach 51 = .ok (.ifCond .eq 29, 3) := by decide +kernel
theorem dL_reach_54 : decode cL_reach 54 = .ok (.iload 7, 2) := by decide +kernel
theorem dL_reach_56 : decode cL_reach 56 = .ok (.aload_n 0, 1) := by decide +kernel
theorem dL_reach_57 : decode cL_reach 57 = .ok (.iload 8, 2) := by decide +kernel
theorem dL_reach_59 : decode cL_reach 59 = .ok (.invokestatic 10, 3) := by decide +kernel
theorem dL_reach_62 : decode cL_reach 62 = .ok (.ishr, 1) := by decide +kernel
theorem dL_reach_63 : decode cL_reach 63 = .ok (.iconst 1, 1) := by decide +kernel
theorem dL_reach_64 : decode cL_reach 64 = .ok (.iand, 1) := by decide +kernel
theorem dL_reach_65 : decode cL_reach 65 = .ok (.iconst 1, 1) := by decide +kernel
theorem dL_reach_66 : decode cL_reach 66 = .ok (.if_icmp .ne 14, 3) := by decide +kernel
theorem dL_reach_69 : decode cL_reach 69 = .ok (.iconst 1, 1) := by decide +kernel
theorem dL_reach_70 : decode cL_reach 70 = .ok (.aload_n 0, 1) := by decide +kernel
theorem dL_reach_71 : decode cL_reach 71 = .ok (.iload 8, 2) := by decide +kernel
theorem dL_reach_73 : decode cL_reach 73 = .ok (.invokestatic 16, 3) := by decide +kernel
theorem dL_reach_76 : decode cL_reach 76 = .ok (.ishl, 1) := by decide +kernel
theorem dL_reach_77 : decode cL_reach 77 = .ok (.goto 4, 3) := by decide +kernel
theorem dL_reach_80 : decode cL_reach 80 = .ok (.iconst 0, 1) := by decide +kernel
theorem dL_reach_81 : decode cL_reach 81 = .ok (.ior, 1) := by decide +kernel
theorem dL_reach_82 : decode cL_reach 82 = .ok (.istore 5, 2) := by decide +kernel
theorem dL_reach_84 : decode cL_reach 84 = .ok (.iload 5, 2) := by decide +kernel
theorem dL_reach_86 : decode cL_reach 86 = .ok (.iload 9, 2) := by decide +kernel
theorem dL_reach_88 : decode cL_reach 88 = .ok (.ifCond .eq 29, 3) := by decide +kernel
theorem dL_reach_91 : decode cL_reach 91 = .ok (.iload 7, 2) := by decide +kernel
theorem dL_reach_93 : decode cL_reach 93 = .ok (.aload_n 0, 1) := by decide +kernel
theorem dL_reach_94 : decode cL_reach 94 = .ok (.iload 8, 2) := by decide +kernel
theorem dL_reach_96 : decode cL_reach 96 = .ok (.invokestatic 16, 3) := by decide +kernel
theorem dL_reach_99 : decode cL_reach 99 = .ok (.ishr, 1) := by decide +kernel
theorem dL_reach_100 : decode cL_reach 100 = .ok (.iconst 1, 1) := by decide +kernel
theorem dL_reach_101 : decode cL_reach 101 = .ok (.iand, 1) := by decide +kernel
theorem dL_reach_102 : decode cL_reach 102 = .ok (.iconst 1, 1) := by decide +kernel
theorem dL_reach_103 : decode cL_reach 103 = .ok (.if_icmp .ne 14, 3) := by decide +kernel
theorem dL_reach_106 : decode cL_reach 106 = .ok (.iconst 1, 1) := by decide +kernel
theorem dL_reach_107 : decode cL_reach 107 = .ok (.aload_n 0, 1) := by decide +kernel
theorem dL_reach_108 : decode cL_reach 108 = .ok (.iload 8, 2) := by decide +kernel
theorem dL_reach_110 : decode cL_reach 110 = .ok (.invokestatic 10, 3) := by decide +kernel
theorem dL_reach_113 : decode cL_reach 113 = .ok (.ishl, 1) := by decide +kernel
theorem dL_reach_114 : decode cL_reach 114 = .ok (.goto 4, 3) := by decide +kernel
theorem dL_reach_117 : decode cL_reach 117 = .ok (.iconst 0, 1) := by decide +kernel
theorem dL_reach_118 : decode cL_reach 118 = .ok (.ior, 1) := by decide +kernel
theorem dL_reach_119 : decode cL_reach 119 = .ok (.istore 5, 2) := by decide +kernel
theorem dL_reach_121 : decode cL_reach 121 = .ok (.iinc 8 1, 3) := by decide +kernel
theorem dL_reach_124 : decode cL_reach 124 = .ok (.goto (-102), 3) := by decide +kernel
theorem dL_reach_127 : decode cL_reach 127 = .ok (.iinc 6 1, 3) := by decide +kernel
theorem dL_reach_130 : decode cL_reach 130 = .ok (.goto (-122), 3) := by decide +kernel
theorem dL_reach_133 : decode cL_reach 133 = .ok (.iload 5, 2) := by decide +kernel
theorem dL_reach_135 : decode cL_reach 135 = .ok (.ireturn, 1) := by decide +kernel
theorem dL_all_0 : decode cL_all 0 = .ok (.iconst 1, 1) := by decide +kernel
theorem dL_all_1 : decode cL_all 1 = .ok (.aload_n 0, 1) := by decide +kernel
theorem dL_all_2 : decode cL_all 2 = .ok (.iconst 4, 1) := by decide +kernel
theorem dL_all_3 : decode cL_all 3 = .ok (.iaload, 1) := by decide +kernel
theorem dL_all_4 : decode cL_all 4 = .ok (.ishl, 1) := by decide +kernel
theorem dL_all_5 : decode cL_all 5 = .ok (.iconst 1, 1) := by decide +kernel
theorem dL_all_6 : decode cL_all 6 = .ok (.isub, 1) := by decide +kernel
theorem dL_all_7 : decode cL_all 7 = .ok (.ireturn, 1) := by decide +kernel
theorem dL_far_0 : decode cL_far 0 = .ok (.bipush (-6), 2) := by decide +kernel
theorem dL_far_2 : decode cL_far 2 = .ok (.istore 4, 2) := by decide +kernel
theorem dL_far_4 : decode cL_far 4 = .ok (.bipush 9, 2) := by decide +kernel
theorem dL_far_6 : decode cL_far 6 = .ok (.istore 5, 2) := by decide +kernel
theorem dL_far_8 : decode cL_far 8 = .ok (.iload 5, 2) := by decide +kernel
theorem dL_far_10 : decode cL_far 10 = .ok (.ifCond .lt 38, 3) := by decide +kernel
theorem dL_far_13 : decode cL_far 13 = .ok (.aload_n 0, 1) := by decide +kernel
theorem dL_far_14 : decode cL_far 14 = .ok (.aload_n 1, 1) := by decide +kernel
theorem dL_far_15 : decode cL_far 15 = .ok (.iload_n 2, 1) := by decide +kernel
theorem dL_far_16 : decode cL_far 16 = .ok (.aload_n 1, 1) := by decide +kernel
theorem dL_far_17 : decode cL_far 17 = .ok (.invokestatic 21, 3) := by decide +kernel
theorem dL_far_20 : decode cL_far 20 = .ok (.iload 5, 2) := by decide +kernel
theorem dL_far_22 : decode cL_far 22 = .ok (.invokestatic 25, 3) := by decide +kernel
theorem dL_far_25 : decode cL_far 25 = .ok (.iload_n 3, 1) := by decide +kernel
theorem dL_far_26 : decode cL_far 26 = .ok (.ishr, 1) := by decide +kernel
theorem dL_far_27 : decode cL_far 27 = .ok (.iconst 1, 1) := by decide +kernel
theorem dL_far_28 : decode cL_far 28 = .ok (.iand, 1) := by decide +kernel
theorem dL_far_29 : decode cL_far 29 = .ok (.iconst 1, 1) := by decide +kernel
theorem dL_far_30 : decode cL_far 30 = .ok (.if_icmp .ne 8, 3) := by decide +kernel
theorem dL_far_33 : decode cL_far 33 = .ok (.iload 5, 2) := by decide +kernel
theorem dL_far_35 : decode cL_far 35 = .ok (.goto 5, 3) := by decide +kernel
theorem dL_far_38 : decode cL_far 38 = .ok (.iload 4, 2) := by decide +kernel
theorem dL_far_40 : decode cL_far 40 = .ok (.istore 4, 2) := by decide +kernel
theorem dL_far_42 : decode cL_far 42 = .ok (.iinc 5 (-1), 3) := by decide +kernel
theorem dL_far_45 : decode cL_far 45 = .ok (.goto (-37), 3) := by decide +kernel
theorem dL_far_48 : decode cL_far 48 = .ok (.iload 4, 2) := by decide +kernel
theorem dL_far_50 : decode cL_far 50 = .ok (.ireturn, 1) := by decide +kernel
theorem dL_loud_0 : decode cL_loud 0 = .ok (.aload_n 0, 1) := by decide +kernel
theorem dL_loud_1 : decode cL_loud 1 = .ok (.aload_n 2, 1) := by decide +kernel
theorem dL_loud_2 : decode cL_loud 2 = .ok (.aload_n 1, 1) := by decide +kernel
theorem dL_loud_3 : decode cL_loud 3 = .ok (.iload 4, 2) := by decide +kernel
theorem dL_loud_5 : decode cL_loud 5 = .ok (.iaload, 1) := by decide +kernel
theorem dL_loud_6 : decode cL_loud 6 = .ok (.aload_n 0, 1) := by decide +kernel
theorem dL_loud_7 : decode cL_loud 7 = .ok (.iload_n 3, 1) := by decide +kernel
theorem dL_loud_8 : decode cL_loud 8 = .ok (.invokestatic 10, 3) := by decide +kernel
theorem dL_loud_11 : decode cL_loud 11 = .ok (.invokestatic 29, 3) := by decide +kernel
theorem dL_loud_14 : decode cL_loud 14 = .ok (.istore 5, 2) := by decide +kernel
theorem dL_loud_16 : decode cL_loud 16 = .ok (.aload_n 0, 1) := by decide +kernel
theorem dL_loud_17 : decode cL_loud 17 = .ok (.aload_n 2, 1) := by decide +kernel
theorem dL_loud_18 : decode cL_loud 18 = .ok (.aload_n 1, 1) := by decide +kernel
theorem dL_loud_19 : decode cL_loud 19 = .ok (.iload 4, 2) := by decide +kernel
theorem dL_loud_21 : decode cL_loud 21 = .ok (.iaload, 1) := by decide +kernel
theorem dL_loud_22 : decode cL_loud 22 = .ok (.aload_n 0, 1) := by decide +kernel
theorem dL_loud_23 : decode cL_loud 23 = .ok (.iload_n 3, 1) := by decide +kernel
theorem dL_loud_24 : decode cL_loud 24 = .ok (.invokestatic 16, 3) := by decide +kernel
theorem dL_loud_27 : decode cL_loud 27 = .ok (.invokestatic 29, 3) := by decide +kernel
theorem dL_loud_30 : decode cL_loud 30 = .ok (.istore 6, 2) := by decide +kernel
theorem dL_loud_32 : decode cL_loud 32 = .ok (.iload 5, 2) := by decide +kernel
theorem dL_loud_34 : decode cL_loud 34 = .ok (.ifCond .ge 8, 3) := by decide +kernel
theorem dL_loud_37 : decode cL_loud 37 = .ok (.iload 6, 2) := by decide +kernel
theorem dL_loud_39 : decode cL_loud 39 = .ok (.goto 22, 3) := by decide +kernel
theorem dL_loud_42 : decode cL_loud 42 = .ok (.iload 6, 2) := by decide +kernel
theorem dL_loud_44 : decode cL_loud 44 = .ok (.ifCond .lt 10, 3) := by decide +kernel
theorem dL_loud_47 : decode cL_loud 47 = .ok (.iload 5, 2) := by decide +kernel
theorem dL_loud_49 : decode cL_loud 49 = .ok (.iload 6, 2) := by decide +kernel
theorem dL_loud_51 : decode cL_loud 51 = .ok (.if_icmp .ge 8, 3) := by decide +kernel
theorem dL_loud_54 : decode cL_loud 54 = .ok (.iload 5, 2) := by decide +kernel
theorem dL_loud_56 : decode cL_loud 56 = .ok (.goto 5, 3) := by decide +kernel
theorem dL_loud_59 : decode cL_loud 59 = .ok (.iload 6, 2) := by decide +kernel
theorem dL_loud_61 : decode cL_loud 61 = .ok (.istore 7, 2) := by decide +kernel
theorem dL_loud_63 : decode cL_loud 63 = .ok (.iload 7, 2) := by decide +kernel
theorem dL_loud_65 : decode cL_loud 65 = .ok (.ifCond .lt 13, 3) := by decide +kernel
theorem dL_loud_68 : decode cL_loud 68 = .ok (.aload_n 0, 1) := by decide +kernel
theorem dL_loud_69 : decode cL_loud 69 = .ok (.iload_n 3, 1) := by decide +kernel
theorem dL_loud_70 : decode cL_loud 70 = .ok (.invokestatic 33, 3) := by decide +kernel
theorem dL_loud_73 : decode cL_loud 73 = .ok (.iload 7, 2) := by decide +kernel
theorem dL_loud_75 : decode cL_loud 75 = .ok (.if_icmp .ge 7, 3) := by decide +kernel
theorem dL_loud_78 : decode cL_loud 78 = .ok (.iconst 0, 1) := by decide +kernel
theorem dL_loud_79 : decode cL_loud 79 = .ok (.goto 11, 3) := by decide +kernel
theorem dL_loud_82 : decode cL_loud 82 = .ok (.aload_n 0, 1) := by decide +kernel
theorem dL_loud_83 : decode cL_loud 83 = .ok (.iload_n 3, 1) := by decide +kernel
theorem dL_loud_84 : decode cL_loud 84 = .ok (.invokestatic 33, 3) := by decide +kernel
theorem dL_loud_87 : decode cL_loud 87 = .ok (.iload 7, 2) := by decide +kernel
theorem dL_loud_89 : decode cL_loud 89 = .ok (.isub, 1) := by decide +kernel
theorem dL_loud_90 : decode cL_loud 90 = .ok (.ireturn, 1) := by decide +kernel
theorem dL_watched_0 : decode cL_watched 0 = .ok (.iconst 0, 1) := by decide +kernel
theorem dL_watched_1 : decode cL_watched 1 = .ok (.istore_n 2, 1) := by decide +kernel
theorem dL_watched_2 : decode cL_watched 2 = .ok (.iconst 0, 1) := by decide +kernel
theorem dL_watched_3 : decode cL_watched 3 = .ok (.istore_n 3, 1) := by decide +kernel
theorem dL_watched_4 : decode cL_watched 4 = .ok (.iload_n 3, 1) := by decide +kernel
theorem dL_watched_5 : decode cL_watched 5 = .ok (.aload_n 1, 1) := by decide +kernel
theorem dL_watched_6 : decode cL_watched 6 = .ok (.iconst 5, 1) := by decide +kernel
theorem dL_watched_7 : decode cL_watched 7 = .ok (.iaload, 1) := by decide +kernel
theorem dL_watched_8 : decode cL_watched 8 = .ok (.if_icmp .ge 30, 3) := by decide +kernel
theorem dL_watched_11 : decode cL_watched 11 = .ok (.iload_n 2, 1) := by decide +kernel
theorem dL_watched_12 : decode cL_watched 12 = .ok (.aload_n 0, 1) := by decide +kernel
theorem dL_watched_13 : decode cL_watched 13 = .ok (.bipush 10, 2) := by decide +kernel
theorem dL_watched_15 : decode cL_watched 15 = .ok (.iload_n 3, 1) := by decide +kernel
theorem dL_watched_16 : decode cL_watched 16 = .ok (.iadd, 1) := by decide +kernel
theorem dL_watched_17 : decode cL_watched 17 = .ok (.iaload, 1) := by decide +kernel
theorem dL_watched_18 : decode cL_watched 18 = .ok (.ifCond .le 11, 3) := by decide +kernel
theorem dL_watched_21 : decode cL_watched 21 = .ok (.iconst 1, 1) := by decide +kernel
theorem dL_watched_22 : decode cL_watched 22 = .ok (.aload_n 0, 1) := by decide +kernel
theorem dL_watched_23 : decode cL_watched 23 = .ok (.iload_n 3, 1) := by decide +kernel
theorem dL_watched_24 : decode cL_watched 24 = .ok (.iaload, 1) := by decide +kernel
theorem dL_watched_25 : decode cL_watched 25 = .ok (.ishl, 1) := by decide +kernel
theorem dL_watched_26 : decode cL_watched 26 = .ok (.goto 4, 3) := by decide +kernel
theorem dL_watched_29 : decode cL_watched 29 = .ok (.iconst 0, 1) := by decide +kernel
theorem dL_watched_30 : decode cL_watched 30 = .ok (.ior, 1) := by decide +kernel
theorem dL_watched_31 : decode cL_watched 31 = .ok (.istore_n 2, 1) := by decide +kernel
theorem dL_watched_32 : decode cL_watched 32 = .ok (.iinc 3 1, 3) := by decide +kernel
theorem dL_watched_35 : decode cL_watched 35 = .ok (.goto (-31), 3) := by decide +kernel
theorem dL_watched_38 : decode cL_watched 38 = .ok (.iload_n 2, 1) := by decide +kernel
theorem dL_watched_39 : decode cL_watched 39 = .ok (.ireturn, 1) := by decide +kernel
theorem dL_free_0 : decode cL_free 0 = .ok (.iconst 1, 1) := by decide +kernel
theorem dL_free_1 : decode cL_free 1 = .ok (.aload_n 0, 1) := by decide +kernel
theorem dL_free_2 : decode cL_free 2 = .ok (.iload 5, 2) := by decide +kernel
theorem dL_free_4 : decode cL_free 4 = .ok (.invokestatic 10, 3) := by decide +kernel
theorem dL_free_7 : decode cL_free 7 = .ok (.ishl, 1) := by decide +kernel
theorem dL_free_8 : decode cL_free 8 = .ok (.iconst 1, 1) := by decide +kernel
theorem dL_free_9 : decode cL_free 9 = .ok (.aload_n 0, 1) := by decide +kernel
theorem dL_free_10 : decode cL_free 10 = .ok (.iload 5, 2) := by decide +kernel
theorem dL_free_12 : decode cL_free 12 = .ok (.invokestatic 16, 3) := by decide +kernel
theorem dL_free_15 : decode cL_free 15 = .ok (.ishl, 1) := by decide +kernel
theorem dL_free_16 : decode cL_free 16 = .ok (.ior, 1) := by decide +kernel
theorem dL_free_17 : decode cL_free 17 = .ok (.istore 6, 2) := by decide +kernel
theorem dL_free_19 : decode cL_free 19 = .ok (.aload_n 1, 1) := by decide +kernel
theorem dL_free_20 : decode cL_free 20 = .ok (.iconst 4, 1) := by decide +kernel
theorem dL_free_21 : decode cL_free 21 = .ok (.iload 4, 2) := by decide +kernel
theorem dL_free_23 : decode cL_free 23 = .ok (.iadd, 1) := by decide +kernel
theorem dL_free_24 : decode cL_free 24 = .ok (.iaload, 1) := by decide +kernel
theorem dL_free_25 : decode cL_free 25 = .ok (.iload 5, 2) := by decide +kernel
theorem dL_free_27 : decode cL_free 27 = .ok (.ishr, 1) := by decide +kernel
theorem dL_free_28 : decode cL_free 28 = .ok (.iconst 1, 1) := by decide +kernel
theorem dL_free_29 : decode cL_free 29 = .ok (.iand, 1) := by decide +kernel
theorem dL_free_30 : decode cL_free 30 = .ok (.ifCond .ne 18, 3) := by decide +kernel
theorem dL_free_33 : decode cL_free 33 = .ok (.aload_n 2, 1) := by decide +kernel
theorem dL_free_34 : decode cL_free 34 = .ok (.aload_n 3, 1) := by decide +kernel
theorem dL_free_35 : decode cL_free 35 = .ok (.invokestatic 36, 3) := by decide +kernel
theorem dL_free_38 : decode cL_free 38 = .ok (.iload 6, 2) := by decide +kernel
theorem dL_free_40 : decode cL_free 40 = .ok (.iand, 1) := by decide +kernel
theorem dL_free_41 : decode cL_free 41 = .ok (.ifCond .ne 7, 3) := by decide +kernel
theorem dL_free_44 : decode cL_free 44 = .ok (.iconst 1, 1) := by decide +kernel
theorem dL_free_45 : decode cL_free 45 = .ok (.goto 4, 3) := by decide +kernel
theorem dL_free_48 : decode cL_free 48 = .ok (.iconst 0, 1) := by decide +kernel
theorem dL_free_49 : decode cL_free 49 = .ok (.ireturn, 1) := by decide +kernel
theorem dL_open_0 : decode cL_open 0 = .ok (.iconst 0, 1) := by decide +kernel
theorem dL_open_1 : decode cL_open 1 = .ok (.istore 5, 2) := by decide +kernel
theorem dL_open_3 : decode cL_open 3 = .ok (.iconst 0, 1) := by decide +kernel
theorem dL_open_4 : decode cL_open 4 = .ok (.istore 6, 2) := by decide +kernel
theorem dL_open_6 : decode cL_open 6 = .ok (.iload 6, 2) := by decide +kernel
theorem dL_open_8 : decode cL_open 8 = .ok (.aload_n 3, 1) := by decide +kernel
theorem dL_open_9 : decode cL_open 9 = .ok (.iconst 4, 1) := by decide +kernel
theorem dL_open_10 : decode cL_open 10 = .ok (.iaload, 1) := by decide +kernel
theorem dL_open_11 : decode cL_open 11 = .ok (.if_icmp .ge 36, 3) := by decide +kernel
theorem dL_open_14 : decode cL_open 14 = .ok (.iload 5, 2) := by decide +kernel
theorem dL_open_16 : decode cL_open 16 = .ok (.aload_n 0, 1) := by decide +kernel
theorem dL_open_17 : decode cL_open 17 = .ok (.aload_n 1, 1) := by decide +kernel
theorem dL_open_18 : decode cL_open 18 = .ok (.aload_n 2, 1) := by decide +kernel
theorem dL_open_19 : decode cL_open 19 = .ok (.aload_n 3, 1) := by decide +kernel
theorem dL_open_20 : decode cL_open 20 = .ok (.iload 4, 2) := by decide +kernel
theorem dL_open_22 : decode cL_open 22 = .ok (.iload 6, 2) := by decide +kernel
theorem dL_open_24 : decode cL_open 24 = .ok (.invokestatic 40, 3) := by decide +kernel
theorem dL_open_27 : decode cL_open 27 = .ok (.ifCond .eq 10, 3) := by decide +kernel
theorem dL_open_30 : decode cL_open 30 = .ok (.iconst 1, 1) := by decide +kernel
theorem dL_open_31 : decode cL_open 31 = .ok (.iload 6, 2) := by decide +kernel
theorem dL_open_33 : decode cL_open 33 = .ok (.ishl, 1) := by decide +kernel
theorem dL_open_34 : decode cL_open 34 = .ok (.goto 4, 3) := by decide +kernel
theorem dL_open_37 : decode cL_open 37 = .ok (.iconst 0, 1) := by decide +kernel
theorem dL_open_38 : decode cL_open 38 = .ok (.ior, 1) := by decide +kernel
theorem dL_open_39 : decode cL_open 39 = .ok (.istore 5, 2) := by decide +kernel
theorem dL_open_41 : decode cL_open 41 = .ok (.iinc 6 1, 3) := by decide +kernel
theorem dL_open_44 : decode cL_open 44 = .ok (.goto (-38), 3) := by decide +kernel
theorem dL_open_47 : decode cL_open 47 = .ok (.iload 5, 2) := by decide +kernel
theorem dL_open_49 : decode cL_open 49 = .ok (.ireturn, 1) := by decide +kernel
theorem dL_pass_0 : decode cL_pass 0 = .ok (.iconst 0, 1) := by decide +kernel
theorem dL_pass_1 : decode cL_pass 1 = .ok (.istore 4, 2) := by decide +kernel
theorem dL_pass_3 : decode cL_pass 3 = .ok (.iconst 0, 1) := by decide +kernel
theorem dL_pass_4 : decode cL_pass 4 = .ok (.istore 5, 2) := by decide +kernel
theorem dL_pass_6 : decode cL_pass 6 = .ok (.iload 5, 2) := by decide +kernel
theorem dL_pass_8 : decode cL_pass 8 = .ok (.iload_n 3, 1) := by decide +kernel
theorem dL_pass_9 : decode cL_pass 9 = .ok (.if_icmp .ge 89, 3) := by decide +kernel
theorem dL_pass_12 : decode cL_pass 12 = .ok (.aload_n 2, 1) := by decide +kernel
theorem dL_pass_13 : decode cL_pass 13 = .ok (.iconst 2, 1) := by decide +kernel
theorem dL_pass_14 : decode cL_pass 14 = .ok (.dup2, 1) := by decide +kernel
theorem dL_pass_15 : decode cL_pass 15 = .ok (.iaload, 1) := by decide +kernel
theorem dL_pass_16 : decode cL_pass 16 = .ok (.iconst 1, 1) := by decide +kernel
theorem dL_pass_17 : decode cL_pass 17 = .ok (.iadd, 1) := by decide +kernel
theorem dL_pass_18 : decode cL_pass 18 = .ok (.iastore, 1) := by decide +kernel
theorem dL_pass_19 : decode cL_pass 19 = .ok (.bipush 10, 2) := by decide +kernel
theorem dL_pass_21 : decode cL_pass 21 = .ok (.istore 6, 2) := by decide +kernel
theorem dL_pass_23 : decode cL_pass 23 = .ok (.iload 6, 2) := by decide +kernel
theorem dL_pass_25 : decode cL_pass 25 = .ok (.bipush 15, 2) := by decide +kernel
theorem dL_pass_27 : decode cL_pass 27 = .ok (.if_icmp .ge 31, 3) := by decide +kernel
theorem dL_pass_30 : decode cL_pass 30 = .ok (.aload_n 1, 1) := by decide +kernel
theorem dL_pass_31 : decode cL_pass 31 = .ok (.iload 6, 2) := by decide +kernel
theorem dL_pass_33 : decode cL_pass 33 = .ok (.aload_n 1, 1) := by decide +kernel
theorem dL_pass_34 : decode cL_pass 34 = .ok (.iload 6, 2) := by decide +kernel
theorem dL_pass_36 : decode cL_pass 36 = .ok (.iaload, 1) := by decide +kernel
theorem dL_pass_37 : decode cL_pass 37 = .ok (.iconst 1, 1) := by decide +kernel
theorem dL_pass_38 : decode cL_pass 38 = .ok (.if_icmp .le 12, 3) := by decide +kernel
theorem dL_pass_41 : decode cL_pass 41 = .ok (.aload_n 1, 1) := by decide +kernel
theorem dL_pass_42 : decode cL_pass 42 = .ok (.iload 6, 2) := by decide +kernel
theorem dL_pass_44 : decode cL_pass 44 = .ok (.iaload, 1) := by decide +kernel
theorem dL_pass_45 : decode cL_pass 45 = .ok (.iconst 1, 1) := by decide +kernel
theorem dL_pass_46 : decode cL_pass 46 = .ok (.isub, 1) := by decide +kernel
theorem dL_pass_47 : decode cL_pass 47 = .ok (.goto 4, 3) := by decide +kernel
theorem dL_pass_50 : decode cL_pass 50 = .ok (.iconst 0, 1) := by decide +kernel
theorem dL_pass_51 : decode cL_pass 51 = .ok (.iastore, 1) := by decide +kernel
theorem dL_pass_52 : decode cL_pass 52 = .ok (.iinc 6 1, 3) := by decide +kernel
theorem dL_pass_55 : decode cL_pass 55 = .ok (.goto (-32), 3) := by decide +kernel
theorem dL_pass_58 : decode cL_pass 58 = .ok (.aload_n 2, 1) := by decide +kernel
theorem dL_pass_59 : decode cL_pass 59 = .ok (.iconst 2, 1) := by decide +kernel
theorem dL_pass_60 : decode cL_pass 60 = .ok (.iaload, 1) := by decide +kernel
theorem dL_pass_61 : decode cL_pass 61 = .ok (.aload_n 2, 1) := by decide +kernel
theorem dL_pass_62 : decode cL_pass 62 = .ok (.iconst 0, 1) := by decide +kernel
theorem dL_pass_63 : decode cL_pass 63 = .ok (.iaload, 1) := by decide +kernel
theorem dL_pass_64 : decode cL_pass 64 = .ok (.irem, 1) := by decide +kernel
theorem dL_pass_65 : decode cL_pass 65 = .ok (.ifCond .ne 27, 3) := by decide +kernel
theorem dL_pass_68 : decode cL_pass 68 = .ok (.iinc 4 1, 3) := by decide +kernel
theorem dL_pass_71 : decode cL_pass 71 = .ok (.iconst 4, 1) := by decide +kernel
theorem dL_pass_72 : decode cL_pass 72 = .ok (.istore 6, 2) := by decide +kernel
theorem dL_pass_74 : decode cL_pass 74 = .ok (.iload 6, 2) := by decide +kernel
theorem dL_pass_76 : decode cL_pass 76 = .ok (.bipush 8, 2) := by decide +kernel
theorem dL_pass_78 : decode cL_pass 78 = .ok (.if_icmp .ge 14, 3) := by decide +kernel
theorem dL_pass_81 : decode cL_pass 81 = .ok (.aload_n 0, 1) := by decide +kernel
theorem dL_pass_82 : decode cL_pass 82 = .ok (.iload 6, 2) := by decide +kernel
theorem dL_pass_84 : decode cL_pass 84 = .ok (.iconst 0, 1) := by decide +kernel
theorem dL_pass_85 : decode cL_pass 85 = .ok (.iastore, 1) := by decide +kernel
theorem dL_pass_86 : decode cL_pass 86 = .ok (.iinc 6 1, 3) := by decide +kernel
theorem dL_pass_89 : decode cL_pass 89 = .ok (.goto (-15), 3) := by decide +kernel
theorem dL_pass_92 : decode cL_pass 92 = .ok (.iinc 5 1, 3) := by decide +kernel
theorem dL_pass_95 : decode cL_pass 95 = .ok (.goto (-89), 3) := by decide +kernel
theorem dL_pass_98 : decode cL_pass 98 = .ok (.aload_n 2, 1) := by decide +kernel
theorem dL_pass_99 : decode cL_pass 99 = .ok (.iconst 3, 1) := by decide +kernel
theorem dL_pass_100 : decode cL_pass 100 = .ok (.dup2, 1) := by decide +kernel
theorem dL_pass_101 : decode cL_pass 101 = .ok (.iaload, 1) := by decide +kernel
theorem dL_pass_102 : decode cL_pass 102 = .ok (.iload 4, 2) := by decide +kernel
theorem dL_pass_104 : decode cL_pass 104 = .ok (.iadd, 1) := by decide +kernel
theorem dL_pass_105 : decode cL_pass 105 = .ok (.iastore, 1) := by decide +kernel
theorem dL_pass_106 : decode cL_pass 106 = .ok (.iload 4, 2) := by decide +kernel
theorem dL_pass_108 : decode cL_pass 108 = .ok (.ireturn, 1) := by decide +kernel
theorem dL_glide_0 : decode cL_glide 0 = .ok (.iconst 0, 1) := by decide +kernel
theorem dL_glide_1 : decode cL_glide 1 = .ok (.istore 7, 2) := by decide +kernel
theorem dL_glide_3 : decode cL_glide 3 = .ok (.aload_n 1, 1) := by decide +kernel
theorem dL_glide_4 : decode cL_glide 4 = .ok (.iload 6, 2) := by decide +kernel
theorem dL_glide_6 : decode cL_glide 6 = .ok (.dup2, 1) := by decide +kernel
theorem dL_glide_7 : decode cL_glide 7 = .ok (.iaload, 1) := by decide +kernel
theorem dL_glide_8 : decode cL_glide 8 = .ok (.iconst 1, 1) := by decide +kernel
theorem dL_glide_9 : decode cL_glide 9 = .ok (.iadd, 1) := by decide +kernel
theorem dL_glide_10 : decode cL_glide 10 = .ok (.iastore, 1) := by decide +kernel
theorem dL_glide_11 : decode cL_glide 11 = .ok (.iconst 0, 1) := by decide +kernel
theorem dL_glide_12 : decode cL_glide 12 = .ok (.istore 8, 2) := by decide +kernel
theorem dL_glide_14 : decode cL_glide 14 = .ok (.iload 8, 2) := by decide +kernel
theorem dL_glide_16 : decode cL_glide 16 = .ok (.aload 4, 2) := by decide +kernel
theorem dL_glide_18 : decode cL_glide 18 = .ok (.iconst 5, 1) := by decide +kernel
theorem dL_glide_19 : decode cL_glide 19 = .ok (.iaload, 1) := by decide +kernel
theorem dL_glide_20 : decode cL_glide 20 = .ok (.if_icmp .ge 74, 3) := by decide +kernel
theorem dL_glide_23 : decode cL_glide 23 = .ok (.aload_n 0, 1) := by decide +kernel
theorem dL_glide_24 : decode cL_glide 24 = .ok (.aload_n 3, 1) := by decide +kernel
theorem dL_glide_25 : decode cL_glide 25 = .ok (.aload 4, 2) := by decide +kernel
theorem dL_glide_27 : decode cL_glide 27 = .ok (.iload 6, 2) := by decide +kernel
theorem dL_glide_29 : decode cL_glide 29 = .ok (.iload 8, 2) := by decide +kernel
theorem dL_glide_31 : decode cL_glide 31 = .ok (.invokestatic 44, 3) := by decide +kernel
theorem dL_glide_34 : decode cL_glide 34 = .ok (.aload_n 3, 1) := by decide +kernel
theorem dL_glide_35 : decode cL_glide 35 = .ok (.iconst 5, 1) := by decide +kernel
theorem dL_glide_36 : decode cL_glide 36 = .ok (.iload 8, 2) := by decide +kernel
theorem dL_glide_38 : decode cL_glide 38 = .ok (.iadd, 1) := by decide +kernel
theorem dL_glide_39 : decode cL_glide 39 = .ok (.iaload, 1) := by decide +kernel
theorem dL_glide_40 : decode cL_glide 40 = .ok (.if_icmp .lt 48, 3) := by decide +kernel
theorem dL_glide_43 : decode cL_glide 43 = .ok (.iload 7, 2) := by decide +kernel
theorem dL_glide_45 : decode cL_glide 45 = .ok (.iconst 1, 1) := by decide +kernel
theorem dL_glide_46 : decode cL_glide 46 = .ok (.iload 8, 2) := by decide +kernel
theorem dL_glide_48 : decode cL_glide 48 = .ok (.ishl, 1) := by decide +kernel
theorem dL_glide_49 : decode cL_glide 49 = .ok (.ior, 1) := by decide +kernel
theorem dL_glide_50 : decode cL_glide 50 = .ok (.istore 7, 2) := by decide +kernel
theorem dL_glide_52 : decode cL_glide 52 = .ok (.aload_n 3, 1) := by decide +kernel
theorem dL_glide_53 : decode cL_glide 53 = .ok (.bipush 15, 2) := by decide +kernel
theorem dL_glide_55 : decode cL_glide 55 = .ok (.iload 8, 2) := by decide +kernel
theorem dL_glide_57 : decode cL_glide 57 = .ok (.iadd, 1) := by decide +kernel
theorem dL_glide_58 : decode cL_glide 58 = .ok (.dup2, 1) := by decide +kernel
theorem dL_glide_59 : decode cL_glide 59 = .ok (.iaload, 1) := by decide +kernel
theorem dL_glide_60 : decode cL_glide 60 = .ok (.aload_n 3, 1) := by decide +kernel
theorem dL_glide_61 : decode cL_glide 61 = .ok (.bipush 10, 2) := by decide +kernel
theorem dL_glide_63 : decode cL_glide 63 = .ok (.iload 8, 2) := by decide +kernel
theorem dL_glide_65 : decode cL_glide 65 = .ok (.iadd, 1) := by decide +kernel
theorem dL_glide_66 : decode cL_glide 66 = .ok (.iaload, 1) := by decide +kernel
theorem dL_glide_67 : decode cL_glide 67 = .ok (.ifCond .le 7, 3) := by decide +kernel
theorem dL_glide_70 : decode cL_glide 70 = .ok (.iconst 0, 1) := by decide +kernel
theorem dL_glide_71 : decode cL_glide 71 = .ok (.goto 4, 3) := by decide +kernel
theorem dL_glide_74 : decode cL_glide 74 = .ok (.iconst 1, 1) := by decide +kernel
theorem dL_glide_75 : decode cL_glide 75 = .ok (.iadd, 1) := by decide +kernel
theorem dL_glide_76 : decode cL_glide 76 = .ok (.iastore, 1) := by decide +kernel
theorem dL_glide_77 : decode cL_glide 77 = .ok (.aload_n 3, 1) := by decide +kernel
theorem dL_glide_78 : decode cL_glide 78 = .ok (.bipush 10, 2) := by decide +kernel
theorem dL_glide_80 : decode cL_glide 80 = .ok (.iload 8, 2) := by decide +kernel
theorem dL_glide_82 : decode cL_glide 82 = .ok (.iadd, 1) := by decide +kernel
theorem dL_glide_83 : decode cL_glide 83 = .ok (.aload 4, 2) := by decide +kernel
theorem dL_glide_85 : decode cL_glide 85 = .ok (.iconst 1, 1) := by decide +kernel
theorem dL_glide_86 : decode cL_glide 86 = .ok (.iaload, 1) := by decide +kernel
theorem dL_glide_87 : decode cL_glide 87 = .ok (.iastore, 1) := by decide +kernel
theorem dL_glide_88 : decode cL_glide 88 = .ok (.iinc 8 1, 3) := by decide +kernel
theorem dL_glide_91 : decode cL_glide 91 = .ok (.goto (-77), 3) := by decide +kernel
theorem dL_glide_94 : decode cL_glide 94 = .ok (.aload_n 2, 1) := by decide +kernel
theorem dL_glide_95 : decode cL_glide 95 = .ok (.aload_n 3, 1) := by decide +kernel
theorem dL_glide_96 : decode cL_glide 96 = .ok (.aload 4, 2) := by decide +kernel
theorem dL_glide_98 : decode cL_glide 98 = .ok (.aload_n 0, 1) := by decide +kernel
theorem dL_glide_99 : decode cL_glide 99 = .ok (.iload 6, 2) := by decide +kernel
theorem dL_glide_101 : decode cL_glide 101 = .ok (.invokestatic 48, 3) := by decide +kernel
theorem dL_glide_104 : decode cL_glide 104 = .ok (.invokestatic 51, 3) := by decide +kernel
theorem dL_glide_107 : decode cL_glide 107 = .ok (.pop, 1) := by decide +kernel
theorem dL_glide_108 : decode cL_glide 108 = .ok (.aload_n 2, 1) := by decide +kernel
theorem dL_glide_109 : decode cL_glide 109 = .ok (.iload 5, 2) := by decide +kernel
theorem dL_glide_111 : decode cL_glide 111 = .ok (.aload_n 2, 1) := by decide +kernel
theorem dL_glide_112 : decode cL_glide 112 = .ok (.iload 5, 2) := by decide +kernel
theorem dL_glide_114 : decode cL_glide 114 = .ok (.iaload, 1) := by decide +kernel
theorem dL_glide_115 : decode cL_glide 115 = .ok (.aload_n 0, 1) := by decide +kernel
theorem dL_glide_116 : decode cL_glide 116 = .ok (.iload 6, 2) := by decide +kernel
theorem dL_glide_118 : decode cL_glide 118 = .ok (.invokestatic 10, 3) := by decide +kernel
theorem dL_glide_121 : decode cL_glide 121 = .ok (.if_icmp .ne 12, 3) := by decide +kernel
theorem dL_glide_124 : decode cL_glide 124 = .ok (.aload_n 0, 1) := by decide +kernel
theorem dL_glide_125 : decode cL_glide 125 = .ok (.iload 6, 2) := by decide +kernel
theorem dL_glide_127 : decode cL_glide 127 = .ok (.invokestatic 16, 3) := by decide +kernel
theorem dL_glide_130 : decode cL_glide 130 = .ok (.goto 9, 3) := by decide +kernel
theorem dL_glide_133 : decode cL_glide 133 = .ok (.aload_n 0, 1) := by decide +kernel
theorem dL_glide_134 : decode cL_glide 134 = .ok (.iload 6, 2) := by decide +kernel
theorem dL_glide_136 : decode cL_glide 136 = .ok (.invokestatic 10, 3) := by decide +kernel
theorem dL_glide_139 : decode cL_glide 139 = .ok (.iastore, 1) := by decide +kernel
theorem dL_glide_140 : decode cL_glide 140 = .ok (.aload_n 2, 1) := by decide +kernel
theorem dL_glide_141 : decode cL_glide 141 = .ok (.iconst 4, 1) := by decide +kernel
theorem dL_glide_142 : decode cL_glide 142 = .ok (.iload 5, 2) := by decide +kernel
theorem dL_glide_144 : decode cL_glide 144 = .ok (.iadd, 1) := by decide +kernel
theorem dL_glide_145 : decode cL_glide 145 = .ok (.dup2, 1) := by decide +kernel
theorem dL_glide_146 : decode cL_glide 146 = .ok (.iaload, 1) := by decide +kernel
theorem dL_glide_147 : decode cL_glide 147 = .ok (.iconst 1, 1) := by decide +kernel
theorem dL_glide_148 : decode cL_glide 148 = .ok (.iload 6, 2) := by decide +kernel
theorem dL_glide_150 : decode cL_glide 150 = .ok (.ishl, 1) := by decide +kernel
theorem dL_glide_151 : decode cL_glide 151 = .ok (.ior, 1) := by decide +kernel
theorem dL_glide_152 : decode cL_glide 152 = .ok (.iastore, 1) := by decide +kernel
theorem dL_glide_153 : decode cL_glide 153 = .ok (.aload_n 2, 1) := by decide +kernel
theorem dL_glide_154 : decode cL_glide 154 = .ok (.bipush 8, 2) := by decide +kernel
theorem dL_glide_156 : decode cL_glide 156 = .ok (.iload 5, 2) := by decide +kernel
theorem dL_glide_158 : decode cL_glide 158 = .ok (.iadd, 1) := by decide +kernel
theorem dL_glide_159 : decode cL_glide 159 = .ok (.dup2, 1) := by decide +kernel
theorem dL_glide_160 : decode cL_glide 160 = .ok (.iaload, 1) := by decide +kernel
theorem dL_glide_161 : decode cL_glide 161 = .ok (.iconst 1, 1) := by decide +kernel
theorem dL_glide_162 : decode cL_glide 162 = .ok (.iadd, 1) := by decide +kernel
theorem dL_glide_163 : decode cL_glide 163 = .ok (.iastore, 1) := by decide +kernel
theorem dL_glide_164 : decode cL_glide 164 = .ok (.iload 7, 2) := by decide +kernel
theorem dL_glide_166 : decode cL_glide 166 = .ok (.ireturn, 1) := by decide +kernel
theorem dL_costs_0 : decode cL_costs 0 = .ok (.bipush 10, 2) := by decide +kernel
theorem dL_costs_2 : decode cL_costs 2 = .ok (.newarray .int, 2) := by decide +kernel
theorem dL_costs_4 : decode cL_costs 4 = .ok (.astore 4, 2) := by decide +kernel
theorem dL_costs_6 : decode cL_costs 6 = .ok (.iconst 0, 1) := by decide +kernel
theorem dL_costs_7 : decode cL_costs 7 = .ok (.istore 5, 2) := by decide +kernel
theorem dL_costs_9 : decode cL_costs 9 = .ok (.iload 5, 2) := by decide +kernel
theorem dL_costs_11 : decode cL_costs 11 = .ok (.bipush 10, 2) := by decide +kernel
theorem dL_costs_13 : decode cL_costs 13 = .ok (.if_icmp .ge 26, 3) := by decide +kernel
theorem dL_costs_16 : decode cL_costs 16 = .ok (.aload 4, 2) := by decide +kernel
theorem dL_costs_18 : decode cL_costs 18 = .ok (.iload 5, 2) := by decide +kernel
theorem dL_costs_20 : decode cL_costs 20 = .ok (.iload 5, 2) := by decide +kernel
theorem dL_costs_22 : decode cL_costs 22 = .ok (.iload_n 2, 1) := by decide +kernel
theorem dL_costs_23 : decode cL_costs 23 = .ok (.if_icmp .ne 7, 3) := by decide +kernel
theorem dL_costs_26 : decode cL_costs 26 = .ok (.iconst 0, 1) := by decide +kernel
theorem dL_costs_27 : decode cL_costs 27 = .ok (.goto 5, 3) := by decide +kernel
theorem dL_costs_30 : decode cL_costs 30 = .ok (.ldc 55, 2) := by decide +kernel
theorem dL_costs_32 : decode cL_costs 32 = .ok (.iastore, 1) := by decide +kernel
theorem dL_costs_33 : decode cL_costs 33 = .ok (.iinc 5 1, 3) := by decide +kernel
theorem dL_costs_36 : decode cL_costs 36 = .ok (.goto (-27), 3) := by decide +kernel
theorem dL_costs_39 : decode cL_costs 39 = .ok (.iconst 1, 1) := by decide +kernel
theorem dL_costs_40 : decode cL_costs 40 = .ok (.istore 5, 2) := by decide +kernel
theorem dL_costs_42 : decode cL_costs 42 = .ok (.iload 5, 2) := by decide +kernel
theorem dL_costs_44 : decode cL_costs 44 = .ok (.ifCond .eq 145, 3) := by decide +kernel
theorem dL_costs_47 : decode cL_costs 47 = .ok (.iconst 0, 1) := by decide +kernel
theorem dL_costs_48 : decode cL_costs 48 = .ok (.istore 5, 2) := by decide +kernel
theorem dL_costs_50 : decode cL_costs 50 = .ok (.iconst 0, 1) := by decide +kernel
theorem dL_costs_51 : decode cL_costs 51 = .ok (.istore 6, 2) := by decide +kernel
theorem dL_costs_53 : decode cL_costs 53 = .ok (.iload 6, 2) := by decide +kernel
theorem dL_costs_55 : decode cL_costs 55 = .ok (.aload_n 1, 1) := by decide +kernel
theorem dL_costs_56 : decode cL_costs 56 = .ok (.iconst 4, 1) := by decide +kernel
theorem dL_costs_57 : decode cL_costs 57 = .ok (.iaload, 1) := by decide +kernel
theorem dL_costs_58 : decode cL_costs 58 = .ok (.if_icmp .ge 128, 3) := by decide +kernel
theorem dL_costs_61 : decode cL_costs 61 = .ok (.iload_n 3, 1) := by decide +kernel
theorem dL_costs_62 : decode cL_costs 62 = .ok (.iload 6, 2) := by decide +kernel
theorem dL_costs_64 : decode cL_costs 64 = .ok (.ishr, 1) := by decide +kernel
theorem dL_costs_65 : decode cL_costs 65 = .ok (.iconst 1, 1) := by decide +kernel
theorem dL_costs_66 : decode cL_costs 66 = .ok (.iand, 1) := by decide +kernel
theorem dL_costs_67 : decode cL_costs 67 = .ok (.iconst 1, 1) := by decide +kernel
theorem dL_costs_68 : decode cL_costs 68 = .ok (.if_icmp .ne 17, 3) := by decide +kernel
theorem dL_costs_71 : decode cL_costs 71 = .ok (.bipush 100, 2) := by decide +kernel
theorem dL_costs_73 : decode cL_costs 73 = .ok (.aload_n 0, 1) := by decide +kernel
theorem dL_costs_74 : decode cL_costs 74 = .ok (.iload 6, 2) := by decide +kernel
theorem dL_costs_76 : decode cL_costs 76 = .ok (.invokestatic 48, 3) := by decide +kernel
theorem dL_costs_79 : decode cL_costs 79 = .ok (.imul, 1) := by decide +kernel
theorem dL_costs_80 : decode cL_costs 80 = .ok (.iconst 1, 1) := by decide +kernel
theorem dL_costs_81 : decode cL_costs 81 = .ok (.iadd, 1) := by decide +kernel
theorem dL_costs_82 : decode cL_costs 82 = .ok (.goto 5, 3) := by decide +kernel
theorem dL_costs_85 : decode cL_costs 85 = .ok (.ldc 55, 2) := by decide +kernel
theorem dL_costs_87 : decode cL_costs 87 = .ok (.istore 7, 2) := by decide +kernel
theorem dL_costs_89 : decode cL_costs 89 = .ok (.iconst 0, 1) := by decide +kernel
theorem dL_costs_90 : decode cL_costs 90 = .ok (.istore 8, 2) := by decide +kernel
theorem dL_costs_92 : decode cL_costs 92 = .ok (.iload 8, 2) := by decide +kernel
theorem dL_costs_94 : decode cL_costs 94 = .ok (.iconst 2, 1) := by decide +kernel
theorem dL_costs_95 : decode cL_costs 95 = .ok (.if_icmp .ge 85, 3) := by decide +kernel
theorem dL_costs_98 : decode cL_costs 98 = .ok (.iload 8, 2) := by decide +kernel
theorem dL_costs_100 : decode cL_costs 100 = .ok (.ifCond .ne 12, 3) := by decide +kernel
theorem dL_costs_103 : decode cL_costs 103 = .ok (.aload_n 0, 1) := by decide +kernel
theorem dL_costs_104 : decode cL_costs 104 = .ok (.iload 6, 2) := by decide +kernel
theorem dL_costs_106 : decode cL_costs 106 = .ok (.invokestatic 10, 3) := by decide +kernel
theorem dL_costs_109 : decode cL_costs 109 = .ok (.goto 9, 3) := by decide +kernel
theorem dL_costs_112 : decode cL_costs 112 = .ok (.aload_n 0, 1) := by decide +kernel
theorem dL_costs_113 : decode cL_costs 113 = .ok (.iload 6, 2) := by decide +kernel
theorem dL_costs_115 : decode cL_costs 115 = .ok (.invokestatic 16, 3) := by decide +kernel
theorem dL_costs_118 : decode cL_costs 118 = .ok (.istore 9, 2) := by decide +kernel
theorem dL_costs_120 : decode cL_costs 120 = .ok (.iload 8, 2) := by decide +kernel
theorem dL_costs_122 : decode cL_costs 122 = .ok (.ifCond .ne 12, 3) := by decide +kernel
theorem dL_costs_125 : decode cL_costs 125 = .ok (.aload_n 0, 1) := by decide +kernel
theorem dL_costs_126 : decode cL_costs 126 = .ok (.iload 6, 2) := by decide +kernel
theorem dL_costs_128 : decode cL_costs 128 = .ok (.invokestatic 16, 3) := by decide +kernel
theorem dL_costs_131 : decode cL_costs 131 = .ok (.goto 9, 3) := by decide +kernel
theorem dL_costs_134 : decode cL_costs 134 = .ok (.aload_n 0, 1) := by decide +kernel
theorem dL_costs_135 : decode cL_costs 135 = .ok (.iload 6, 2) := by decide +kernel
theorem dL_costs_137 : decode cL_costs 137 = .ok (.invokestatic 10, 3) := by decide +kernel
theorem dL_costs_140 : decode cL_costs 140 = .ok (.istore 10, 2) := by decide +kernel
theorem dL_costs_142 : decode cL_costs 142 = .ok (.aload 4, 2) := by decide +kernel
theorem dL_costs_144 : decode cL_costs 144 = .ok (.iload 10, 2) := by decide +kernel
theorem dL_costs_146 : decode cL_costs 146 = .ok (.iaload, 1) := by decide +kernel
theorem dL_costs_147 : decode cL_costs 147 = .ok (.iload 7, 2) := by decide +kernel
theorem dL_costs_149 : decode cL_costs 149 = .ok (.iadd, 1) := by decide +kernel
theorem dL_costs_150 : decode cL_costs 150 = .ok (.aload 4, 2) := by decide +kernel
theorem dL_costs_152 : decode cL_costs 152 = .ok (.iload 9, 2) := by decide +kernel
theorem dL_costs_154 : decode cL_costs 154 = .ok (.iaload, 1) := by decide +kernel
theorem dL_costs_155 : decode cL_costs 155 = .ok (.if_icmp .ge 19, 3) := by decide +kernel
theorem dL_costs_158 : decode cL_costs 158 = .ok (.aload 4, 2) := by decide +kernel
theorem dL_costs_160 : decode cL_costs 160 = .ok (.iload 9, 2) := by decide +kernel
theorem dL_costs_162 : decode cL_costs 162 = .ok (.aload 4, 2) := by decide +kernel
theorem dL_costs_164 : decode cL_costs 164 = .ok (.iload 10, 2) := by decide +kernel
theorem dL_costs_166 : decode cL_costs 166 = .ok (.iaload, 1) := by decide +kernel
theorem dL_costs_167 : decode cL_costs 167 = .ok (.iload 7, 2) := by decide +kernel
theorem dL_costs_169 : decode cL_costs 169 = .ok (.iadd, 1) := by decide +kernel
theorem dL_costs_170 : decode cL_costs 170 = .ok (.iastore, 1) := by decide +kernel
theorem dL_costs_171 : decode cL_costs 171 = .ok (.iconst 1, 1) := by decide +kernel
theorem dL_costs_172 : decode cL_costs 172 = .ok (.istore 5, 2) := by decide +kernel
theorem dL_costs_174 : decode cL_costs 174 = .ok (.iinc 8 1, 3) := by decide +kernel
theorem dL_costs_177 : decode cL_costs 177 = .ok (.goto (-85), 3) := by decide +kernel
theorem dL_costs_180 : decode cL_costs 180 = .ok (.iinc 6 1, 3) := by decide +kernel
theorem dL_costs_183 : decode cL_costs 183 = .ok (.goto (-130), 3) := by decide +kernel
theorem dL_costs_186 : decode cL_costs 186 = .ok (.goto (-144), 3) := by decide +kernel
theorem dL_costs_189 : decode cL_costs 189 = .ok (.aload 4, 2) := by decide +kernel
theorem dL_costs_191 : decode cL_costs 191 = .ok (.areturn, 1) := by decide +kernel
theorem dL_first_0 : decode cL_first 0 = .ok (.iconst (-1), 1) := by decide +kernel
theorem dL_first_1 : decode cL_first 1 = .ok (.istore 5, 2) := by decide +kernel
theorem dL_first_3 : decode cL_first 3 = .ok (.iconst 0, 1) := by decide +kernel
theorem dL_first_4 : decode cL_first 4 = .ok (.istore 6, 2) := by decide +kernel
theorem dL_first_6 : decode cL_first 6 = .ok (.iload 6, 2) := by decide +kernel
theorem dL_first_8 : decode cL_first 8 = .ok (.aload_n 1, 1) := by decide +kernel
theorem dL_first_9 : decode cL_first 9 = .ok (.iconst 4, 1) := by decide +kernel
theorem dL_first_10 : decode cL_first 10 = .ok (.iaload, 1) := by decide +kernel
theorem dL_first_11 : decode cL_first 11 = .ok (.if_icmp .ge 115, 3) := by decide +kernel
theorem dL_first_14 : decode cL_first 14 = .ok (.iload 5, 2) := by decide +kernel
theorem dL_first_16 : decode cL_first 16 = .ok (.ifCond .ge 110, 3) := by decide +kernel
theorem dL_first_19 : decode cL_first 19 = .ok (.iload 4, 2) := by decide +kernel
theorem dL_first_21 : decode cL_first 21 = .ok (.iload 6, 2) := by decide +kernel
theorem dL_first_23 : decode cL_first 23 = .ok (.ishr, 1) := by decide +kernel
theorem dL_first_24 : decode cL_first 24 = .ok (.iconst 1, 1) := by decide +kernel
theorem dL_first_25 : decode cL_first 25 = .ok (.iand, 1) := by decide +kernel
theorem dL_first_26 : decode cL_first 26 = .ok (.iconst 1, 1) := by decide +kernel
theorem dL_first_27 : decode cL_first 27 = .ok (.if_icmp .ne 27, 3) := by decide +kernel
theorem dL_first_30 : decode cL_first 30 = .ok (.aload_n 0, 1) := by decide +kernel
theorem dL_first_31 : decode cL_first 31 = .ok (.iload 6, 2) := by decide +kernel
theorem dL_first_33 : decode cL_first 33 = .ok (.invokestatic 10, 3) := by decide +kernel
theorem dL_first_36 : decode cL_first 36 = .ok (.iload_n 3, 1) := by decide +kernel
theorem dL_first_37 : decode cL_first 37 = .ok (.if_icmp .eq 13, 3) := by decide +kernel
theorem dL_first_40 : decode cL_first 40 = .ok (.aload_n 0, 1) := by decide +kernel
theorem dL_first_41 : decode cL_first 41 = .ok (.iload 6, 2) := by decide +kernel
theorem dL_first_43 : decode cL_first 43 = .ok (.invokestatic 16, 3) := by decide +kernel
theorem dL_first_46 : decode cL_first 46 = .ok (.iload_n 3, 1) := by decide +kernel
theorem dL_first_47 : decode cL_first 47 = .ok (.if_icmp .ne 7, 3) := by decide +kernel
theorem dL_first_50 : decode cL_first 50 = .ok (.iconst 1, 1) := by decide +kernel
theorem dL_first_51 : decode cL_first 51 = .ok (.goto 4, 3) := by decide +kernel
theorem dL_first_54 : decode cL_first 54 = .ok (.iconst 0, 1) := by decide +kernel
theorem dL_first_55 : decode cL_first 55 = .ok (.istore 7, 2) := by decide +kernel
theorem dL_first_57 : decode cL_first 57 = .ok (.aload_n 0, 1) := by decide +kernel
theorem dL_first_58 : decode cL_first 58 = .ok (.iload 6, 2) := by decide +kernel
theorem dL_first_60 : decode cL_first 60 = .ok (.invokestatic 10, 3) := by decide +kernel
theorem dL_first_63 : decode cL_first 63 = .ok (.iload_n 3, 1) := by decide +kernel
theorem dL_first_64 : decode cL_first 64 = .ok (.if_icmp .ne 12, 3) := by decide +kernel
theorem dL_first_67 : decode cL_first 67 = .ok (.aload_n 0, 1) := by decide +kernel
theorem dL_first_68 : decode cL_first 68 = .ok (.iload 6, 2) := by decide +kernel
theorem dL_first_70 : decode cL_first 70 = .ok (.invokestatic 16, 3) := by decide +kernel
theorem dL_first_73 : decode cL_first 73 = .ok (.goto 9, 3) := by decide +kernel
theorem dL_first_76 : decode cL_first 76 = .ok (.aload_n 0, 1) := by decide +kernel
theorem dL_first_77 : decode cL_first 77 = .ok (.iload 6, 2) := by decide +kernel
theorem dL_first_79 : decode cL_first 79 = .ok (.invokestatic 10, 3) := by decide +kernel
theorem dL_first_82 : decode cL_first 82 = .ok (.istore 8, 2) := by decide +kernel
theorem dL_first_84 : decode cL_first 84 = .ok (.iload 7, 2) := by decide +kernel
theorem dL_first_86 : decode cL_first 86 = .ok (.ifCond .eq 30, 3) := by decide +kernel
theorem dL_first_89 : decode cL_first 89 = .ok (.aload_n 2, 1) := by decide +kernel
theorem dL_first_90 : decode cL_first 90 = .ok (.iload 8, 2) := by decide +kernel
theorem dL_first_92 : decode cL_first 92 = .ok (.iaload, 1) := by decide +kernel
theorem dL_first_93 : decode cL_first 93 = .ok (.bipush 100, 2) := by decide +kernel
theorem dL_first_95 : decode cL_first 95 = .ok (.aload_n 0, 1) := by decide +kernel
theorem dL_first_96 : decode cL_first 96 = .ok (.iload 6, 2) := by decide +kernel
theorem dL_first_98 : decode cL_first 98 = .ok (.invokestatic 48, 3) := by decide +kernel
theorem dL_first_101 : decode cL_first 101 = .ok (.imul, 1) := by decide +kernel
theorem dL_first_102 : decode cL_first 102 = .ok (.iadd, 1) := by decide +kernel
theorem dL_first_103 : decode cL_first 103 = .ok (.iconst 1, 1) := by decide +kernel
theorem dL_first_104 : decode cL_first 104 = .ok (.iadd, 1) := by decide +kernel
theorem dL_first_105 : decode cL_first 105 = .ok (.aload_n 2, 1) := by decide +kernel
theorem dL_first_106 : decode cL_first 106 = .ok (.iload_n 3, 1) := by decide +kernel
theorem dL_first_107 : decode cL_first 107 = .ok (.iaload, 1) := by decide +kernel
theorem dL_first_108 : decode cL_first 108 = .ok (.if_icmp .ne 8, 3) := by decide +kernel
theorem dL_first_111 : decode cL_first 111 = .ok (.iload 6, 2) := by decide +kernel
theorem dL_first_113 : decode cL_first 113 = .ok (.goto 5, 3) := by decide +kernel
theorem dL_first_116 : decode cL_first 116 = .ok (.iload 5, 2) := by decide +kernel
theorem dL_first_118 : decode cL_first 118 = .ok (.istore 5, 2) := by decide +kernel
theorem dL_first_120 : decode cL_first 120 = .ok (.iinc 6 1, 3) := by decide +kernel
theorem dL_first_123 : decode cL_first 123 = .ok (.goto (-117), 3) := by decide +kernel
theorem dL_first_126 : decode cL_first 126 = .ok (.iload 5, 2) := by decide +kernel
theorem dL_first_128 : decode cL_first 128 = .ok (.ireturn, 1) := by decide +kernel
theorem dL_ways_0 : decode cL_ways 0 = .ok (.aload_n 1, 1) := by decide +kernel
theorem dL_ways_1 : decode cL_ways 1 = .ok (.aload_n 2, 1) := by decide +kernel
theorem dL_ways_2 : decode cL_ways 2 = .ok (.aload_n 3, 1) := by decide +kernel
theorem dL_ways_3 : decode cL_ways 3 = .ok (.aload 4, 2) := by decide +kernel
theorem dL_ways_5 : decode cL_ways 5 = .ok (.iload 5, 2) := by decide +kernel
theorem dL_ways_7 : decode cL_ways 7 = .ok (.invokestatic 56, 3) := by decide +kernel
theorem dL_ways_10 : decode cL_ways 10 = .ok (.istore 7, 2) := by decide +kernel
theorem dL_ways_12 : decode cL_ways 12 = .ok (.aload_n 1, 1) := by decide +kernel
theorem dL_ways_13 : decode cL_ways 13 = .ok (.aload 4, 2) := by decide +kernel
theorem dL_ways_15 : decode cL_ways 15 = .ok (.iload 6, 2) := by decide +kernel
theorem dL_ways_17 : decode cL_ways 17 = .ok (.iload 7, 2) := by decide +kernel
theorem dL_ways_19 : decode cL_ways 19 = .ok (.invokestatic 60, 3) := by decide +kernel
theorem dL_ways_22 : decode cL_ways 22 = .ok (.astore 8, 2) := by decide +kernel
theorem dL_ways_24 : decode cL_ways 24 = .ok (.aload_n 2, 1) := by decide +kernel
theorem dL_ways_25 : decode cL_ways 25 = .ok (.iload 5, 2) := by decide +kernel
theorem dL_ways_27 : decode cL_ways 27 = .ok (.iaload, 1) := by decide +kernel
theorem dL_ways_28 : decode cL_ways 28 = .ok (.istore 9, 2) := by decide +kernel
theorem dL_ways_30 : decode cL_ways 30 = .ok (.bipush (-6), 2) := by decide +kernel
theorem dL_ways_32 : decode cL_ways 32 = .ok (.istore 10, 2) := by decide +kernel
theorem dL_ways_34 : decode cL_ways 34 = .ok (.aload 8, 2) := by decide +kernel
theorem dL_ways_36 : decode cL_ways 36 = .ok (.iload 9, 2) := by decide +kernel
theorem dL_ways_38 : decode cL_ways 38 = .ok (.iaload, 1) := by decide +kernel
theorem dL_ways_39 : decode cL_ways 39 = .ok (.ldc 55, 2) := by decide +kernel
theorem dL_ways_41 : decode cL_ways 41 = .ok (.if_icmp .lt 50, 3) := by decide +kernel
theorem dL_ways_44 : decode cL_ways 44 = .ok (.aload_n 0, 1) := by decide +kernel
theorem dL_ways_45 : decode cL_ways 45 = .ok (.iload 5, 2) := by decide +kernel
theorem dL_ways_47 : decode cL_ways 47 = .ok (.iload 6, 2) := by decide +kernel
theorem dL_ways_49 : decode cL_ways 49 = .ok (.iconst 0, 1) := by decide +kernel
theorem dL_ways_50 : decode cL_ways 50 = .ok (.invokevirtual 64, 3) := by decide +kernel
theorem dL_ways_53 : decode cL_ways 53 = .ok (.iload 10, 2) := by decide +kernel
theorem dL_ways_55 : decode cL_ways 55 = .ok (.if_icmp .ne 34, 3) := by decide +kernel
theorem dL_ways_58 : decode cL_ways 58 = .ok (.aload_n 0, 1) := by decide +kernel
theorem dL_ways_59 : decode cL_ways 59 = .ok (.iload 5, 2) := by decide +kernel
theorem dL_ways_61 : decode cL_ways 61 = .ok (.iload 6, 2) := by decide +kernel
theorem dL_ways_63 : decode cL_ways 63 = .ok (.iconst 2, 1) := by decide +kernel
theorem dL_ways_64 : decode cL_ways 64 = .ok (.invokevirtual 64, 3) := by decide +kernel
theorem dL_ways_67 : decode cL_ways 67 = .ok (.iload 10, 2) := by decide +kernel
theorem dL_ways_69 : decode cL_ways 69 = .ok (.if_icmp .ne 20, 3) := by decide +kernel
theorem dL_ways_72 : decode cL_ways 72 = .ok (.aload_n 0, 1) := by decide +kernel
theorem dL_ways_73 : decode cL_ways 73 = .ok (.iload 5, 2) := by decide +kernel
theorem dL_ways_75 : decode cL_ways 75 = .ok (.iload 6, 2) := by decide +kernel
theorem dL_ways_77 : decode cL_ways 77 = .ok (.invokevirtual 68, 3) := by decide +kernel
theorem dL_ways_80 : decode cL_ways 80 = .ok (.iload 10, 2) := by decide +kernel
theorem dL_ways_82 : decode cL_ways 82 = .ok (.if_icmp .ne 7, 3) := by decide +kernel
theorem dL_ways_85 : decode cL_ways 85 = .ok (.iconst 1, 1) := by decide +kernel
theorem dL_ways_86 : decode cL_ways 86 = .ok (.goto 4, 3) := by decide +kernel
theorem dL_ways_89 : decode cL_ways 89 = .ok (.iconst 0, 1) := by decide +kernel
theorem dL_ways_90 : decode cL_ways 90 = .ok (.ireturn, 1) := by decide +kernel
theorem dL_ways_91 : decode cL_ways 91 = .ok (.aload_n 0, 1) := by decide +kernel
theorem dL_ways_92 : decode cL_ways 92 = .ok (.iload 5, 2) := by decide +kernel
theorem dL_ways_94 : decode cL_ways 94 = .ok (.iload 6, 2) := by decide +kernel
theorem dL_ways_96 : decode cL_ways 96 = .ok (.iconst 0, 1) := by decide +kernel
theorem dL_ways_97 : decode cL_ways 97 = .ok (.invokevirtual 64, 3) := by decide +kernel
theorem dL_ways_100 : decode cL_ways 100 = .ok (.aload 8, 2) := by decide +kernel
theorem dL_ways_102 : decode cL_ways 102 = .ok (.iload 9, 2) := by decide +kernel
theorem dL_ways_104 : decode cL_ways 104 = .ok (.iaload, 1) := by decide +kernel
theorem dL_ways_105 : decode cL_ways 105 = .ok (.bipush 100, 2) := by decide +kernel
theorem dL_ways_107 : decode cL_ways 107 = .ok (.idiv, 1) := by decide +kernel
theorem dL_ways_108 : decode cL_ways 108 = .ok (.if_icmp .ne 27, 3) := by decide +kernel
theorem dL_ways_111 : decode cL_ways 111 = .ok (.aload_n 0, 1) := by decide +kernel
theorem dL_ways_112 : decode cL_ways 112 = .ok (.iload 5, 2) := by decide +kernel
theorem dL_ways_114 : decode cL_ways 114 = .ok (.iload 6, 2) := by decide +kernel
theorem dL_ways_116 : decode cL_ways 116 = .ok (.iconst 1, 1) := by decide +kernel
theorem dL_ways_117 : decode cL_ways 117 = .ok (.invokevirtual 64, 3) := by decide +kernel
theorem dL_ways_120 : decode cL_ways 120 = .ok (.aload 8, 2) := by decide +kernel
theorem dL_ways_122 : decode cL_ways 122 = .ok (.iload 9, 2) := by decide +kernel
theorem dL_ways_124 : decode cL_ways 124 = .ok (.iaload, 1) := by decide +kernel
theorem dL_ways_125 : decode cL_ways 125 = .ok (.bipush 100, 2) := by decide +kernel
theorem dL_ways_127 : decode cL_ways 127 = .ok (.irem, 1) := by decide +kernel
theorem dL_ways_128 : decode cL_ways 128 = .ok (.if_icmp .ne 7, 3) := by decide +kernel
theorem dL_ways_131 : decode cL_ways 131 = .ok (.iconst 1, 1) := by decide +kernel
theorem dL_ways_132 : decode cL_ways 132 = .ok (.goto 4, 3) := by decide +kernel
theorem dL_ways_135 : decode cL_ways 135 = .ok (.iconst 0, 1) := by decide +kernel
theorem dL_ways_136 : decode cL_ways 136 = .ok (.istore 11, 2) := by decide +kernel
theorem dL_ways_138 : decode cL_ways 138 = .ok (.iconst 2, 1) := by decide +kernel
theorem dL_ways_139 : decode cL_ways 139 = .ok (.istore 12, 2) := by decide +kernel
theorem dL_ways_141 : decode cL_ways 141 = .ok (.iload 9, 2) := by decide +kernel
theorem dL_ways_143 : decode cL_ways 143 = .ok (.iload 6, 2) := by decide +kernel
theorem dL_ways_145 : decode cL_ways 145 = .ok (.if_icmp .eq 78, 3) := by decide +kernel
theorem dL_ways_148 : decode cL_ways 148 = .ok (.iload 11, 2) := by decide +kernel
theorem dL_ways_150 : decode cL_ways 150 = .ok (.ifCond .eq 73, 3) := by decide +kernel
theorem dL_ways_153 : decode cL_ways 153 = .ok (.aload_n 1, 1) := by decide +kernel
theorem dL_ways_154 : decode cL_ways 154 = .ok (.aload 4, 2) := by decide +kernel
theorem dL_ways_156 : decode cL_ways 156 = .ok (.aload 8, 2) := by decide +kernel
theorem dL_ways_158 : decode cL_ways 158 = .ok (.iload 9, 2) := by decide +kernel
theorem dL_ways_160 : decode cL_ways 160 = .ok (.iload 7, 2) := by decide +kernel
theorem dL_ways_162 : decode cL_ways 162 = .ok (.invokestatic 72, 3) := by decide +kernel
theorem dL_ways_165 : decode cL_ways 165 = .ok (.istore 13, 2) := by decide +kernel
theorem dL_ways_167 : decode cL_ways 167 = .ok (.aload_n 0, 1) := by decide +kernel
theorem dL_ways_168 : decode cL_ways 168 = .ok (.iload 5, 2) := by decide +kernel
theorem dL_ways_170 : decode cL_ways 170 = .ok (.iload 6, 2) := by decide +kernel
theorem dL_ways_172 : decode cL_ways 172 = .ok (.iload 12, 2) := by decide +kernel
theorem dL_ways_174 : decode cL_ways 174 = .ok (.invokevirtual 64, 3) := by decide +kernel
theorem dL_ways_177 : decode cL_ways 177 = .ok (.iload 13, 2) := by decide +kernel
theorem dL_ways_179 : decode cL_ways 179 = .ok (.if_icmp .ne 7, 3) := by decide +kernel
theorem dL_ways_182 : decode cL_ways 182 = .ok (.iconst 1, 1) := by decide +kernel
theorem dL_ways_183 : decode cL_ways 183 = .ok (.goto 4, 3) := by decide +kernel
theorem dL_ways_186 : decode cL_ways 186 = .ok (.iconst 0, 1) := by decide +kernel
theorem dL_ways_187 : decode cL_ways 187 = .ok (.istore 11, 2) := by decide +kernel
theorem dL_ways_189 : decode cL_ways 189 = .ok (.aload_n 1, 1) := by decide +kernel
theorem dL_ways_190 : decode cL_ways 190 = .ok (.iload 13, 2) := by decide +kernel
theorem dL_ways_192 : decode cL_ways 192 = .ok (.invokestatic 10, 3) := by decide +kernel
theorem dL_ways_195 : decode cL_ways 195 = .ok (.iload 9, 2) := by decide +kernel
theorem dL_ways_197 : decode cL_ways 197 = .ok (.if_icmp .ne 12, 3) := by decide +kernel
theorem dL_ways_200 : decode cL_ways 200 = .ok (.aload_n 1, 1) := by decide +kernel
theorem dL_ways_201 : decode cL_ways 201 = .ok (.iload 13, 2) := by decide +kernel
theorem dL_ways_203 : decode cL_ways 203 = .ok (.invokestatic 16, 3) := by decide +kernel
theorem dL_ways_206 : decode cL_ways 206 = .ok (.goto 9, 3) := by decide +kernel
theorem dL_ways_209 : decode cL_ways 209 = .ok (.aload_n 1, 1) := by decide +kernel
theorem dL_ways_210 : decode cL_ways 210 = .ok (.iload 13, 2) := by decide +kernel
theorem dL_ways_212 : decode cL_ways 212 = .ok (.invokestatic 10, 3) := by decide +kernel
theorem dL_ways_215 : decode cL_ways 215 = .ok (.istore 9, 2) := by decide +kernel
theorem dL_ways_217 : decode cL_ways 217 = .ok (.iinc 12 1, 3) := by decide +kernel
theorem dL_ways_220 : decode cL_ways 220 = .ok (.goto (-79), 3) := by decide +kernel
theorem dL_ways_223 : decode cL_ways 223 = .ok (.iload 10, 2) := by decide +kernel
theorem dL_ways_225 : decode cL_ways 225 = .ok (.istore 13, 2) := by decide +kernel
theorem dL_ways_227 : decode cL_ways 227 = .ok (.bipush 9, 2) := by decide +kernel
theorem dL_ways_229 : decode cL_ways 229 = .ok (.istore 14, 2) := by decide +kernel
theorem dL_ways_231 : decode cL_ways 231 = .ok (.iload 14, 2) := by decide +kernel
theorem dL_ways_233 : decode cL_ways 233 = .ok (.ifCond .lt 97, 3) := by decide +kernel
theorem dL_ways_236 : decode cL_ways 236 = .ok (.iconst 0, 1) := by decide +kernel
theorem dL_ways_237 : decode cL_ways 237 = .ok (.istore 15, 2) := by decide +kernel
theorem dL_ways_239 : decode cL_ways 239 = .ok (.iconst 0, 1) := by decide +kernel
theorem dL_ways_240 : decode cL_ways 240 = .ok (.istore 16, 2) := by decide +kernel
theorem dL_ways_242 : decode cL_ways 242 = .ok (.iload 16, 2) := by decide +kernel
theorem dL_ways_244 : decode cL_ways 244 = .ok (.aload 4, 2) := by decide +kernel
theorem dL_ways_246 : decode cL_ways 246 = .ok (.iconst 4, 1) := by decide +kernel
theorem dL_ways_247 : decode cL_ways 247 = .ok (.iaload, 1) := by decide +kernel
theorem dL_ways_248 : decode cL_ways 248 = .ok (.if_icmp .ge 44, 3) := by decide +kernel
theorem dL_ways_251 : decode cL_ways 251 = .ok (.iload 15, 2) := by decide +kernel
theorem dL_ways_253 : decode cL_ways 253 = .ok (.iload 7, 2) := by decide +kernel
theorem dL_ways_255 : decode cL_ways 255 = .ok (.iload 16, 2) := by decide +kernel
theorem dL_ways_257 : decode cL_ways 257 = .ok (.ishr, 1) := by decide +kernel
theorem dL_ways_258 : decode cL_ways 258 = .ok (.iconst 1, 1) := by decide +kernel
theorem dL_ways_259 : decode cL_ways 259 = .ok (.iand, 1) := by decide +kernel
theorem dL_ways_260 : decode cL_ways 260 = .ok (.iconst 1, 1) := by decide +kernel
theorem dL_ways_261 : decode cL_ways 261 = .ok (.if_icmp .ne 21, 3) := by decide +kernel
theorem dL_ways_264 : decode cL_ways 264 = .ok (.aload_n 1, 1) := by decide +kernel
theorem dL_ways_265 : decode cL_ways 265 = .ok (.iload 16, 2) := by decide +kernel
theorem dL_ways_267 : decode cL_ways 267 = .ok (.invokestatic 33, 3) := by decide +kernel
theorem dL_ways_270 : decode cL_ways 270 = .ok (.iload 14, 2) := by decide +kernel
theorem dL_ways_272 : decode cL_ways 272 = .ok (.if_icmp .gt 10, 3) := by decide +kernel
theorem dL_ways_275 : decode cL_ways 275 = .ok (.iconst 1, 1) := by decide +kernel
theorem dL_ways_276 : decode cL_ways 276 = .ok (.iload 16, 2) := by decide +kernel
theorem dL_ways_278 : decode cL_ways 278 = .ok (.ishl, 1) := by decide +kernel
theorem dL_ways_279 : decode cL_ways 279 = .ok (.goto 4, 3) := by decide +kernel
theorem dL_ways_282 : decode cL_ways 282 = .ok (.iconst 0, 1) := by decide +kernel
theorem dL_ways_283 : decode cL_ways 283 = .ok (.ior, 1) := by decide +kernel
theorem dL_ways_284 : decode cL_ways 284 = .ok (.istore 15, 2) := by decide +kernel
theorem dL_ways_286 : decode cL_ways 286 = .ok (.iinc 16 1, 3) := by decide +kernel
theorem dL_ways_289 : decode cL_ways 289 = .ok (.goto (-47), 3) := by decide +kernel
theorem dL_ways_292 : decode cL_ways 292 = .ok (.aload_n 1, 1) := by decide +kernel
theorem dL_ways_293 : decode cL_ways 293 = .ok (.aload 4, 2) := by decide +kernel
theorem dL_ways_295 : decode cL_ways 295 = .ok (.aload_n 2, 1) := by decide +kernel
theorem dL_ways_296 : decode cL_ways 296 = .ok (.iload 5, 2) := by decide +kernel
theorem dL_ways_298 : decode cL_ways 298 = .ok (.iaload, 1) := by decide +kernel
theorem dL_ways_299 : decode cL_ways 299 = .ok (.iload 15, 2) := by decide +kernel
theorem dL_ways_301 : decode cL_ways 301 = .ok (.bipush 9, 2) := by decide +kernel
theorem dL_ways_303 : decode cL_ways 303 = .ok (.invokestatic 25, 3) := by decide +kernel
theorem dL_ways_306 : decode cL_ways 306 = .ok (.iload 6, 2) := by decide +kernel
theorem dL_ways_308 : decode cL_ways 308 = .ok (.ishr, 1) := by decide +kernel
theorem dL_ways_309 : decode cL_ways 309 = .ok (.iconst 1, 1) := by decide +kernel
theorem dL_ways_310 : decode cL_ways 310 = .ok (.iand, 1) := by decide +kernel
theorem dL_ways_311 : decode cL_ways 311 = .ok (.iconst 1, 1) := by decide +kernel
theorem dL_ways_312 : decode cL_ways 312 = .ok (.if_icmp .ne 8, 3) := by decide +kernel
theorem dL_ways_315 : decode cL_ways 315 = .ok (.iload 14, 2) := by decide +kernel
theorem dL_ways_317 : decode cL_ways 317 = .ok (.goto 5, 3) := by decide +kernel
theorem dL_ways_320 : decode cL_ways 320 = .ok (.iload 13, 2) := by decide +kernel
theorem dL_ways_322 : decode cL_ways 322 = .ok (.istore 13, 2) := by decide +kernel
theorem dL_ways_324 : decode cL_ways 324 = .ok (.iinc 14 (-1), 3) := by decide +kernel
theorem dL_ways_327 : decode cL_ways 327 = .ok (.goto (-96), 3) := by decide +kernel
theorem dL_ways_330 : decode cL_ways 330 = .ok (.iload 11, 2) := by decide +kernel
theorem dL_ways_332 : decode cL_ways 332 = .ok (.ifCond .eq 35, 3) := by decide +kernel
theorem dL_ways_335 : decode cL_ways 335 = .ok (.aload_n 0, 1) := by decide +kernel
theorem dL_ways_336 : decode cL_ways 336 = .ok (.iload 5, 2) := by decide +kernel
theorem dL_ways_338 : decode cL_ways 338 = .ok (.iload 6, 2) := by decide +kernel
theorem dL_ways_340 : decode cL_ways 340 = .ok (.iload 12, 2) := by decide +kernel
theorem dL_ways_342 : decode cL_ways 342 = .ok (.invokevirtual 64, 3) := by decide +kernel
theorem dL_ways_345 : decode cL_ways 345 = .ok (.iload 10, 2) := by decide +kernel
theorem dL_ways_347 : decode cL_ways 347 = .ok (.if_icmp .ne 20, 3) := by decide +kernel
theorem dL_ways_350 : decode cL_ways 350 = .ok (.aload_n 0, 1) := by decide +kernel
theorem dL_ways_351 : decode cL_ways 351 = .ok (.iload 5, 2) := by decide +kernel
theorem dL_ways_353 : decode cL_ways 353 = .ok (.iload 6, 2) := by decide +kernel
theorem dL_ways_355 : decode cL_ways 355 = .ok (.invokevirtual 68, 3) := by decide +kernel
theorem dL_ways_358 : decode cL_ways 358 = .ok (.iload 13, 2) := by decide +kernel
theorem dL_ways_360 : decode cL_ways 360 = .ok (.if_icmp .ne 7, 3) := by decide +kernel
theorem dL_ways_363 : decode cL_ways 363 = .ok (.iconst 1, 1) := by decide +kernel
theorem dL_ways_364 : decode cL_ways 364 = .ok (.goto 4, 3) := by decide +kernel
theorem dL_ways_367 : decode cL_ways 367 = .ok (.iconst 0, 1) := by decide +kernel
theorem dL_ways_368 : decode cL_ways 368 = .ok (.ireturn, 1) := by decide +kernel
theorem dL_degree_0 : decode cL_degree 0 = .ok (.iconst 0, 1) := by decide +kernel
theorem dL_degree_1 : decode cL_degree 1 = .ok (.istore 4, 2) := by decide +kernel
theorem dL_degree_3 : decode cL_degree 3 = .ok (.iconst 0, 1) := by decide +kernel
theorem dL_degree_4 : decode cL_degree 4 = .ok (.istore 5, 2) := by decide +kernel
theorem dL_degree_6 : decode cL_degree 6 = .ok (.iload 5, 2) := by decide +kernel
theorem dL_degree_8 : decode cL_degree 8 = .ok (.aload_n 1, 1) := by decide +kernel
theorem dL_degree_9 : decode cL_degree 9 = .ok (.iconst 4, 1) := by decide +kernel
theorem dL_degree_10 : decode cL_degree 10 = .ok (.iaload, 1) := by decide +kernel
theorem dL_degree_11 : decode cL_degree 11 = .ok (.if_icmp .ge 49, 3) := by decide +kernel
theorem dL_degree_14 : decode cL_degree 14 = .ok (.iload 4, 2) := by decide +kernel
theorem dL_degree_16 : decode cL_degree 16 = .ok (.iload_n 3, 1) := by decide +kernel
theorem dL_degree_17 : decode cL_degree 17 = .ok (.iload 5, 2) := by decide +kernel
theorem dL_degree_19 : decode cL_degree 19 = .ok (.ishr, 1) := by decide +kernel
theorem dL_degree_20 : decode cL_degree 20 = .ok (.iconst 1, 1) := by decide +kernel
theorem dL_degree_21 : decode cL_degree 21 = .ok (.iand, 1) := by decide +kernel
theorem dL_degree_22 : decode cL_degree 22 = .ok (.iconst 1, 1) := by decide +kernel
theorem dL_degree_23 : decode cL_degree 23 = .ok (.if_icmp .ne 27, 3) := by decide +kernel
theorem dL_degree_26 : decode cL_degree 26 = .ok (.aload_n 0, 1) := by decide +kernel
theorem dL_degree_27 : decode cL_degree 27 = .ok (.iload 5, 2) := by decide +kernel
theorem dL_degree_29 : decode cL_degree 29 = .ok (.invokestatic 10, 3) := by decide +kernel
theorem dL_degree_32 : decode cL_degree 32 = .ok (.iload_n 2, 1) := by decide +kernel
theorem dL_degree_33 : decode cL_degree 33 = .ok (.if_icmp .eq 13, 3) := by decide +kernel
theorem dL_degree_36 : decode cL_degree 36 = .ok (.aload_n 0, 1) := by decide +kernel
theorem dL_degree_37 : decode cL_degree 37 = .ok (.iload 5, 2) := by decide +kernel
theorem dL_degree_39 : decode cL_degree 39 = .ok (.invokestatic 16, 3) := by decide +kernel
theorem dL_degree_42 : decode cL_degree 42 = .ok (.iload_n 2, 1) := by decide +kernel
theorem dL_degree_43 : decode cL_degree 43 = .ok (.if_icmp .ne 7, 3) := by decide +kernel
theorem dL_degree_46 : decode cL_degree 46 = .ok (.iconst 1, 1) := by decide +kernel
theorem dL_degree_47 : decode cL_degree 47 = .ok (.goto 4, 3) := by decide +kernel
theorem dL_degree_50 : decode cL_degree 50 = .ok (.iconst 0, 1) := by decide +kernel
theorem dL_degree_51 : decode cL_degree 51 = .ok (.iadd, 1) := by decide +kernel
theorem dL_degree_52 : decode cL_degree 52 = .ok (.istore 4, 2) := by decide +kernel
theorem dL_degree_54 : decode cL_degree 54 = .ok (.iinc 5 1, 3) := by decide +kernel
theorem dL_degree_57 : decode cL_degree 57 = .ok (.goto (-51), 3) := by decide +kernel
theorem dL_degree_60 : decode cL_degree 60 = .ok (.iload 4, 2) := by decide +kernel
theorem dL_degree_62 : decode cL_degree 62 = .ok (.ireturn, 1) := by decide +kernel
theorem dL_reason_0 : decode cL_reason 0 = .ok (.aload_n 0, 1) := by decide +kernel
theorem dL_reason_1 : decode cL_reason 1 = .ok (.aload_n 1, 1) := by decide +kernel
theorem dL_reason_2 : decode cL_reason 2 = .ok (.iload_n 2, 1) := by decide +kernel
theorem dL_reason_3 : decode cL_reason 3 = .ok (.iload_n 3, 1) := by decide +kernel
theorem dL_reason_4 : decode cL_reason 4 = .ok (.bipush 9, 2) := by decide +kernel
theorem dL_reason_6 : decode cL_reason 6 = .ok (.invokestatic 25, 3) := by decide +kernel
theorem dL_reason_9 : decode cL_reason 9 = .ok (.istore 4, 2) := by decide +kernel
theorem dL_reason_11 : decode cL_reason 11 = .ok (.iconst 0, 1) := by decide +kernel
theorem dL_reason_12 : decode cL_reason 12 = .ok (.istore 5, 2) := by decide +kernel
theorem dL_reason_14 : decode cL_reason 14 = .ok (.iconst 0, 1) := by decide +kernel
theorem dL_reason_15 : decode cL_reason 15 = .ok (.istore 6, 2) := by decide +kernel
theorem dL_reason_17 : decode cL_reason 17 = .ok (.iconst 0, 1) := by decide +kernel
theorem dL_reason_18 : decode cL_reason 18 = .ok (.istore 7, 2) := by decide +kernel
theorem dL_reason_20 : decode cL_reason 20 = .ok (.iload 7, 2) := by decide +kernel
theorem dL_reason_22 : decode cL_reason 22 = .ok (.bipush 10, 2) := by decide +kernel
theorem dL_reason_24 : decode cL_reason 24 = .ok (.if_icmp .ge 55, 3) := by decide +kernel
theorem dL_reason_27 : decode cL_reason 27 = .ok (.aload_n 0, 1) := by decide +kernel
theorem dL_reason_28 : decode cL_reason 28 = .ok (.aload_n 1, 1) := by decide +kernel
theorem dL_reason_29 : decode cL_reason 29 = .ok (.iload 7, 2) := by decide +kernel
theorem dL_reason_31 : decode cL_reason 31 = .ok (.iload_n 3, 1) := by decide +kernel
theorem dL_reason_32 : decode cL_reason 32 = .ok (.invokestatic 75, 3) := by decide +kernel
theorem dL_reason_35 : decode cL_reason 35 = .ok (.istore 8, 2) := by decide +kernel
theorem dL_reason_37 : decode cL_reason 37 = .ok (.iload 5, 2) := by decide +kernel
theorem dL_reason_39 : decode cL_reason 39 = .ok (.ifCond .ne 18, 3) := by decide +kernel
theorem dL_reason_42 : decode cL_reason 42 = .ok (.iload 8, 2) := by decide +kernel
theorem dL_reason_44 : decode cL_reason 44 = .ok (.ifCond .le 17, 3) := by decide +kernel
theorem dL_reason_47 : decode cL_reason 47 = .ok (.iload 4, 2) := by decide +kernel
theorem dL_reason_49 : decode cL_reason 49 = .ok (.iload 7, 2) := by decide +kernel
theorem dL_reason_51 : decode cL_reason 51 = .ok (.ishr, 1) := by decide +kernel
theorem dL_reason_52 : decode cL_reason 52 = .ok (.iconst 1, 1) := by decide +kernel
theorem dL_reason_53 : decode cL_reason 53 = .ok (.iand, 1) := by decide +kernel
theorem dL_reason_54 : decode cL_reason 54 = .ok (.ifCond .ne 7, 3) := by decide +kernel
theorem dL_reason_57 : decode cL_reason 57 = .ok (.iconst 1, 1) := by decide +kernel
theorem dL_reason_58 : decode cL_reason 58 = .ok (.goto 4, 3) := by decide +kernel
theorem dL_reason_61 : decode cL_reason 61 = .ok (.iconst 0, 1) := by decide +kernel
theorem dL_reason_62 : decode cL_reason 62 = .ok (.istore 5, 2) := by decide +kernel
theorem dL_reason_64 : decode cL_reason 64 = .ok (.iload 6, 2) := by decide +kernel
theorem dL_reason_66 : decode cL_reason 66 = .ok (.iload 8, 2) := by decide +kernel
theorem dL_reason_68 : decode cL_reason 68 = .ok (.iconst 1, 1) := by decide +kernel
theorem dL_reason_69 : decode cL_reason 69 = .ok (.iand, 1) := by decide +kernel
theorem dL_reason_70 : decode cL_reason 70 = .ok (.iadd, 1) := by decide +kernel
theorem dL_reason_71 : decode cL_reason 71 = .ok (.istore 6, 2) := by decide +kernel
theorem dL_reason_73 : decode cL_reason 73 = .ok (.iinc 7 1, 3) := by decide +kernel
theorem dL_reason_76 : decode cL_reason 76 = .ok (.goto (-56), 3) := by decide +kernel
theorem dL_reason_79 : decode cL_reason 79 = .ok (.iload_n 3, 1) := by decide +kernel
theorem dL_reason_80 : decode cL_reason 80 = .ok (.ifCond .ne 7, 3) := by decide +kernel
theorem dL_reason_83 : decode cL_reason 83 = .ok (.iconst 1, 1) := by decide +kernel
theorem dL_reason_84 : decode cL_reason 84 = .ok (.goto 59, 3) := by decide +kernel
theorem dL_reason_87 : decode cL_reason 87 = .ok (.aload_n 0, 1) := by decide +kernel
theorem dL_reason_88 : decode cL_reason 88 = .ok (.aload_n 1, 1) := by decide +kernel
theorem dL_reason_89 : decode cL_reason 89 = .ok (.iload_n 2, 1) := by decide +kernel
theorem dL_reason_90 : decode cL_reason 90 = .ok (.iload_n 3, 1) := by decide +kernel
theorem dL_reason_91 : decode cL_reason 91 = .ok (.invokestatic 75, 3) := by decide +kernel
theorem dL_reason_94 : decode cL_reason 94 = .ok (.ifCond .ne 7, 3) := by decide +kernel
theorem dL_reason_97 : decode cL_reason 97 = .ok (.iconst 2, 1) := by decide +kernel
theorem dL_reason_98 : decode cL_reason 98 = .ok (.goto 45, 3) := by decide +kernel
theorem dL_reason_101 : decode cL_reason 101 = .ok (.iload 5, 2) := by decide +kernel
theorem dL_reason_103 : decode cL_reason 103 = .ok (.ifCond .eq 7, 3) := by decide +kernel
theorem dL_reason_106 : decode cL_reason 106 = .ok (.iconst 3, 1) := by decide +kernel
theorem dL_reason_107 : decode cL_reason 107 = .ok (.goto 36, 3) := by decide +kernel
theorem dL_reason_110 : decode cL_reason 110 = .ok (.iload 6, 2) := by decide +kernel
theorem dL_reason_112 : decode cL_reason 112 = .ok (.iconst 2, 1) := by decide +kernel
theorem dL_reason_113 : decode cL_reason 113 = .ok (.if_icmp .le 7, 3) := by decide +kernel
theorem dL_reason_116 : decode cL_reason 116 = .ok (.iconst 4, 1) := by decide +kernel
theorem dL_reason_117 : decode cL_reason 117 = .ok (.goto 26, 3) := by decide +kernel
theorem dL_reason_120 : decode cL_reason 120 = .ok (.iload 6, 2) := by decide +kernel
theorem dL_reason_122 : decode cL_reason 122 = .ok (.iconst 2, 1) := by decide +kernel
theorem dL_reason_123 : decode cL_reason 123 = .ok (.if_icmp .ne 19, 3) := by decide +kernel
theorem dL_reason_126 : decode cL_reason 126 = .ok (.aload_n 0, 1) := by decide +kernel
theorem dL_reason_127 : decode cL_reason 127 = .ok (.aload_n 1, 1) := by decide +kernel
theorem dL_reason_128 : decode cL_reason 128 = .ok (.iload_n 2, 1) := by decide +kernel
theorem dL_reason_129 : decode cL_reason 129 = .ok (.iload_n 3, 1) := by decide +kernel
theorem dL_reason_130 : decode cL_reason 130 = .ok (.invokestatic 75, 3) := by decide +kernel
theorem dL_reason_133 : decode cL_reason 133 = .ok (.iconst 1, 1) := by decide +kernel
theorem dL_reason_134 : decode cL_reason 134 = .ok (.iand, 1) := by decide +kernel
theorem dL_reason_135 : decode cL_reason 135 = .ok (.ifCond .ne 7, 3) := by decide +kernel
theorem dL_reason_138 : decode cL_reason 138 = .ok (.iconst 5, 1) := by decide +kernel
theorem dL_reason_139 : decode cL_reason 139 = .ok (.goto 4, 3) := by decide +kernel
theorem dL_reason_142 : decode cL_reason 142 = .ok (.iconst 0, 1) := by decide +kernel
theorem dL_reason_143 : decode cL_reason 143 = .ok (.ireturn, 1) := by decide +kernel
theorem dL_trail_0 : decode cL_trail 0 = .ok (.aload_n 3, 1) := by decide +kernel
theorem dL_trail_1 : decode cL_trail 1 = .ok (.invokestatic 21, 3) := by decide +kernel
theorem dL_trail_4 : decode cL_trail 4 = .ok (.aload_n 2, 1) := by decide +kernel
theorem dL_trail_5 : decode cL_trail 5 = .ok (.iconst 4, 1) := by decide +kernel
theorem dL_trail_6 : decode cL_trail 6 = .ok (.iload 4, 2) := by decide +kernel
theorem dL_trail_8 : decode cL_trail 8 = .ok (.iadd, 1) := by decide +kernel
theorem dL_trail_9 : decode cL_trail 9 = .ok (.iaload, 1) := by decide +kernel
theorem dL_trail_10 : decode cL_trail 10 = .ok (.iconst (-1), 1) := by decide +kernel
theorem dL_trail_11 : decode cL_trail 11 = .ok (.ixor, 1) := by decide +kernel
theorem dL_trail_12 : decode cL_trail 12 = .ok (.iand, 1) := by decide +kernel
theorem dL_trail_13 : decode cL_trail 13 = .ok (.istore 5, 2) := by decide +kernel
theorem dL_trail_15 : decode cL_trail 15 = .ok (.aload_n 2, 1) := by decide +kernel
theorem dL_trail_16 : decode cL_trail 16 = .ok (.iload 4, 2) := by decide +kernel
theorem dL_trail_18 : decode cL_trail 18 = .ok (.iaload, 1) := by decide +kernel
theorem dL_trail_19 : decode cL_trail 19 = .ok (.istore 6, 2) := by decide +kernel
theorem dL_trail_21 : decode cL_trail 21 = .ok (.aload_n 1, 1) := by decide +kernel
theorem dL_trail_22 : decode cL_trail 22 = .ok (.aload_n 3, 1) := by decide +kernel
theorem dL_trail_23 : decode cL_trail 23 = .ok (.iload 6, 2) := by decide +kernel
theorem dL_trail_25 : decode cL_trail 25 = .ok (.iload 5, 2) := by decide +kernel
theorem dL_trail_27 : decode cL_trail 27 = .ok (.invokestatic 78, 3) := by decide +kernel
theorem dL_trail_30 : decode cL_trail 30 = .ok (.istore 7, 2) := by decide +kernel
theorem dL_trail_32 : decode cL_trail 32 = .ok (.aload_n 0, 1) := by decide +kernel
theorem dL_trail_33 : decode cL_trail 33 = .ok (.iload 4, 2) := by decide +kernel
theorem dL_trail_35 : decode cL_trail 35 = .ok (.invokevirtual 81, 3) := by decide +kernel
theorem dL_trail_38 : decode cL_trail 38 = .ok (.iload 7, 2) := by decide +kernel
theorem dL_trail_40 : decode cL_trail 40 = .ok (.if_icmp .ne 8, 3) := by decide +kernel
theorem dL_trail_43 : decode cL_trail 43 = .ok (.iload 7, 2) := by decide +kernel
theorem dL_trail_45 : decode cL_trail 45 = .ok (.ifCond .eq 32, 3) := by decide +kernel
theorem dL_trail_48 : decode cL_trail 48 = .ok (.aload_n 0, 1) := by decide +kernel
theorem dL_trail_49 : decode cL_trail 49 = .ok (.iload 4, 2) := by decide +kernel
theorem dL_trail_51 : decode cL_trail 51 = .ok (.invokevirtual 81, 3) := by decide +kernel
theorem dL_trail_54 : decode cL_trail 54 = .ok (.iload 7, 2) := by decide +kernel
theorem dL_trail_56 : decode cL_trail 56 = .ok (.if_icmp .ne 19, 3) := by decide +kernel
theorem dL_trail_59 : decode cL_trail 59 = .ok (.aload_n 0, 1) := by decide +kernel
theorem dL_trail_60 : decode cL_trail 60 = .ok (.iload 4, 2) := by decide +kernel
theorem dL_trail_62 : decode cL_trail 62 = .ok (.iconst 0, 1) := by decide +kernel
theorem dL_trail_63 : decode cL_trail 63 = .ok (.invokevirtual 84, 3) := by decide +kernel
theorem dL_trail_66 : decode cL_trail 66 = .ok (.bipush (-5), 2) := by decide +kernel
theorem dL_trail_68 : decode cL_trail 68 = .ok (.if_icmp .ne 7, 3) := by decide +kernel
theorem dL_trail_71 : decode cL_trail 71 = .ok (.iconst 1, 1) := by decide +kernel
theorem dL_trail_72 : decode cL_trail 72 = .ok (.goto 4, 3) := by decide +kernel
theorem dL_trail_75 : decode cL_trail 75 = .ok (.iconst 0, 1) := by decide +kernel
theorem dL_trail_76 : decode cL_trail 76 = .ok (.ireturn, 1) := by decide +kernel
theorem dL_trail_77 : decode cL_trail 77 = .ok (.iconst 0, 1) := by decide +kernel
theorem dL_trail_78 : decode cL_trail 78 = .ok (.istore 8, 2) := by decide +kernel
theorem dL_trail_80 : decode cL_trail 80 = .ok (.iload 5, 2) := by decide +kernel
theorem dL_trail_82 : decode cL_trail 82 = .ok (.ifCond .eq 232, 3) := by decide +kernel
theorem dL_trail_85 : decode cL_trail 85 = .ok (.aload_n 0, 1) := by decide +kernel
theorem dL_trail_86 : decode cL_trail 86 = .ok (.iload 4, 2) := by decide +kernel
theorem dL_trail_88 : decode cL_trail 88 = .ok (.iload 8, 2) := by decide +kernel
theorem dL_trail_90 : decode cL_trail 90 = .ok (.invokevirtual 84, 3) := by decide +kernel
theorem dL_trail_93 : decode cL_trail 93 = .ok (.istore 9, 2) := by decide +kernel
theorem dL_trail_95 : decode cL_trail 95 = .ok (.iload 9, 2) := by decide +kernel
theorem dL_trail_97 : decode cL_trail 97 = .ok (.ifCond .lt 35, 3) := by decide +kernel
theorem dL_trail_100 : decode cL_trail 100 = .ok (.iload 5, 2) := by decide +kernel
theorem dL_trail_102 : decode cL_trail 102 = .ok (.iload 9, 2) := by decide +kernel
theorem dL_trail_104 : decode cL_trail 104 = .ok (.ishr, 1) := by decide +kernel
theorem dL_trail_105 : decode cL_trail 105 = .ok (.iconst 1, 1) := by decide +kernel
theorem dL_trail_106 : decode cL_trail 106 = .ok (.iand, 1) := by decide +kernel
theorem dL_trail_107 : decode cL_trail 107 = .ok (.ifCond .eq 25, 3) := by decide +kernel
theorem dL_trail_110 : decode cL_trail 110 = .ok (.aload_n 1, 1) := by decide +kernel
theorem dL_trail_111 : decode cL_trail 111 = .ok (.iload 9, 2) := by decide +kernel
theorem dL_trail_113 : decode cL_trail 113 = .ok (.invokestatic 10, 3) := by decide +kernel
theorem dL_trail_116 : decode cL_trail 116 = .ok (.iload 6, 2) := by decide +kernel
theorem dL_trail_118 : decode cL_trail 118 = .ok (.if_icmp .eq 16, 3) := by decide +kernel
theorem dL_trail_121 : decode cL_trail 121 = .ok (.aload_n 1, 1) := by decide +kernel
theorem dL_trail_122 : decode cL_trail 122 = .ok (.iload 9, 2) := by decide +kernel
theorem dL_trail_124 : decode cL_trail 124 = .ok (.invokestatic 16, 3) := by decide +kernel
theorem dL_trail_127 : decode cL_trail 127 = .ok (.iload 6, 2) := by decide +kernel
theorem dL_trail_129 : decode cL_trail 129 = .ok (.if_icmp .eq 5, 3) := by decide +kernel
theorem dL_trail_132 : decode cL_trail 132 = .ok (.iconst 0, 1) := by decide +kernel
theorem dL_trail_133 : decode cL_trail 133 = .ok (.ireturn, 1) := by decide +kernel
theorem dL_trail_134 : decode cL_trail 134 = .ok (.iconst 0, 1) := by decide +kernel
theorem dL_trail_135 : decode cL_trail 135 = .ok (.istore 10, 2) := by decide +kernel
theorem dL_trail_137 : decode cL_trail 137 = .ok (.iload 10, 2) := by decide +kernel
theorem dL_trail_139 : decode cL_trail 139 = .ok (.iload 9, 2) := by decide +kernel
theorem dL_trail_141 : decode cL_trail 141 = .ok (.if_icmp .gt 128, 3) := by decide +kernel
theorem dL_trail_144 : decode cL_trail 144 = .ok (.iload 5, 2) := by decide +kernel
theorem dL_trail_146 : decode cL_trail 146 = .ok (.iload 10, 2) := by decide +kernel
theorem dL_trail_148 : decode cL_trail 148 = .ok (.ishr, 1) := by decide +kernel
theorem dL_trail_149 : decode cL_trail 149 = .ok (.iconst 1, 1) := by decide +kernel
theorem dL_trail_150 : decode cL_trail 150 = .ok (.iand, 1) := by decide +kernel
theorem dL_trail_151 : decode cL_trail 151 = .ok (.iconst 1, 1) := by decide +kernel
theorem dL_trail_152 : decode cL_trail 152 = .ok (.if_icmp .ne 29, 3) := by decide +kernel
theorem dL_trail_155 : decode cL_trail 155 = .ok (.aload_n 1, 1) := by decide +kernel
theorem dL_trail_156 : decode cL_trail 156 = .ok (.iload 10, 2) := by decide +kernel
theorem dL_trail_158 : decode cL_trail 158 = .ok (.invokestatic 10, 3) := by decide +kernel
theorem dL_trail_161 : decode cL_trail 161 = .ok (.iload 6, 2) := by decide +kernel
theorem dL_trail_163 : decode cL_trail 163 = .ok (.if_icmp .eq 14, 3) := by decide +kernel
theorem dL_trail_166 : decode cL_trail 166 = .ok (.aload_n 1, 1) := by decide +kernel
theorem dL_trail_167 : decode cL_trail 167 = .ok (.iload 10, 2) := by decide +kernel
theorem dL_trail_169 : decode cL_trail 169 = .ok (.invokestatic 16, 3) := by decide +kernel
theorem dL_trail_172 : decode cL_trail 172 = .ok (.iload 6, 2) := by decide +kernel
theorem dL_trail_174 : decode cL_trail 174 = .ok (.if_icmp .ne 7, 3) := by decide +kernel
theorem dL_trail_177 : decode cL_trail 177 = .ok (.iconst 1, 1) := by decide +kernel
theorem dL_trail_178 : decode cL_trail 178 = .ok (.goto 4, 3) := by decide +kernel
theorem dL_trail_181 : decode cL_trail 181 = .ok (.iconst 0, 1) := by decide +kernel
theorem dL_trail_182 : decode cL_trail 182 = .ok (.istore 11, 2) := by decide +kernel
theorem dL_trail_184 : decode cL_trail 184 = .ok (.aload_n 1, 1) := by decide +kernel
theorem dL_trail_185 : decode cL_trail 185 = .ok (.iload 10, 2) := by decide +kernel
theorem dL_trail_187 : decode cL_trail 187 = .ok (.invokestatic 10, 3) := by decide +kernel
theorem dL_trail_190 : decode cL_trail 190 = .ok (.iload 6, 2) := by decide +kernel
theorem dL_trail_192 : decode cL_trail 192 = .ok (.if_icmp .ne 12, 3) := by decide +kernel
theorem dL_trail_195 : decode cL_trail 195 = .ok (.aload_n 1, 1) := by decide +kernel
theorem dL_trail_196 : decode cL_trail 196 = .ok (.iload 10, 2) := by decide +kernel
theorem dL_trail_198 : decode cL_trail 198 = .ok (.invokestatic 16, 3) := by decide +kernel
theorem dL_trail_201 : decode cL_trail 201 = .ok (.goto 9, 3) := by decide +kernel
theorem dL_trail_204 : decode cL_trail 204 = .ok (.aload_n 1, 1) := by decide +kernel
theorem dL_trail_205 : decode cL_trail 205 = .ok (.iload 10, 2) := by decide +kernel
theorem dL_trail_207 : decode cL_trail 207 = .ok (.invokestatic 10, 3) := by decide +kernel
theorem dL_trail_210 : decode cL_trail 210 = .ok (.istore 12, 2) := by decide +kernel
theorem dL_trail_212 : decode cL_trail 212 = .ok (.iload 11, 2) := by decide +kernel
theorem dL_trail_214 : decode cL_trail 214 = .ok (.ifCond .eq 27, 3) := by decide +kernel
theorem dL_trail_217 : decode cL_trail 217 = .ok (.aload_n 1, 1) := by decide +kernel
theorem dL_trail_218 : decode cL_trail 218 = .ok (.aload_n 3, 1) := by decide +kernel
theorem dL_trail_219 : decode cL_trail 219 = .ok (.iload 12, 2) := by decide +kernel
theorem dL_trail_221 : decode cL_trail 221 = .ok (.iload 5, 2) := by decide +kernel
theorem dL_trail_223 : decode cL_trail 223 = .ok (.iconst 1, 1) := by decide +kernel
theorem dL_trail_224 : decode cL_trail 224 = .ok (.iload 10, 2) := by decide +kernel
theorem dL_trail_226 : decode cL_trail 226 = .ok (.ishl, 1) := by decide +kernel
theorem dL_trail_227 : decode cL_trail 227 = .ok (.iconst (-1), 1) := by decide +kernel
theorem dL_trail_228 : decode cL_trail 228 = .ok (.ixor, 1) := by decide +kernel
theorem dL_trail_229 : decode cL_trail 229 = .ok (.iand, 1) := by decide +kernel
theorem dL_trail_230 : decode cL_trail 230 = .ok (.invokestatic 78, 3) := by decide +kernel
theorem dL_trail_233 : decode cL_trail 233 = .ok (.iconst 2, 1) := by decide +kernel
theorem dL_trail_234 : decode cL_trail 234 = .ok (.if_icmp .ge 7, 3) := by decide +kernel
theorem dL_trail_237 : decode cL_trail 237 = .ok (.iconst 1, 1) := by decide +kernel
theorem dL_trail_238 : decode cL_trail 238 = .ok (.goto 4, 3) := by decide +kernel
theorem dL_trail_241 : decode cL_trail 241 = .ok (.iconst 0, 1) := by decide +kernel
theorem dL_trail_242 : decode cL_trail 242 = .ok (.istore 13, 2) := by decide +kernel
theorem dL_trail_244 : decode cL_trail 244 = .ok (.iload 13, 2) := by decide +kernel
theorem dL_trail_246 : decode cL_trail 246 = .ok (.iload 10, 2) := by decide +kernel
theorem dL_trail_248 : decode cL_trail 248 = .ok (.iload 9, 2) := by decide +kernel
theorem dL_trail_250 : decode cL_trail 250 = .ok (.if_icmp .ne 7, 3) := by decide +kernel
theorem dL_trail_253 : decode cL_trail 253 = .ok (.iconst 1, 1) := by decide +kernel
theorem dL_trail_254 : decode cL_trail 254 = .ok (.goto 4, 3) := by decide +kernel
theorem dL_trail_257 : decode cL_trail 257 = .ok (.iconst 0, 1) := by decide +kernel
theorem dL_trail_258 : decode cL_trail 258 = .ok (.if_icmp .eq 5, 3) := by decide +kernel
theorem dL_trail_261 : decode cL_trail 261 = .ok (.iconst 0, 1) := by decide +kernel
theorem dL_trail_262 : decode cL_trail 262 = .ok (.ireturn, 1) := by decide +kernel
theorem dL_trail_263 : decode cL_trail 263 = .ok (.iinc 10 1, 3) := by decide +kernel
theorem dL_trail_266 : decode cL_trail 266 = .ok (.goto (-129), 3) := by decide +kernel
theorem dL_trail_269 : decode cL_trail 269 = .ok (.iload 5, 2) := by decide +kernel
theorem dL_trail_271 : decode cL_trail 271 = .ok (.iconst 1, 1) := by decide +kernel
theorem dL_trail_272 : decode cL_trail 272 = .ok (.iload 9, 2) := by decide +kernel
theorem dL_trail_274 : decode cL_trail 274 = .ok (.ishl, 1) := by decide +kernel
theorem dL_trail_275 : decode cL_trail 275 = .ok (.iconst (-1), 1) := by decide +kernel
theorem dL_trail_276 : decode cL_trail 276 = .ok (.ixor, 1) := by decide +kernel
theorem dL_trail_277 : decode cL_trail 277 = .ok (.iand, 1) := by decide +kernel
theorem dL_trail_278 : decode cL_trail 278 = .ok (.istore 5, 2) := by decide +kernel
theorem dL_trail_280 : decode cL_trail 280 = .ok (.aload_n 1, 1) := by decide +kernel
theorem dL_trail_281 : decode cL_trail 281 = .ok (.iload 9, 2) := by decide +kernel
theorem dL_trail_283 : decode cL_trail 283 = .ok (.invokestatic 10, 3) := by decide +kernel
theorem dL_trail_286 : decode cL_trail 286 = .ok (.iload 6, 2) := by decide +kernel
theorem dL_trail_288 : decode cL_trail 288 = .ok (.if_icmp .ne 12, 3) := by decide +kernel
theorem dL_trail_291 : decode cL_trail 291 = .ok (.aload_n 1, 1) := by decide +kernel
theorem dL_trail_292 : decode cL_trail 292 = .ok (.iload 9, 2) := by decide +kernel
theorem dL_trail_294 : decode cL_trail 294 = .ok (.invokestatic 16, 3) := by decide +kernel
theorem dL_trail_297 : decode cL_trail 297 = .ok (.goto 9, 3) := by decide +kernel
theorem dL_trail_300 : decode cL_trail 300 = .ok (.aload_n 1, 1) := by decide +kernel
theorem dL_trail_301 : decode cL_trail 301 = .ok (.iload 9, 2) := by decide +kernel
theorem dL_trail_303 : decode cL_trail 303 = .ok (.invokestatic 10, 3) := by decide +kernel
theorem dL_trail_306 : decode cL_trail 306 = .ok (.istore 6, 2) := by decide +kernel
theorem dL_trail_308 : decode cL_trail 308 = .ok (.iinc 8 1, 3) := by decide +kernel
theorem dL_trail_311 : decode cL_trail 311 = .ok (.goto (-231), 3) := by decide +kernel
theorem dL_trail_314 : decode cL_trail 314 = .ok (.aload_n 0, 1) := by decide +kernel
theorem dL_trail_315 : decode cL_trail 315 = .ok (.iload 4, 2) := by decide +kernel
theorem dL_trail_317 : decode cL_trail 317 = .ok (.iload 8, 2) := by decide +kernel
theorem dL_trail_319 : decode cL_trail 319 = .ok (.invokevirtual 84, 3) := by decide +kernel
theorem dL_trail_322 : decode cL_trail 322 = .ok (.bipush (-6), 2) := by decide +kernel
theorem dL_trail_324 : decode cL_trail 324 = .ok (.if_icmp .ne 7, 3) := by decide +kernel
theorem dL_trail_327 : decode cL_trail 327 = .ok (.iconst 1, 1) := by decide +kernel
theorem dL_trail_328 : decode cL_trail 328 = .ok (.goto 4, 3) := by decide +kernel
theorem dL_trail_331 : decode cL_trail 331 = .ok (.iconst 0, 1) := by decide +kernel
theorem dL_trail_332 : decode cL_trail 332 = .ok (.ireturn, 1) := by decide +kernel
theorem dL_pairs_0 : decode cL_pairs 0 = .ok (.iconst 0, 1) := by decide +kernel
theorem dL_pairs_1 : decode cL_pairs 1 = .ok (.istore_n 3, 1) := by decide +kernel
theorem dL_pairs_2 : decode cL_pairs 2 = .ok (.iconst 0, 1) := by decide +kernel
theorem dL_pairs_3 : decode cL_pairs 3 = .ok (.istore 4, 2) := by decide +kernel
theorem dL_pairs_5 : decode cL_pairs 5 = .ok (.iload 4, 2) := by decide +kernel
theorem dL_pairs_7 : decode cL_pairs 7 = .ok (.bipush 100, 2) := by decide +kernel
theorem dL_pairs_9 : decode cL_pairs 9 = .ok (.if_icmp .ge 50, 3) := by decide +kernel
theorem dL_pairs_12 : decode cL_pairs 12 = .ok (.iload_n 3, 1) := by decide +kernel
theorem dL_pairs_13 : decode cL_pairs 13 = .ok (.iload 4, 2) := by decide +kernel
theorem dL_pairs_15 : decode cL_pairs 15 = .ok (.bipush 10, 2) := by decide +kernel
theorem dL_pairs_17 : decode cL_pairs 17 = .ok (.irem, 1) := by decide +kernel
theorem dL_pairs_18 : decode cL_pairs 18 = .ok (.iload 4, 2) := by decide +kernel
theorem dL_pairs_20 : decode cL_pairs 20 = .ok (.bipush 10, 2) := by decide +kernel
theorem dL_pairs_22 : decode cL_pairs 22 = .ok (.idiv, 1) := by decide +kernel
theorem dL_pairs_23 : decode cL_pairs 23 = .ok (.if_icmp .ge 27, 3) := by decide +kernel
theorem dL_pairs_26 : decode cL_pairs 26 = .ok (.aload_n 0, 1) := by decide +kernel
theorem dL_pairs_27 : decode cL_pairs 27 = .ok (.aload_n 1, 1) := by decide +kernel
theorem dL_pairs_28 : decode cL_pairs 28 = .ok (.iload 4, 2) := by decide +kernel
theorem dL_pairs_30 : decode cL_pairs 30 = .ok (.bipush 10, 2) := by decide +kernel
theorem dL_pairs_32 : decode cL_pairs 32 = .ok (.idiv, 1) := by decide +kernel
theorem dL_pairs_33 : decode cL_pairs 33 = .ok (.iload_n 2, 1) := by decide +kernel
theorem dL_pairs_34 : decode cL_pairs 34 = .ok (.bipush 9, 2) := by decide +kernel
theorem dL_pairs_36 : decode cL_pairs 36 = .ok (.invokestatic 25, 3) := by decide +kernel
theorem dL_pairs_39 : decode cL_pairs 39 = .ok (.iload 4, 2) := by decide +kernel
theorem dL_pairs_41 : decode cL_pairs 41 = .ok (.bipush 10, 2) := by decide +kernel
theorem dL_pairs_43 : decode cL_pairs 43 = .ok (.irem, 1) := by decide +kernel
theorem dL_pairs_44 : decode cL_pairs 44 = .ok (.ishr, 1) := by decide +kernel
theorem dL_pairs_45 : decode cL_pairs 45 = .ok (.iconst 1, 1) := by decide +kernel
theorem dL_pairs_46 : decode cL_pairs 46 = .ok (.iand, 1) := by decide +kernel
theorem dL_pairs_47 : decode cL_pairs 47 = .ok (.goto 4, 3) := by decide +kernel
theorem dL_pairs_50 : decode cL_pairs 50 = .ok (.iconst 0, 1) := by decide +kernel
theorem dL_pairs_51 : decode cL_pairs 51 = .ok (.iadd, 1) := by decide +kernel
theorem dL_pairs_52 : decode cL_pairs 52 = .ok (.istore_n 3, 1) := by decide +kernel
theorem dL_pairs_53 : decode cL_pairs 53 = .ok (.iinc 4 1, 3) := by decide +kernel
theorem dL_pairs_56 : decode cL_pairs 56 = .ok (.goto (-51), 3) := by decide +kernel
theorem dL_pairs_59 : decode cL_pairs 59 = .ok (.iload_n 3, 1) := by decide +kernel
theorem dL_pairs_60 : decode cL_pairs 60 = .ok (.ireturn, 1) := by decide +kernel
theorem dL_gap_0 : decode cL_gap 0 = .ok (.aload_n 1, 1) := by decide +kernel
theorem dL_gap_1 : decode cL_gap 1 = .ok (.aload_n 2, 1) := by decide +kernel
theorem dL_gap_2 : decode cL_gap 2 = .ok (.aload_n 2, 1) := by decide +kernel
theorem dL_gap_3 : decode cL_gap 3 = .ok (.invokestatic 21, 3) := by decide +kernel
theorem dL_gap_6 : decode cL_gap 6 = .ok (.invokestatic 87, 3) := by decide +kernel
theorem dL_gap_9 : decode cL_gap 9 = .ok (.istore_n 3, 1) := by decide +kernel
theorem dL_gap_10 : decode cL_gap 10 = .ok (.bipush (-6), 2) := by decide +kernel
theorem dL_gap_12 : decode cL_gap 12 = .ok (.istore 4, 2) := by decide +kernel
theorem dL_gap_14 : decode cL_gap 14 = .ok (.bipush (-6), 2) := by decide +kernel
theorem dL_gap_16 : decode cL_gap 16 = .ok (.istore 5, 2) := by decide +kernel
theorem dL_gap_18 : decode cL_gap 18 = .ok (.aload_n 2, 1) := by decide +kernel
theorem dL_gap_19 : decode cL_gap 19 = .ok (.iconst 4, 1) := by decide +kernel
theorem dL_gap_20 : decode cL_gap 20 = .ok (.iaload, 1) := by decide +kernel
theorem dL_gap_21 : decode cL_gap 21 = .ok (.iconst 1, 1) := by decide +kernel
theorem dL_gap_22 : decode cL_gap 22 = .ok (.isub, 1) := by decide +kernel
theorem dL_gap_23 : decode cL_gap 23 = .ok (.istore 6, 2) := by decide +kernel
theorem dL_gap_25 : decode cL_gap 25 = .ok (.iload 6, 2) := by decide +kernel
theorem dL_gap_27 : decode cL_gap 27 = .ok (.ifCond .lt 71, 3) := by decide +kernel
theorem dL_gap_30 : decode cL_gap 30 = .ok (.iload_n 3, 1) := by decide +kernel
theorem dL_gap_31 : decode cL_gap 31 = .ok (.aload_n 1, 1) := by decide +kernel
theorem dL_gap_32 : decode cL_gap 32 = .ok (.aload_n 2, 1) := by decide +kernel
theorem dL_gap_33 : decode cL_gap 33 = .ok (.aload_n 2, 1) := by decide +kernel
theorem dL_gap_34 : decode cL_gap 34 = .ok (.invokestatic 21, 3) := by decide +kernel
theorem dL_gap_37 : decode cL_gap 37 = .ok (.iconst 1, 1) := by decide +kernel
theorem dL_gap_38 : decode cL_gap 38 = .ok (.iload 6, 2) := by decide +kernel
theorem dL_gap_40 : decode cL_gap 40 = .ok (.ishl, 1) := by decide +kernel
theorem dL_gap_41 : decode cL_gap 41 = .ok (.iconst (-1), 1) := by decide +kernel
theorem dL_gap_42 : decode cL_gap 42 = .ok (.ixor, 1) := by decide +kernel
theorem dL_gap_43 : decode cL_gap 43 = .ok (.iand, 1) := by decide +kernel
theorem dL_gap_44 : decode cL_gap 44 = .ok (.invokestatic 87, 3) := by decide +kernel
theorem dL_gap_47 : decode cL_gap 47 = .ok (.isub, 1) := by decide +kernel
theorem dL_gap_48 : decode cL_gap 48 = .ok (.istore 7, 2) := by decide +kernel
theorem dL_gap_50 : decode cL_gap 50 = .ok (.iload 7, 2) := by decide +kernel
theorem dL_gap_52 : decode cL_gap 52 = .ok (.ifCond .le 15, 3) := by decide +kernel
theorem dL_gap_55 : decode cL_gap 55 = .ok (.iload 7, 2) := by decide +kernel
theorem dL_gap_57 : decode cL_gap 57 = .ok (.iload 5, 2) := by decide +kernel
theorem dL_gap_59 : decode cL_gap 59 = .ok (.if_icmp .lt 8, 3) := by decide +kernel
theorem dL_gap_62 : decode cL_gap 62 = .ok (.iload 6, 2) := by decide +kernel
theorem dL_gap_64 : decode cL_gap 64 = .ok (.goto 5, 3) := by decide +kernel
theorem dL_gap_67 : decode cL_gap 67 = .ok (.iload 4, 2) := by decide +kernel
theorem dL_gap_69 : decode cL_gap 69 = .ok (.istore 4, 2) := by decide +kernel
theorem dL_gap_71 : decode cL_gap 71 = .ok (.iload 7, 2) := by decide +kernel
theorem dL_gap_73 : decode cL_gap 73 = .ok (.ifCond .le 15, 3) := by decide +kernel
theorem dL_gap_76 : decode cL_gap 76 = .ok (.iload 7, 2) := by decide +kernel
theorem dL_gap_78 : decode cL_gap 78 = .ok (.iload 5, 2) := by decide +kernel
theorem dL_gap_80 : decode cL_gap 80 = .ok (.if_icmp .lt 8, 3) := by decide +kernel
theorem dL_gap_83 : decode cL_gap 83 = .ok (.iload 7, 2) := by decide +kernel
theorem dL_gap_85 : decode cL_gap 85 = .ok (.goto 5, 3) := by decide +kernel
theorem dL_gap_88 : decode cL_gap 88 = .ok (.iload 5, 2) := by decide +kernel
theorem dL_gap_90 : decode cL_gap 90 = .ok (.istore 5, 2) := by decide +kernel
theorem dL_gap_92 : decode cL_gap 92 = .ok (.iinc 6 (-1), 3) := by decide +kernel
theorem dL_gap_95 : decode cL_gap 95 = .ok (.goto (-70), 3) := by decide +kernel
theorem dL_gap_98 : decode cL_gap 98 = .ok (.aload_n 0, 1) := by decide +kernel
theorem dL_gap_99 : decode cL_gap 99 = .ok (.iconst 0, 1) := by decide +kernel
theorem dL_gap_100 : decode cL_gap 100 = .ok (.invokevirtual 91, 3) := by decide +kernel
theorem dL_gap_103 : decode cL_gap 103 = .ok (.iload 4, 2) := by decide +kernel
theorem dL_gap_105 : decode cL_gap 105 = .ok (.if_icmp .ne 17, 3) := by decide +kernel
theorem dL_gap_108 : decode cL_gap 108 = .ok (.aload_n 0, 1) := by decide +kernel
theorem dL_gap_109 : decode cL_gap 109 = .ok (.iconst 1, 1) := by decide +kernel
theorem dL_gap_110 : decode cL_gap 110 = .ok (.invokevirtual 91, 3) := by decide +kernel
theorem dL_gap_113 : decode cL_gap 113 = .ok (.iload 5, 2) := by decide +kernel
theorem dL_gap_115 : decode cL_gap 115 = .ok (.if_icmp .ne 7, 3) := by decide +kernel
theorem dL_gap_118 : decode cL_gap 118 = .ok (.iconst 1, 1) := by decide +kernel
theorem dL_gap_119 : decode cL_gap 119 = .ok (.goto 4, 3) := by decide +kernel
theorem dL_gap_122 : decode cL_gap 122 = .ok (.iconst 0, 1) := by decide +kernel
theorem dL_gap_123 : decode cL_gap 123 = .ok (.ireturn, 1) := by decide +kernel
theorem dL_boards_0 : decode cL_boards 0 = .ok (.iconst 0, 1) := by decide +kernel
theorem dL_boards_1 : decode cL_boards 1 = .ok (.istore 6, 2) := by decide +kernel
theorem dL_boards_3 : decode cL_boards 3 = .ok (.iload 6, 2) := by decide +kernel
theorem dL_boards_5 : decode cL_boards 5 = .ok (.aload 5, 2) := by decide +kernel
theorem dL_boards_7 : decode cL_boards 7 = .ok (.iconst 4, 1) := by decide +kernel
theorem dL_boards_8 : decode cL_boards 8 = .ok (.iaload, 1) := by decide +kernel
theorem dL_boards_9 : decode cL_boards 9 = .ok (.if_icmp .ge 183, 3) := by decide +kernel
theorem dL_boards_12 : decode cL_boards 12 = .ok (.iconst 0, 1) := by decide +kernel
theorem dL_boards_13 : decode cL_boards 13 = .ok (.istore 7, 2) := by decide +kernel
theorem dL_boards_15 : decode cL_boards 15 = .ok (.iconst 0, 1) := by decide +kernel
theorem dL_boards_16 : decode cL_boards 16 = .ok (.istore 8, 2) := by decide +kernel
theorem dL_boards_18 : decode cL_boards 18 = .ok (.iconst 0, 1) := by decide +kernel
theorem dL_boards_19 : decode cL_boards 19 = .ok (.istore 9, 2) := by decide +kernel
theorem dL_boards_21 : decode cL_boards 21 = .ok (.iload 9, 2) := by decide +kernel
theorem dL_boards_23 : decode cL_boards 23 = .ok (.iconst 4, 1) := by decide +kernel
theorem dL_boards_24 : decode cL_boards 24 = .ok (.if_icmp .ge 57, 3) := by decide +kernel
theorem dL_boards_27 : decode cL_boards 27 = .ok (.iload 7, 2) := by decide +kernel
theorem dL_boards_29 : decode cL_boards 29 = .ok (.aload_n 3, 1) := by decide +kernel
theorem dL_boards_30 : decode cL_boards 30 = .ok (.iconst 4, 1) := by decide +kernel
theorem dL_boards_31 : decode cL_boards 31 = .ok (.iload 9, 2) := by decide +kernel
theorem dL_boards_33 : decode cL_boards 33 = .ok (.iadd, 1) := by decide +kernel
theorem dL_boards_34 : decode cL_boards 34 = .ok (.iaload, 1) := by decide +kernel
theorem dL_boards_35 : decode cL_boards 35 = .ok (.iload 6, 2) := by decide +kernel
theorem dL_boards_37 : decode cL_boards 37 = .ok (.ishr, 1) := by decide +kernel
theorem dL_boards_38 : decode cL_boards 38 = .ok (.iconst 1, 1) := by decide +kernel
theorem dL_boards_39 : decode cL_boards 39 = .ok (.iand, 1) := by decide +kernel
theorem dL_boards_40 : decode cL_boards 40 = .ok (.iload 9, 2) := by decide +kernel
theorem dL_boards_42 : decode cL_boards 42 = .ok (.ishl, 1) := by decide +kernel
theorem dL_boards_43 : decode cL_boards 43 = .ok (.ior, 1) := by decide +kernel
theorem dL_boards_44 : decode cL_boards 44 = .ok (.istore 7, 2) := by decide +kernel
theorem dL_boards_46 : decode cL_boards 46 = .ok (.iload 8, 2) := by decide +kernel
theorem dL_boards_48 : decode cL_boards 48 = .ok (.aload_n 1, 1) := by decide +kernel
theorem dL_boards_49 : decode cL_boards 49 = .ok (.aload_n 3, 1) := by decide +kernel
theorem dL_boards_50 : decode cL_boards 50 = .ok (.aload 4, 2) := by decide +kernel
theorem dL_boards_52 : decode cL_boards 52 = .ok (.aload 5, 2) := by decide +kernel
theorem dL_boards_54 : decode cL_boards 54 = .ok (.iload 9, 2) := by decide +kernel
theorem dL_boards_56 : decode cL_boards 56 = .ok (.iload 6, 2) := by decide +kernel
theorem dL_boards_58 : decode cL_boards 58 = .ok (.invokestatic 40, 3) := by decide +kernel
theorem dL_boards_61 : decode cL_boards 61 = .ok (.ifCond .eq 10, 3) := by decide +kernel
theorem dL_boards_64 : decode cL_boards 64 = .ok (.iconst 1, 1) := by decide +kernel
theorem dL_boards_65 : decode cL_boards 65 = .ok (.iload 9, 2) := by decide +kernel
theorem dL_boards_67 : decode cL_boards 67 = .ok (.ishl, 1) := by decide +kernel
theorem dL_boards_68 : decode cL_boards 68 = .ok (.goto 4, 3) := by decide +kernel
theorem dL_boards_71 : decode cL_boards 71 = .ok (.iconst 0, 1) := by decide +kernel
theorem dL_boards_72 : decode cL_boards 72 = .ok (.ior, 1) := by decide +kernel
theorem dL_boards_73 : decode cL_boards 73 = .ok (.istore 8, 2) := by decide +kernel
theorem dL_boards_75 : decode cL_boards 75 = .ok (.iinc 9 1, 3) := by decide +kernel
theorem dL_boards_78 : decode cL_boards 78 = .ok (.goto (-57), 3) := by decide +kernel
theorem dL_boards_81 : decode cL_boards 81 = .ok (.aload_n 0, 1) := by decide +kernel
theorem dL_boards_82 : decode cL_boards 82 = .ok (.iload 6, 2) := by decide +kernel
theorem dL_boards_84 : decode cL_boards 84 = .ok (.iconst 0, 1) := by decide +kernel
theorem dL_boards_85 : decode cL_boards 85 = .ok (.invokevirtual 94, 3) := by decide +kernel
theorem dL_boards_88 : decode cL_boards 88 = .ok (.aload_n 1, 1) := by decide +kernel
theorem dL_boards_89 : decode cL_boards 89 = .ok (.iload 6, 2) := by decide +kernel
theorem dL_boards_91 : decode cL_boards 91 = .ok (.invokestatic 10, 3) := by decide +kernel
theorem dL_boards_94 : decode cL_boards 94 = .ok (.if_icmp .ne 90, 3) := by decide +kernel
theorem dL_boards_97 : decode cL_boards 97 = .ok (.aload_n 0, 1) := by decide +kernel
theorem dL_boards_98 : decode cL_boards 98 = .ok (.iload 6, 2) := by decide +kernel
theorem dL_boards_100 : decode cL_boards 100 = .ok (.iconst 1, 1) := by decide +kernel
theorem dL_boards_101 : decode cL_boards 101 = .ok (.invokevirtual 94, 3) := by decide +kernel
theorem dL_boards_104 : decode cL_boards 104 = .ok (.aload_n 1, 1) := by decide +kernel
theorem dL_boards_105 : decode cL_boards 105 = .ok (.iload 6, 2) := by decide +kernel
theorem dL_boards_107 : decode cL_boards 107 = .ok (.invokestatic 16, 3) := by decide +kernel
theorem dL_boards_110 : decode cL_boards 110 = .ok (.if_icmp .ne 74, 3) := by decide +kernel
theorem dL_boards_113 : decode cL_boards 113 = .ok (.aload_n 0, 1) := by decide +kernel
theorem dL_boards_114 : decode cL_boards 114 = .ok (.iload 6, 2) := by decide +kernel
theorem dL_boards_116 : decode cL_boards 116 = .ok (.iconst 2, 1) := by decide +kernel
theorem dL_boards_117 : decode cL_boards 117 = .ok (.invokevirtual 94, 3) := by decide +kernel
theorem dL_boards_120 : decode cL_boards 120 = .ok (.aload_n 1, 1) := by decide +kernel
theorem dL_boards_121 : decode cL_boards 121 = .ok (.iload 6, 2) := by decide +kernel
theorem dL_boards_123 : decode cL_boards 123 = .ok (.invokestatic 33, 3) := by decide +kernel
theorem dL_boards_126 : decode cL_boards 126 = .ok (.if_icmp .ne 58, 3) := by decide +kernel
theorem dL_boards_129 : decode cL_boards 129 = .ok (.aload_n 0, 1) := by decide +kernel
theorem dL_boards_130 : decode cL_boards 130 = .ok (.iload 6, 2) := by decide +kernel
theorem dL_boards_132 : decode cL_boards 132 = .ok (.iconst 3, 1) := by decide +kernel
theorem dL_boards_133 : decode cL_boards 133 = .ok (.invokevirtual 94, 3) := by decide +kernel
theorem dL_boards_136 : decode cL_boards 136 = .ok (.aload_n 1, 1) := by decide +kernel
theorem dL_boards_137 : decode cL_boards 137 = .ok (.iload 6, 2) := by decide +kernel
theorem dL_boards_139 : decode cL_boards 139 = .ok (.invokestatic 48, 3) := by decide +kernel
theorem dL_boards_142 : decode cL_boards 142 = .ok (.if_icmp .ne 42, 3) := by decide +kernel
theorem dL_boards_145 : decode cL_boards 145 = .ok (.aload_n 0, 1) := by decide +kernel
theorem dL_boards_146 : decode cL_boards 146 = .ok (.iload 6, 2) := by decide +kernel
theorem dL_boards_148 : decode cL_boards 148 = .ok (.iconst 4, 1) := by decide +kernel
theorem dL_boards_149 : decode cL_boards 149 = .ok (.invokevirtual 94, 3) := by decide +kernel
theorem dL_boards_152 : decode cL_boards 152 = .ok (.iload 7, 2) := by decide +kernel
theorem dL_boards_154 : decode cL_boards 154 = .ok (.if_icmp .ne 30, 3) := by decide +kernel
theorem dL_boards_157 : decode cL_boards 157 = .ok (.aload_n 0, 1) := by decide +kernel
theorem dL_boards_158 : decode cL_boards 158 = .ok (.iload 6, 2) := by decide +kernel
theorem dL_boards_160 : decode cL_boards 160 = .ok (.iconst 5, 1) := by decide +kernel
theorem dL_boards_161 : decode cL_boards 161 = .ok (.invokevirtual 94, 3) := by decide +kernel
theorem dL_boards_164 : decode cL_boards 164 = .ok (.iload 8, 2) := by decide +kernel
theorem dL_boards_166 : decode cL_boards 166 = .ok (.if_icmp .ne 18, 3) := by decide +kernel
theorem dL_boards_169 : decode cL_boards 169 = .ok (.aload_n 0, 1) := by decide +kernel
theorem dL_boards_170 : decode cL_boards 170 = .ok (.iload 6, 2) := by decide +kernel
theorem dL_boards_172 : decode cL_boards 172 = .ok (.bipush 6, 2) := by decide +kernel
theorem dL_boards_174 : decode cL_boards 174 = .ok (.invokevirtual 94, 3) := by decide +kernel
theorem dL_boards_177 : decode cL_boards 177 = .ok (.aload_n 2, 1) := by decide +kernel
theorem dL_boards_178 : decode cL_boards 178 = .ok (.iload 6, 2) := by decide +kernel
theorem dL_boards_180 : decode cL_boards 180 = .ok (.iaload, 1) := by decide +kernel
theorem dL_boards_181 : decode cL_boards 181 = .ok (.if_icmp .eq 5, 3) := by decide +kernel
theorem dL_boards_184 : decode cL_boards 184 = .ok (.iconst 0, 1) := by decide +kernel
theorem dL_boards_185 : decode cL_boards 185 = .ok (.ireturn, 1) := by decide +kernel
theorem dL_boards_186 : decode cL_boards 186 = .ok (.iinc 6 1, 3) := by decide +kernel
theorem dL_boards_189 : decode cL_boards 189 = .ok (.goto (-186), 3) := by decide +kernel
theorem dL_boards_192 : decode cL_boards 192 = .ok (.aload_n 0, 1) := by decide +kernel
theorem dL_boards_193 : decode cL_boards 193 = .ok (.aload 5, 2) := by decide +kernel
theorem dL_boards_195 : decode cL_boards 195 = .ok (.iconst 4, 1) := by decide +kernel
theorem dL_boards_196 : decode cL_boards 196 = .ok (.iaload, 1) := by decide +kernel
theorem dL_boards_197 : decode cL_boards 197 = .ok (.iconst 0, 1) := by decide +kernel
theorem dL_boards_198 : decode cL_boards 198 = .ok (.invokevirtual 94, 3) := by decide +kernel
theorem dL_boards_201 : decode cL_boards 201 = .ok (.iconst (-1), 1) := by decide +kernel
theorem dL_boards_202 : decode cL_boards 202 = .ok (.if_icmp .ne 7, 3) := by decide +kernel
theorem dL_boards_205 : decode cL_boards 205 = .ok (.iconst 1, 1) := by decide +kernel
theorem dL_boards_206 : decode cL_boards 206 = .ok (.goto 4, 3) := by decide +kernel
theorem dL_boards_209 : decode cL_boards 209 = .ok (.iconst 0, 1) := by decide +kernel
theorem dL_boards_210 : decode cL_boards 210 = .ok (.ireturn, 1) := by decide +kernel
theorem dL_tells_0 : decode cL_tells 0 = .ok (.iconst 0, 1) := by decide +kernel
theorem dL_tells_1 : decode cL_tells 1 = .ok (.istore 6, 2) := by decide +kernel
theorem dL_tells_3 : decode cL_tells 3 = .ok (.iconst 0, 1) := by decide +kernel
theorem dL_tells_4 : decode cL_tells 4 = .ok (.istore 7, 2) := by decide +kernel
theorem dL_tells_6 : decode cL_tells 6 = .ok (.iload 7, 2) := by decide +kernel
theorem dL_tells_8 : decode cL_tells 8 = .ok (.iconst 4, 1) := by decide +kernel
theorem dL_tells_9 : decode cL_tells 9 = .ok (.if_icmp .ge 178, 3) := by decide +kernel
theorem dL_tells_12 : decode cL_tells 12 = .ok (.aload_n 1, 1) := by decide +kernel
theorem dL_tells_13 : decode cL_tells 13 = .ok (.aload_n 3, 1) := by decide +kernel
theorem dL_tells_14 : decode cL_tells 14 = .ok (.aload 4, 2) := by decide +kernel
theorem dL_tells_16 : decode cL_tells 16 = .ok (.aload 5, 2) := by decide +kernel
theorem dL_tells_18 : decode cL_tells 18 = .ok (.iload 7, 2) := by decide +kernel
theorem dL_tells_20 : decode cL_tells 20 = .ok (.invokestatic 56, 3) := by decide +kernel
theorem dL_tells_23 : decode cL_tells 23 = .ok (.istore 8, 2) := by decide +kernel
theorem dL_tells_25 : decode cL_tells 25 = .ok (.iconst 0, 1) := by decide +kernel
theorem dL_tells_26 : decode cL_tells 26 = .ok (.istore 9, 2) := by decide +kernel
theorem dL_tells_28 : decode cL_tells 28 = .ok (.iconst 0, 1) := by decide +kernel
theorem dL_tells_29 : decode cL_tells 29 = .ok (.istore 10, 2) := by decide +kernel
theorem dL_tells_31 : decode cL_tells 31 = .ok (.iload 10, 2) := by decide +kernel
theorem dL_tells_33 : decode cL_tells 33 = .ok (.aload 5, 2) := by decide +kernel
theorem dL_tells_35 : decode cL_tells 35 = .ok (.iconst 4, 1) := by decide +kernel
theorem dL_tells_36 : decode cL_tells 36 = .ok (.iaload, 1) := by decide +kernel
theorem dL_tells_37 : decode cL_tells 37 = .ok (.if_icmp .ge 59, 3) := by decide +kernel
theorem dL_tells_40 : decode cL_tells 40 = .ok (.iload 9, 2) := by decide +kernel
theorem dL_tells_42 : decode cL_tells 42 = .ok (.iload 8, 2) := by decide +kernel
theorem dL_tells_44 : decode cL_tells 44 = .ok (.iload 10, 2) := by decide +kernel
theorem dL_tells_46 : decode cL_tells 46 = .ok (.ishr, 1) := by decide +kernel
theorem dL_tells_47 : decode cL_tells 47 = .ok (.iconst 1, 1) := by decide +kernel
theorem dL_tells_48 : decode cL_tells 48 = .ok (.iand, 1) := by decide +kernel
theorem dL_tells_49 : decode cL_tells 49 = .ok (.iconst 1, 1) := by decide +kernel
theorem dL_tells_50 : decode cL_tells 50 = .ok (.if_icmp .ne 36, 3) := by decide +kernel
theorem dL_tells_53 : decode cL_tells 53 = .ok (.aload_n 1, 1) := by decide +kernel
theorem dL_tells_54 : decode cL_tells 54 = .ok (.iload 10, 2) := by decide +kernel
theorem dL_tells_56 : decode cL_tells 56 = .ok (.invokestatic 10, 3) := by decide +kernel
theorem dL_tells_59 : decode cL_tells 59 = .ok (.aload_n 3, 1) := by decide +kernel
theorem dL_tells_60 : decode cL_tells 60 = .ok (.iload 7, 2) := by decide +kernel
theorem dL_tells_62 : decode cL_tells 62 = .ok (.iaload, 1) := by decide +kernel
theorem dL_tells_63 : decode cL_tells 63 = .ok (.if_icmp .eq 16, 3) := by decide +kernel
theorem dL_tells_66 : decode cL_tells 66 = .ok (.aload_n 1, 1) := by decide +kernel
theorem dL_tells_67 : decode cL_tells 67 = .ok (.iload 10, 2) := by decide +kernel
theorem dL_tells_69 : decode cL_tells 69 = .ok (.invokestatic 16, 3) := by decide +kernel
theorem dL_tells_72 : decode cL_tells 72 = .ok (.aload_n 3, 1) := by decide +kernel
theorem dL_tells_73 : decode cL_tells 73 = .ok (.iload 7, 2) := by decide +kernel
theorem dL_tells_75 : decode cL_tells 75 = .ok (.iaload, 1) := by decide +kernel
theorem dL_tells_76 : decode cL_tells 76 = .ok (.if_icmp .ne 10, 3) := by decide +kernel
theorem dL_tells_79 : decode cL_tells 79 = .ok (.iconst 1, 1) := by decide +kernel
theorem dL_tells_80 : decode cL_tells 80 = .ok (.iload 10, 2) := by decide +kernel
theorem dL_tells_82 : decode cL_tells 82 = .ok (.ishl, 1) := by decide +kernel
theorem dL_tells_83 : decode cL_tells 83 = .ok (.goto 4, 3) := by decide +kernel
theorem dL_tells_86 : decode cL_tells 86 = .ok (.iconst 0, 1) := by decide +kernel
theorem dL_tells_87 : decode cL_tells 87 = .ok (.ior, 1) := by decide +kernel
theorem dL_tells_88 : decode cL_tells 88 = .ok (.istore 9, 2) := by decide +kernel
theorem dL_tells_90 : decode cL_tells 90 = .ok (.iinc 10 1, 3) := by decide +kernel
theorem dL_tells_93 : decode cL_tells 93 = .ok (.goto (-62), 3) := by decide +kernel
theorem dL_tells_96 : decode cL_tells 96 = .ok (.aload_n 0, 1) := by decide +kernel
theorem dL_tells_97 : decode cL_tells 97 = .ok (.iload 7, 2) := by decide +kernel
theorem dL_tells_99 : decode cL_tells 99 = .ok (.iconst 0, 1) := by decide +kernel
theorem dL_tells_100 : decode cL_tells 100 = .ok (.invokevirtual 97, 3) := by decide +kernel
theorem dL_tells_103 : decode cL_tells 103 = .ok (.aload_n 3, 1) := by decide +kernel
theorem dL_tells_104 : decode cL_tells 104 = .ok (.iload 7, 2) := by decide +kernel
theorem dL_tells_106 : decode cL_tells 106 = .ok (.iaload, 1) := by decide +kernel
theorem dL_tells_107 : decode cL_tells 107 = .ok (.if_icmp .ne 72, 3) := by decide +kernel
theorem dL_tells_110 : decode cL_tells 110 = .ok (.aload_n 0, 1) := by decide +kernel
theorem dL_tells_111 : decode cL_tells 111 = .ok (.iload 7, 2) := by decide +kernel
theorem dL_tells_113 : decode cL_tells 113 = .ok (.iconst 1, 1) := by decide +kernel
theorem dL_tells_114 : decode cL_tells 114 = .ok (.invokevirtual 97, 3) := by decide +kernel
theorem dL_tells_117 : decode cL_tells 117 = .ok (.aload_n 3, 1) := by decide +kernel
theorem dL_tells_118 : decode cL_tells 118 = .ok (.iconst 4, 1) := by decide +kernel
theorem dL_tells_119 : decode cL_tells 119 = .ok (.iload 7, 2) := by decide +kernel
theorem dL_tells_121 : decode cL_tells 121 = .ok (.iadd, 1) := by decide +kernel
theorem dL_tells_122 : decode cL_tells 122 = .ok (.iaload, 1) := by decide +kernel
theorem dL_tells_123 : decode cL_tells 123 = .ok (.if_icmp .ne 56, 3) := by decide +kernel
theorem dL_tells_126 : decode cL_tells 126 = .ok (.aload_n 0, 1) := by decide +kernel
theorem dL_tells_127 : decode cL_tells 127 = .ok (.iload 7, 2) := by decide +kernel
theorem dL_tells_129 : decode cL_tells 129 = .ok (.iconst 2, 1) := by decide +kernel
theorem dL_tells_130 : decode cL_tells 130 = .ok (.invokevirtual 97, 3) := by decide +kernel
theorem dL_tells_133 : decode cL_tells 133 = .ok (.iload 9, 2) := by decide +kernel
theorem dL_tells_135 : decode cL_tells 135 = .ok (.if_icmp .ne 44, 3) := by decide +kernel
theorem dL_tells_138 : decode cL_tells 138 = .ok (.aload_n 0, 1) := by decide +kernel
theorem dL_tells_139 : decode cL_tells 139 = .ok (.iload 7, 2) := by decide +kernel
theorem dL_tells_141 : decode cL_tells 141 = .ok (.iconst 3, 1) := by decide +kernel
theorem dL_tells_142 : decode cL_tells 142 = .ok (.invokevirtual 97, 3) := by decide +kernel
theorem dL_tells_145 : decode cL_tells 145 = .ok (.aload_n 1, 1) := by decide +kernel
theorem dL_tells_146 : decode cL_tells 146 = .ok (.aload 5, 2) := by decide +kernel
theorem dL_tells_148 : decode cL_tells 148 = .ok (.aload_n 3, 1) := by decide +kernel
theorem dL_tells_149 : decode cL_tells 149 = .ok (.iload 7, 2) := by decide +kernel
theorem dL_tells_151 : decode cL_tells 151 = .ok (.iaload, 1) := by decide +kernel
theorem dL_tells_152 : decode cL_tells 152 = .ok (.iload 8, 2) := by decide +kernel
theorem dL_tells_154 : decode cL_tells 154 = .ok (.bipush 9, 2) := by decide +kernel
theorem dL_tells_156 : decode cL_tells 156 = .ok (.invokestatic 25, 3) := by decide +kernel
theorem dL_tells_159 : decode cL_tells 159 = .ok (.if_icmp .ne 20, 3) := by decide +kernel
theorem dL_tells_162 : decode cL_tells 162 = .ok (.aload_n 0, 1) := by decide +kernel
theorem dL_tells_163 : decode cL_tells 163 = .ok (.iload 7, 2) := by decide +kernel
theorem dL_tells_165 : decode cL_tells 165 = .ok (.iconst 4, 1) := by decide +kernel
theorem dL_tells_166 : decode cL_tells 166 = .ok (.invokevirtual 97, 3) := by decide +kernel
theorem dL_tells_169 : decode cL_tells 169 = .ok (.aload_n 3, 1) := by decide +kernel
theorem dL_tells_170 : decode cL_tells 170 = .ok (.bipush 8, 2) := by decide +kernel
theorem dL_tells_172 : decode cL_tells 172 = .ok (.iload 7, 2) := by decide +kernel
theorem dL_tells_174 : decode cL_tells 174 = .ok (.iadd, 1) := by decide +kernel
theorem dL_tells_175 : decode cL_tells 175 = .ok (.iaload, 1) := by decide +kernel
theorem dL_tells_176 : decode cL_tells 176 = .ok (.if_icmp .eq 5, 3) := by decide +kernel
theorem dL_tells_179 : decode cL_tells 179 = .ok (.iconst 0, 1) := by decide +kernel
theorem dL_tells_180 : decode cL_tells 180 = .ok (.ireturn, 1) := by decide +kernel
theorem dL_tells_181 : decode cL_tells 181 = .ok (.iinc 7 1, 3) := by decide +kernel
theorem dL_tells_184 : decode cL_tells 184 = .ok (.goto (-178), 3) := by decide +kernel
theorem dL_tells_187 : decode cL_tells 187 = .ok (.iconst 0, 1) := by decide +kernel
theorem dL_tells_188 : decode cL_tells 188 = .ok (.istore 7, 2) := by decide +kernel
theorem dL_tells_190 : decode cL_tells 190 = .ok (.iload 7, 2) := by decide +kernel
theorem dL_tells_192 : decode cL_tells 192 = .ok (.aload 5, 2) := by decide +kernel
theorem dL_tells_194 : decode cL_tells 194 = .ok (.iconst 5, 1) := by decide +kernel
theorem dL_tells_195 : decode cL_tells 195 = .ok (.iaload, 1) := by decide +kernel
theorem dL_tells_196 : decode cL_tells 196 = .ok (.if_icmp .ge 190, 3) := by decide +kernel
theorem dL_tells_199 : decode cL_tells 199 = .ok (.iconst 0, 1) := by decide +kernel
theorem dL_tells_200 : decode cL_tells 200 = .ok (.istore 8, 2) := by decide +kernel
theorem dL_tells_202 : decode cL_tells 202 = .ok (.iconst 0, 1) := by decide +kernel
theorem dL_tells_203 : decode cL_tells 203 = .ok (.istore 9, 2) := by decide +kernel
theorem dL_tells_205 : decode cL_tells 205 = .ok (.iload 9, 2) := by decide +kernel
theorem dL_tells_207 : decode cL_tells 207 = .ok (.aload 5, 2) := by decide +kernel
theorem dL_tells_209 : decode cL_tells 209 = .ok (.iconst 4, 1) := by decide +kernel
theorem dL_tells_210 : decode cL_tells 210 = .ok (.iaload, 1) := by decide +kernel
theorem dL_tells_211 : decode cL_tells 211 = .ok (.if_icmp .ge 63, 3) := by decide +kernel
theorem dL_tells_214 : decode cL_tells 214 = .ok (.aload_n 1, 1) := by decide +kernel
theorem dL_tells_215 : decode cL_tells 215 = .ok (.aload 4, 2) := by decide +kernel
theorem dL_tells_217 : decode cL_tells 217 = .ok (.aload 5, 2) := by decide +kernel
theorem dL_tells_219 : decode cL_tells 219 = .ok (.iload 9, 2) := by decide +kernel
theorem dL_tells_221 : decode cL_tells 221 = .ok (.iload 7, 2) := by decide +kernel
theorem dL_tells_223 : decode cL_tells 223 = .ok (.invokestatic 44, 3) := by decide +kernel
theorem dL_tells_226 : decode cL_tells 226 = .ok (.istore 10, 2) := by decide +kernel
theorem dL_tells_228 : decode cL_tells 228 = .ok (.iload 8, 2) := by decide +kernel
theorem dL_tells_230 : decode cL_tells 230 = .ok (.iload 10, 2) := by decide +kernel
theorem dL_tells_232 : decode cL_tells 232 = .ok (.aload 4, 2) := by decide +kernel
theorem dL_tells_234 : decode cL_tells 234 = .ok (.iconst 5, 1) := by decide +kernel
theorem dL_tells_235 : decode cL_tells 235 = .ok (.iload 7, 2) := by decide +kernel
theorem dL_tells_237 : decode cL_tells 237 = .ok (.iadd, 1) := by decide +kernel
theorem dL_tells_238 : decode cL_tells 238 = .ok (.iaload, 1) := by decide +kernel
theorem dL_tells_239 : decode cL_tells 239 = .ok (.if_icmp .lt 10, 3) := by decide +kernel
theorem dL_tells_242 : decode cL_tells 242 = .ok (.iconst 1, 1) := by decide +kernel
theorem dL_tells_243 : decode cL_tells 243 = .ok (.iload 9, 2) := by decide +kernel
theorem dL_tells_245 : decode cL_tells 245 = .ok (.ishl, 1) := by decide +kernel
theorem dL_tells_246 : decode cL_tells 246 = .ok (.goto 4, 3) := by decide +kernel
theorem dL_tells_249 : decode cL_tells 249 = .ok (.iconst 0, 1) := by decide +kernel
theorem dL_tells_250 : decode cL_tells 250 = .ok (.ior, 1) := by decide +kernel
theorem dL_tells_251 : decode cL_tells 251 = .ok (.istore 8, 2) := by decide +kernel
theorem dL_tells_253 : decode cL_tells 253 = .ok (.aload_n 0, 1) := by decide +kernel
theorem dL_tells_254 : decode cL_tells 254 = .ok (.iload 9, 2) := by decide +kernel
theorem dL_tells_256 : decode cL_tells 256 = .ok (.iload 7, 2) := by decide +kernel
theorem dL_tells_258 : decode cL_tells 258 = .ok (.invokevirtual 100, 3) := by decide +kernel
theorem dL_tells_261 : decode cL_tells 261 = .ok (.iload 10, 2) := by decide +kernel
theorem dL_tells_263 : decode cL_tells 263 = .ok (.if_icmp .eq 5, 3) := by decide +kernel
theorem dL_tells_266 : decode cL_tells 266 = .ok (.iconst 0, 1) := by decide +kernel
theorem dL_tells_267 : decode cL_tells 267 = .ok (.ireturn, 1) := by decide +kernel
theorem dL_tells_268 : decode cL_tells 268 = .ok (.iinc 9 1, 3) := by decide +kernel
theorem dL_tells_271 : decode cL_tells 271 = .ok (.goto (-66), 3) := by decide +kernel
theorem dL_tells_274 : decode cL_tells 274 = .ok (.iload 6, 2) := by decide +kernel
theorem dL_tells_276 : decode cL_tells 276 = .ok (.aload 4, 2) := by decide +kernel
theorem dL_tells_278 : decode cL_tells 278 = .ok (.bipush 10, 2) := by decide +kernel
theorem dL_tells_280 : decode cL_tells 280 = .ok (.iload 7, 2) := by decide +kernel
theorem dL_tells_282 : decode cL_tells 282 = .ok (.iadd, 1) := by decide +kernel
theorem dL_tells_283 : decode cL_tells 283 = .ok (.iaload, 1) := by decide +kernel
theorem dL_tells_284 : decode cL_tells 284 = .ok (.ifCond .le 10, 3) := by decide +kernel
theorem dL_tells_287 : decode cL_tells 287 = .ok (.iconst 1, 1) := by decide +kernel
theorem dL_tells_288 : decode cL_tells 288 = .ok (.iload 7, 2) := by decide +kernel
theorem dL_tells_290 : decode cL_tells 290 = .ok (.ishl, 1) := by decide +kernel
theorem dL_tells_291 : decode cL_tells 291 = .ok (.goto 4, 3) := by decide +kernel
theorem dL_tells_294 : decode cL_tells 294 = .ok (.iconst 0, 1) := by decide +kernel
theorem dL_tells_295 : decode cL_tells 295 = .ok (.ior, 1) := by decide +kernel
theorem dL_tells_296 : decode cL_tells 296 = .ok (.istore 6, 2) := by decide +kernel
theorem dL_tells_298 : decode cL_tells 298 = .ok (.aload_n 0, 1) := by decide +kernel
theorem dL_tells_299 : decode cL_tells 299 = .ok (.iload 7, 2) := by decide +kernel
theorem dL_tells_301 : decode cL_tells 301 = .ok (.iconst 0, 1) := by decide +kernel
theorem dL_tells_302 : decode cL_tells 302 = .ok (.invokevirtual 103, 3) := by decide +kernel
theorem dL_tells_305 : decode cL_tells 305 = .ok (.aload 4, 2) := by decide +kernel
theorem dL_tells_307 : decode cL_tells 307 = .ok (.iload 7, 2) := by decide +kernel
theorem dL_tells_309 : decode cL_tells 309 = .ok (.iaload, 1) := by decide +kernel
theorem dL_tells_310 : decode cL_tells 310 = .ok (.if_icmp .ne 68, 3) := by decide +kernel
theorem dL_tells_313 : decode cL_tells 313 = .ok (.aload_n 0, 1) := by decide +kernel
theorem dL_tells_314 : decode cL_tells 314 = .ok (.iload 7, 2) := by decide +kernel
theorem dL_tells_316 : decode cL_tells 316 = .ok (.iconst 1, 1) := by decide +kernel
theorem dL_tells_317 : decode cL_tells 317 = .ok (.invokevirtual 103, 3) := by decide +kernel
theorem dL_tells_320 : decode cL_tells 320 = .ok (.aload 4, 2) := by decide +kernel
theorem dL_tells_322 : decode cL_tells 322 = .ok (.iconst 5, 1) := by decide +kernel
theorem dL_tells_323 : decode cL_tells 323 = .ok (.iload 7, 2) := by decide +kernel
theorem dL_tells_325 : decode cL_tells 325 = .ok (.iadd, 1) := by decide +kernel
theorem dL_tells_326 : decode cL_tells 326 = .ok (.iaload, 1) := by decide +kernel
theorem dL_tells_327 : decode cL_tells 327 = .ok (.if_icmp .ne 51, 3) := by decide +kernel
theorem dL_tells_330 : decode cL_tells 330 = .ok (.aload_n 0, 1) := by decide +kernel
theorem dL_tells_331 : decode cL_tells 331 = .ok (.iload 7, 2) := by decide +kernel
theorem dL_tells_333 : decode cL_tells 333 = .ok (.iconst 2, 1) := by decide +kernel
theorem dL_tells_334 : decode cL_tells 334 = .ok (.invokevirtual 103, 3) := by decide +kernel
theorem dL_tells_337 : decode cL_tells 337 = .ok (.aload 4, 2) := by decide +kernel
theorem dL_tells_339 : decode cL_tells 339 = .ok (.bipush 10, 2) := by decide +kernel
theorem dL_tells_341 : decode cL_tells 341 = .ok (.iload 7, 2) := by decide +kernel
theorem dL_tells_343 : decode cL_tells 343 = .ok (.iadd, 1) := by decide +kernel
theorem dL_tells_344 : decode cL_tells 344 = .ok (.iaload, 1) := by decide +kernel
theorem dL_tells_345 : decode cL_tells 345 = .ok (.if_icmp .ne 33, 3) := by decide +kernel
theorem dL_tells_348 : decode cL_tells 348 = .ok (.aload_n 0, 1) := by decide +kernel
theorem dL_tells_349 : decode cL_tells 349 = .ok (.iload 7, 2) := by decide +kernel
theorem dL_tells_351 : decode cL_tells 351 = .ok (.iconst 3, 1) := by decide +kernel
theorem dL_tells_352 : decode cL_tells 352 = .ok (.invokevirtual 103, 3) := by decide +kernel
theorem dL_tells_355 : decode cL_tells 355 = .ok (.aload 4, 2) := by decide +kernel
theorem dL_tells_357 : decode cL_tells 357 = .ok (.bipush 15, 2) := by decide +kernel
theorem dL_tells_359 : decode cL_tells 359 = .ok (.iload 7, 2) := by decide +kernel
theorem dL_tells_361 : decode cL_tells 361 = .ok (.iadd, 1) := by decide +kernel
theorem dL_tells_362 : decode cL_tells 362 = .ok (.iaload, 1) := by decide +kernel
theorem dL_tells_363 : decode cL_tells 363 = .ok (.if_icmp .ne 15, 3) := by decide +kernel
theorem dL_tells_366 : decode cL_tells 366 = .ok (.aload_n 0, 1) := by decide +kernel
theorem dL_tells_367 : decode cL_tells 367 = .ok (.iload 7, 2) := by decide +kernel
theorem dL_tells_369 : decode cL_tells 369 = .ok (.iconst 4, 1) := by decide +kernel
theorem dL_tells_370 : decode cL_tells 370 = .ok (.invokevirtual 103, 3) := by decide +kernel
theorem dL_tells_373 : decode cL_tells 373 = .ok (.iload 8, 2) := by decide +kernel
theorem dL_tells_375 : decode cL_tells 375 = .ok (.if_icmp .eq 5, 3) := by decide +kernel
theorem dL_tells_378 : decode cL_tells 378 = .ok (.iconst 0, 1) := by decide +kernel
theorem dL_tells_379 : decode cL_tells 379 = .ok (.ireturn, 1) := by decide +kernel
theorem dL_tells_380 : decode cL_tells 380 = .ok (.iinc 7 1, 3) := by decide +kernel
theorem dL_tells_383 : decode cL_tells 383 = .ok (.goto (-193), 3) := by decide +kernel
theorem dL_tells_386 : decode cL_tells 386 = .ok (.aload_n 0, 1) := by decide +kernel
theorem dL_tells_387 : decode cL_tells 387 = .ok (.iconst 0, 1) := by decide +kernel
theorem dL_tells_388 : decode cL_tells 388 = .ok (.invokevirtual 106, 3) := by decide +kernel
theorem dL_tells_391 : decode cL_tells 391 = .ok (.aload 5, 2) := by decide +kernel
theorem dL_tells_393 : decode cL_tells 393 = .ok (.iconst 0, 1) := by decide +kernel
theorem dL_tells_394 : decode cL_tells 394 = .ok (.iaload, 1) := by decide +kernel
theorem dL_tells_395 : decode cL_tells 395 = .ok (.if_icmp .ne 117, 3) := by decide +kernel
theorem dL_tells_398 : decode cL_tells 398 = .ok (.aload_n 0, 1) := by decide +kernel
theorem dL_tells_399 : decode cL_tells 399 = .ok (.iconst 1, 1) := by decide +kernel
theorem dL_tells_400 : decode cL_tells 400 = .ok (.invokevirtual 106, 3) := by decide +kernel
theorem dL_tells_403 : decode cL_tells 403 = .ok (.aload 5, 2) := by decide +kernel
theorem dL_tells_405 : decode cL_tells 405 = .ok (.iconst 1, 1) := by decide +kernel
theorem dL_tells_406 : decode cL_tells 406 = .ok (.iaload, 1) := by decide +kernel
theorem dL_tells_407 : decode cL_tells 407 = .ok (.if_icmp .ne 105, 3) := by decide +kernel
theorem dL_tells_410 : decode cL_tells 410 = .ok (.aload_n 0, 1) := by decide +kernel
theorem dL_tells_411 : decode cL_tells 411 = .ok (.iconst 2, 1) := by decide +kernel
theorem dL_tells_412 : decode cL_tells 412 = .ok (.invokevirtual 106, 3) := by decide +kernel
theorem dL_tells_415 : decode cL_tells 415 = .ok (.aload 5, 2) := by decide +kernel
theorem dL_tells_417 : decode cL_tells 417 = .ok (.iconst 2, 1) := by decide +kernel
theorem dL_tells_418 : decode cL_tells 418 = .ok (.iaload, 1) := by decide +kernel
theorem dL_tells_419 : decode cL_tells 419 = .ok (.if_icmp .ne 93, 3) := by decide +kernel
theorem dL_tells_422 : decode cL_tells 422 = .ok (.aload_n 0, 1) := by decide +kernel
theorem dL_tells_423 : decode cL_tells 423 = .ok (.iconst 3, 1) := by decide +kernel
theorem dL_tells_424 : decode cL_tells 424 = .ok (.invokevirtual 106, 3) := by decide +kernel
theorem dL_tells_427 : decode cL_tells 427 = .ok (.aload 5, 2) := by decide +kernel
theorem dL_tells_429 : decode cL_tells 429 = .ok (.iconst 4, 1) := by decide +kernel
theorem dL_tells_430 : decode cL_tells 430 = .ok (.iaload, 1) := by decide +kernel
theorem dL_tells_431 : decode cL_tells 431 = .ok (.if_icmp .ne 81, 3) := by decide +kernel
theorem dL_tells_434 : decode cL_tells 434 = .ok (.aload_n 0, 1) := by decide +kernel
theorem dL_tells_435 : decode cL_tells 435 = .ok (.iconst 4, 1) := by decide +kernel
theorem dL_tells_436 : decode cL_tells 436 = .ok (.invokevirtual 106, 3) := by decide +kernel
theorem dL_tells_439 : decode cL_tells 439 = .ok (.aload 5, 2) := by decide +kernel
theorem dL_tells_441 : decode cL_tells 441 = .ok (.iconst 5, 1) := by decide +kernel
theorem dL_tells_442 : decode cL_tells 442 = .ok (.iaload, 1) := by decide +kernel
theorem dL_tells_443 : decode cL_tells 443 = .ok (.if_icmp .ne 69, 3) := by decide +kernel
theorem dL_tells_446 : decode cL_tells 446 = .ok (.aload_n 0, 1) := by decide +kernel
theorem dL_tells_447 : decode cL_tells 447 = .ok (.iconst 5, 1) := by decide +kernel
theorem dL_tells_448 : decode cL_tells 448 = .ok (.invokevirtual 106, 3) := by decide +kernel
theorem dL_tells_451 : decode cL_tells 451 = .ok (.iload 6, 2) := by decide +kernel
theorem dL_tells_453 : decode cL_tells 453 = .ok (.if_icmp .ne 59, 3) := by decide +kernel
theorem dL_tells_456 : decode cL_tells 456 = .ok (.aload_n 0, 1) := by decide +kernel
theorem dL_tells_457 : decode cL_tells 457 = .ok (.bipush 6, 2) := by decide +kernel
theorem dL_tells_459 : decode cL_tells 459 = .ok (.invokevirtual 106, 3) := by decide +kernel
theorem dL_tells_462 : decode cL_tells 462 = .ok (.aload 4, 2) := by decide +kernel
theorem dL_tells_464 : decode cL_tells 464 = .ok (.aload 5, 2) := by decide +kernel
theorem dL_tells_466 : decode cL_tells 466 = .ok (.invokestatic 36, 3) := by decide +kernel
theorem dL_tells_469 : decode cL_tells 469 = .ok (.if_icmp .ne 43, 3) := by decide +kernel
theorem dL_tells_472 : decode cL_tells 472 = .ok (.aload_n 0, 1) := by decide +kernel
theorem dL_tells_473 : decode cL_tells 473 = .ok (.bipush 7, 2) := by decide +kernel
theorem dL_tells_475 : decode cL_tells 475 = .ok (.invokevirtual 106, 3) := by decide +kernel
theorem dL_tells_478 : decode cL_tells 478 = .ok (.aload 5, 2) := by decide +kernel
theorem dL_tells_480 : decode cL_tells 480 = .ok (.iconst 3, 1) := by decide +kernel
theorem dL_tells_481 : decode cL_tells 481 = .ok (.iaload, 1) := by decide +kernel
theorem dL_tells_482 : decode cL_tells 482 = .ok (.if_icmp .ne 30, 3) := by decide +kernel
theorem dL_tells_485 : decode cL_tells 485 = .ok (.aload_n 0, 1) := by decide +kernel
theorem dL_tells_486 : decode cL_tells 486 = .ok (.bipush 8, 2) := by decide +kernel
theorem dL_tells_488 : decode cL_tells 488 = .ok (.invokevirtual 106, 3) := by decide +kernel
theorem dL_tells_491 : decode cL_tells 491 = .ok (.aload 5, 2) := by decide +kernel
theorem dL_tells_493 : decode cL_tells 493 = .ok (.iconst 0, 1) := by decide +kernel
theorem dL_tells_494 : decode cL_tells 494 = .ok (.iaload, 1) := by decide +kernel
theorem dL_tells_495 : decode cL_tells 495 = .ok (.aload 5, 2) := by decide +kernel
theorem dL_tells_497 : decode cL_tells 497 = .ok (.iconst 2, 1) := by decide +kernel
theorem dL_tells_498 : decode cL_tells 498 = .ok (.iaload, 1) := by decide +kernel
theorem dL_tells_499 : decode cL_tells 499 = .ok (.aload 5, 2) := by decide +kernel
theorem dL_tells_501 : decode cL_tells 501 = .ok (.iconst 0, 1) := by decide +kernel
theorem dL_tells_502 : decode cL_tells 502 = .ok (.iaload, 1) := by decide +kernel
theorem dL_tells_503 : decode cL_tells 503 = .ok (.irem, 1) := by decide +kernel
theorem dL_tells_504 : decode cL_tells 504 = .ok (.isub, 1) := by decide +kernel
theorem dL_tells_505 : decode cL_tells 505 = .ok (.if_icmp .ne 7, 3) := by decide +kernel
theorem dL_tells_508 : decode cL_tells 508 = .ok (.iconst 1, 1) := by decide +kernel
theorem dL_tells_509 : decode cL_tells 509 = .ok (.goto 4, 3) := by decide +kernel
theorem dL_tells_512 : decode cL_tells 512 = .ok (.iconst 0, 1) := by decide +kernel
theorem dL_tells_513 : decode cL_tells 513 = .ok (.istore 7, 2) := by decide +kernel
theorem dL_tells_515 : decode cL_tells 515 = .ok (.iload 7, 2) := by decide +kernel
theorem dL_tells_517 : decode cL_tells 517 = .ok (.ifCond .eq 21, 3) := by decide +kernel
theorem dL_tells_520 : decode cL_tells 520 = .ok (.aload_n 0, 1) := by decide +kernel
theorem dL_tells_521 : decode cL_tells 521 = .ok (.aload_n 1, 1) := by decide +kernel
theorem dL_tells_522 : decode cL_tells 522 = .ok (.aload_n 2, 1) := by decide +kernel
theorem dL_tells_523 : decode cL_tells 523 = .ok (.aload_n 3, 1) := by decide +kernel
theorem dL_tells_524 : decode cL_tells 524 = .ok (.aload 4, 2) := by decide +kernel
theorem dL_tells_526 : decode cL_tells 526 = .ok (.aload 5, 2) := by decide +kernel
theorem dL_tells_528 : decode cL_tells 528 = .ok (.invokestatic 109, 3) := by decide +kernel
theorem dL_tells_531 : decode cL_tells 531 = .ok (.ifCond .eq 7, 3) := by decide +kernel
theorem dL_tells_534 : decode cL_tells 534 = .ok (.iconst 1, 1) := by decide +kernel
theorem dL_tells_535 : decode cL_tells 535 = .ok (.goto 4, 3) := by decide +kernel
theorem dL_tells_538 : decode cL_tells 538 = .ok (.iconst 0, 1) := by decide +kernel
theorem dL_tells_539 : decode cL_tells 539 = .ok (.ireturn, 1) := by decide +kernel
