theorem dX11_init_0 : decode cX11_init 0 = .ok (.aload_n 0, 1) := by decide +kernel
theorem dX11_init_1 : decode cX11_init 1 = .ok (.invokespecial 1, 3) := by decide +kernel
theorem dX11_init_4 : decode cX11_init 4 = .ok (.aload_n 0, 1) := by decide +kernel
theorem dX11_init_5 : decode cX11_init 5 = .ok (.sipush 138, 3) := by decide +kernel
theorem dX11_init_8 : decode cX11_init 8 = .ok (.newarray .int, 2) := by decide +kernel
theorem dX11_init_10 : decode cX11_init 10 = .ok (.putfield 7, 3) := by decide +kernel
theorem dX11_init_13 : decode cX11_init 13 = .ok (.aload_n 0, 1) := by decide +kernel
theorem dX11_init_14 : decode cX11_init 14 = .ok (.sipush 828, 3) := by decide +kernel
theorem dX11_init_17 : decode cX11_init 17 = .ok (.newarray .int, 2) := by decide +kernel
theorem dX11_init_19 : decode cX11_init 19 = .ok (.putfield 13, 3) := by decide +kernel
theorem dX11_init_22 : decode cX11_init 22 = .ok (.aload_n 0, 1) := by decide +kernel
theorem dX11_init_23 : decode cX11_init 23 = .ok (.sipush 276, 3) := by decide +kernel
theorem dX11_init_26 : decode cX11_init 26 = .ok (.newarray .int, 2) := by decide +kernel
theorem dX11_init_28 : decode cX11_init 28 = .ok (.putfield 16, 3) := by decide +kernel
theorem dX11_init_31 : decode cX11_init 31 = .ok (.aload_n 0, 1) := by decide +kernel
theorem dX11_init_32 : decode cX11_init 32 = .ok (.iconst 2, 1) := by decide +kernel
theorem dX11_init_33 : decode cX11_init 33 = .ok (.newarray .boolean, 2) := by decide +kernel
theorem dX11_init_35 : decode cX11_init 35 = .ok (.putfield 19, 3) := by decide +kernel
theorem dX11_init_38 : decode cX11_init 38 = .ok (.aload_n 0, 1) := by decide +kernel
theorem dX11_init_39 : decode cX11_init 39 = .ok (.bipush 60, 2) := by decide +kernel
theorem dX11_init_41 : decode cX11_init 41 = .ok (.newarray .char, 2) := by decide +kernel
theorem dX11_init_43 : decode cX11_init 43 = .ok (.putfield 23, 3) := by decide +kernel
theorem dX11_init_46 : decode cX11_init 46 = .ok (.aload_n 0, 1) := by decide +kernel
theorem dX11_init_47 : decode cX11_init 47 = .ok (.bipush 10, 2) := by decide +kernel
theorem dX11_init_49 : decode cX11_init 49 = .ok (.newarray .int, 2) := by decide +kernel
theorem dX11_init_51 : decode cX11_init 51 = .ok (.putfield 27, 3) := by decide +kernel
theorem dX11_init_54 : decode cX11_init 54 = .ok (.aload_n 0, 1) := by decide +kernel
theorem dX11_init_55 : decode cX11_init 55 = .ok (.bipush 10, 2) := by decide +kernel
theorem dX11_init_57 : decode cX11_init 57 = .ok (.newarray .int, 2) := by decide +kernel
theorem dX11_init_59 : decode cX11_init 59 = .ok (.putfield 30, 3) := by decide +kernel
theorem dX11_init_62 : decode cX11_init 62 = .ok (.aload_n 0, 1) := by decide +kernel
theorem dX11_init_63 : decode cX11_init 63 = .ok (.bipush 64, 2) := by decide +kernel
theorem dX11_init_65 : decode cX11_init 65 = .ok (.newarray .int, 2) := by decide +kernel
theorem dX11_init_67 : decode cX11_init 67 = .ok (.putfield 33, 3) := by decide +kernel
theorem dX11_init_70 : decode cX11_init 70 = .ok (.aload_n 0, 1) := by decide +kernel
theorem dX11_init_71 : decode cX11_init 71 = .ok (.getfield 7, 3) := by decide +kernel
theorem dX11_init_74 : decode cX11_init 74 = .ok (.iconst 0, 1) := by decide +kernel
theorem dX11_init_75 : decode cX11_init 75 = .ok (.bipush 60, 2) := by decide +kernel
theorem dX11_init_77 : decode cX11_init 77 = .ok (.iastore, 1) := by decide +kernel
theorem dX11_init_78 : decode cX11_init 78 = .ok (.aload_n 0, 1) := by decide +kernel
theorem dX11_init_79 : decode cX11_init 79 = .ok (.getfield 7, 3) := by decide +kernel
theorem dX11_init_82 : decode cX11_init 82 = .ok (.iconst 1, 1) := by decide +kernel
theorem dX11_init_83 : decode cX11_init 83 = .ok (.bipush 10, 2) := by decide +kernel
theorem dX11_init_85 : decode cX11_init 85 = .ok (.iastore, 1) := by decide +kernel
theorem dX11_init_86 : decode cX11_init 86 = .ok (.return_, 1) := by decide +kernel
theorem dX11_in_0 : decode cX11_in 0 = .ok (.iload_n 0, 1) := by decide +kernel
theorem dX11_in_1 : decode cX11_in 1 = .ok (.iload_n 1, 1) := by decide +kernel
theorem dX11_in_2 : decode cX11_in 2 = .ok (.if_icmp .lt 12, 3) := by decide +kernel
theorem dX11_in_5 : decode cX11_in 5 = .ok (.iload_n 0, 1) := by decide +kernel
theorem dX11_in_6 : decode cX11_in 6 = .ok (.iload_n 2, 1) := by decide +kernel
theorem dX11_in_7 : decode cX11_in 7 = .ok (.if_icmp .gt 7, 3) := by decide +kernel
theorem dX11_in_10 : decode cX11_in 10 = .ok (.iconst 1, 1) := by decide +kernel
theorem dX11_in_11 : decode cX11_in 11 = .ok (.goto 4, 3) := by decide +kernel
theorem dX11_in_14 : decode cX11_in 14 = .ok (.iconst 0, 1) := by decide +kernel
theorem dX11_in_15 : decode cX11_in 15 = .ok (.ireturn, 1) := by decide +kernel
theorem dX11_isRoom_0 : decode cX11_isRoom 0 = .ok (.iload_n 0, 1) := by decide +kernel
theorem dX11_isRoom_1 : decode cX11_isRoom 1 = .ok (.iconst 0, 1) := by decide +kernel
theorem dX11_isRoom_2 : decode cX11_isRoom 2 = .ok (.bipush 9, 2) := by decide +kernel
theorem dX11_isRoom_4 : decode cX11_isRoom 4 = .ok (.invokestatic 36, 3) := by decide +kernel
theorem dX11_isRoom_7 : decode cX11_isRoom 7 = .ok (.ireturn, 1) := by decide +kernel
theorem dX11_isGhost_0 : decode cX11_isGhost 0 = .ok (.iload_n 0, 1) := by decide +kernel
theorem dX11_isGhost_1 : decode cX11_isGhost 1 = .ok (.iconst 0, 1) := by decide +kernel
theorem dX11_isGhost_2 : decode cX11_isGhost 2 = .ok (.iconst 3, 1) := by decide +kernel
theorem dX11_isGhost_3 : decode cX11_isGhost 3 = .ok (.invokestatic 36, 3) := by decide +kernel
theorem dX11_isGhost_6 : decode cX11_isGhost 6 = .ok (.ireturn, 1) := by decide +kernel
theorem dX11_isBoard_0 : decode cX11_isBoard 0 = .ok (.iload_n 1, 1) := by decide +kernel
theorem dX11_isBoard_1 : decode cX11_isBoard 1 = .ok (.ifCond .lt 17, 3) := by decide +kernel
theorem dX11_isBoard_4 : decode cX11_isBoard 4 = .ok (.iload_n 1, 1) := by decide +kernel
theorem dX11_isBoard_5 : decode cX11_isBoard 5 = .ok (.aload_n 0, 1) := by decide +kernel
theorem dX11_isBoard_6 : decode cX11_isBoard 6 = .ok (.getfield 7, 3) := by decide +kernel
theorem dX11_isBoard_9 : decode cX11_isBoard 9 = .ok (.iconst 4, 1) := by decide +kernel
theorem dX11_isBoard_10 : decode cX11_isBoard 10 = .ok (.iaload, 1) := by decide +kernel
theorem dX11_isBoard_11 : decode cX11_isBoard 11 = .ok (.if_icmp .ge 7, 3) := by decide +kernel
theorem dX11_isBoard_14 : decode cX11_isBoard 14 = .ok (.iconst 1, 1) := by decide +kernel
theorem dX11_isBoard_15 : decode cX11_isBoard 15 = .ok (.goto 4, 3) := by decide +kernel
theorem dX11_isBoard_18 : decode cX11_isBoard 18 = .ok (.iconst 0, 1) := by decide +kernel
theorem dX11_isBoard_19 : decode cX11_isBoard 19 = .ok (.ireturn, 1) := by decide +kernel
theorem dX11_isSleeper_0 : decode cX11_isSleeper 0 = .ok (.iload_n 1, 1) := by decide +kernel
theorem dX11_isSleeper_1 : decode cX11_isSleeper 1 = .ok (.ifCond .lt 17, 3) := by decide +kernel
theorem dX11_isSleeper_4 : decode cX11_isSleeper 4 = .ok (.iload_n 1, 1) := by decide +kernel
theorem dX11_isSleeper_5 : decode cX11_isSleeper 5 = .ok (.aload_n 0, 1) := by decide +kernel
theorem dX11_isSleeper_6 : decode cX11_isSleeper 6 = .ok (.getfield 7, 3) := by decide +kernel
theorem dX11_isSleeper_9 : decode cX11_isSleeper 9 = .ok (.iconst 5, 1) := by decide +kernel
theorem dX11_isSleeper_10 : decode cX11_isSleeper 10 = .ok (.iaload, 1) := by decide +kernel
theorem dX11_isSleeper_11 : decode cX11_isSleeper 11 = .ok (.if_icmp .ge 7, 3) := by decide +kernel
theorem dX11_isSleeper_14 : decode cX11_isSleeper 14 = .ok (.iconst 1, 1) := by decide +kernel
theorem dX11_isSleeper_15 : decode cX11_isSleeper 15 = .ok (.goto 4, 3) := by decide +kernel
theorem dX11_isSleeper_18 : decode cX11_isSleeper 18 = .ok (.iconst 0, 1) := by decide +kernel
theorem dX11_isSleeper_19 : decode cX11_isSleeper 19 = .ok (.ireturn, 1) := by decide +kernel
theorem dX11_ofBoard_0 : decode cX11_ofBoard 0 = .ok (.aload_n 0, 1) := by decide +kernel
theorem dX11_ofBoard_1 : decode cX11_ofBoard 1 = .ok (.getfield 7, 3) := by decide +kernel
theorem dX11_ofBoard_4 : decode cX11_ofBoard 4 = .ok (.bipush 6, 2) := by decide +kernel
theorem dX11_ofBoard_6 : decode cX11_ofBoard 6 = .ok (.iconst 5, 1) := by decide +kernel
theorem dX11_ofBoard_7 : decode cX11_ofBoard 7 = .ok (.iload_n 1, 1) := by decide +kernel
theorem dX11_ofBoard_8 : decode cX11_ofBoard 8 = .ok (.imul, 1) := by decide +kernel
theorem dX11_ofBoard_9 : decode cX11_ofBoard 9 = .ok (.iadd, 1) := by decide +kernel
theorem dX11_ofBoard_10 : decode cX11_ofBoard 10 = .ok (.iload_n 2, 1) := by decide +kernel
theorem dX11_ofBoard_11 : decode cX11_ofBoard 11 = .ok (.iadd, 1) := by decide +kernel
theorem dX11_ofBoard_12 : decode cX11_ofBoard 12 = .ok (.iaload, 1) := by decide +kernel
theorem dX11_ofBoard_13 : decode cX11_ofBoard 13 = .ok (.ireturn, 1) := by decide +kernel
theorem dX11_ofGhost_0 : decode cX11_ofGhost 0 = .ok (.aload_n 0, 1) := by decide +kernel
theorem dX11_ofGhost_1 : decode cX11_ofGhost 1 = .ok (.getfield 7, 3) := by decide +kernel
theorem dX11_ofGhost_4 : decode cX11_ofGhost 4 = .ok (.bipush 106, 2) := by decide +kernel
theorem dX11_ofGhost_6 : decode cX11_ofGhost 6 = .ok (.iconst 3, 1) := by decide +kernel
theorem dX11_ofGhost_7 : decode cX11_ofGhost 7 = .ok (.iload_n 1, 1) := by decide +kernel
theorem dX11_ofGhost_8 : decode cX11_ofGhost 8 = .ok (.imul, 1) := by decide +kernel
theorem dX11_ofGhost_9 : decode cX11_ofGhost 9 = .ok (.iadd, 1) := by decide +kernel
theorem dX11_ofGhost_10 : decode cX11_ofGhost 10 = .ok (.iload_n 2, 1) := by decide +kernel
theorem dX11_ofGhost_11 : decode cX11_ofGhost 11 = .ok (.iadd, 1) := by decide +kernel
theorem dX11_ofGhost_12 : decode cX11_ofGhost 12 = .ok (.iaload, 1) := by decide +kernel
theorem dX11_ofGhost_13 : decode cX11_ofGhost 13 = .ok (.ireturn, 1) := by decide +kernel
theorem dX11_ofSleeper_0 : decode cX11_ofSleeper 0 = .ok (.aload_n 0, 1) := by decide +kernel
theorem dX11_ofSleeper_1 : decode cX11_ofSleeper 1 = .ok (.getfield 7, 3) := by decide +kernel
theorem dX11_ofSleeper_4 : decode cX11_ofSleeper 4 = .ok (.bipush 118, 2) := by decide +kernel
theorem dX11_ofSleeper_6 : decode cX11_ofSleeper 6 = .ok (.iconst 4, 1) := by decide +kernel
theorem dX11_ofSleeper_7 : decode cX11_ofSleeper 7 = .ok (.iload_n 1, 1) := by decide +kernel
theorem dX11_ofSleeper_8 : decode cX11_ofSleeper 8 = .ok (.imul, 1) := by decide +kernel
theorem dX11_ofSleeper_9 : decode cX11_ofSleeper 9 = .ok (.iadd, 1) := by decide +kernel
theorem dX11_ofSleeper_10 : decode cX11_ofSleeper 10 = .ok (.iload_n 2, 1) := by decide +kernel
theorem dX11_ofSleeper_11 : decode cX11_ofSleeper 11 = .ok (.iadd, 1) := by decide +kernel
theorem dX11_ofSleeper_12 : decode cX11_ofSleeper 12 = .ok (.iaload, 1) := by decide +kernel
theorem dX11_ofSleeper_13 : decode cX11_ofSleeper 13 = .ok (.ireturn, 1) := by decide +kernel
theorem dX11_roomOf_0 : decode cX11_roomOf 0 = .ok (.aload_n 0, 1) := by decide +kernel
theorem dX11_roomOf_1 : decode cX11_roomOf 1 = .ok (.iload_n 1, 1) := by decide +kernel
theorem dX11_roomOf_2 : decode cX11_roomOf 2 = .ok (.iconst 0, 1) := by decide +kernel
theorem dX11_roomOf_3 : decode cX11_roomOf 3 = .ok (.invokevirtual 40, 3) := by decide +kernel
theorem dX11_roomOf_6 : decode cX11_roomOf 6 = .ok (.ireturn, 1) := by decide +kernel
theorem dX11_hasCrossed_0 : decode cX11_hasCrossed 0 = .ok (.aload_n 0, 1) := by decide +kernel
theorem dX11_hasCrossed_1 : decode cX11_hasCrossed 1 = .ok (.iload_n 1, 1) := by decide +kernel
theorem dX11_hasCrossed_2 : decode cX11_hasCrossed 2 = .ok (.iconst 1, 1) := by decide +kernel
theorem dX11_hasCrossed_3 : decode cX11_hasCrossed 3 = .ok (.invokevirtual 40, 3) := by decide +kernel
theorem dX11_hasCrossed_6 : decode cX11_hasCrossed 6 = .ok (.iload_n 2, 1) := by decide +kernel
theorem dX11_hasCrossed_7 : decode cX11_hasCrossed 7 = .ok (.ishr, 1) := by decide +kernel
theorem dX11_hasCrossed_8 : decode cX11_hasCrossed 8 = .ok (.iconst 1, 1) := by decide +kernel
theorem dX11_hasCrossed_9 : decode cX11_hasCrossed 9 = .ok (.iand, 1) := by decide +kernel
theorem dX11_hasCrossed_10 : decode cX11_hasCrossed 10 = .ok (.iconst 1, 1) := by decide +kernel
theorem dX11_hasCrossed_11 : decode cX11_hasCrossed 11 = .ok (.if_icmp .ne 7, 3) := by decide +kernel
theorem dX11_hasCrossed_14 : decode cX11_hasCrossed 14 = .ok (.iconst 1, 1) := by decide +kernel
theorem dX11_hasCrossed_15 : decode cX11_hasCrossed 15 = .ok (.goto 4, 3) := by decide +kernel
theorem dX11_hasCrossed_18 : decode cX11_hasCrossed 18 = .ok (.iconst 0, 1) := by decide +kernel
theorem dX11_hasCrossed_19 : decode cX11_hasCrossed 19 = .ok (.ireturn, 1) := by decide +kernel
theorem dX11_record_0 : decode cX11_record 0 = .ok (.aload_n 0, 1) := by decide +kernel
theorem dX11_record_1 : decode cX11_record 1 = .ok (.getfield 44, 3) := by decide +kernel
theorem dX11_record_4 : decode cX11_record 4 = .ok (.bipush 6, 2) := by decide +kernel
theorem dX11_record_6 : decode cX11_record 6 = .ok (.if_icmp .ne 44, 3) := by decide +kernel
theorem dX11_record_9 : decode cX11_record 9 = .ok (.iconst 0, 1) := by decide +kernel
theorem dX11_record_10 : decode cX11_record 10 = .ok (.istore_n 1, 1) := by decide +kernel
theorem dX11_record_11 : decode cX11_record 11 = .ok (.iload_n 1, 1) := by decide +kernel
theorem dX11_record_12 : decode cX11_record 12 = .ok (.sipush 690, 3) := by decide +kernel
theorem dX11_record_15 : decode cX11_record 15 = .ok (.if_icmp .ge 25, 3) := by decide +kernel
theorem dX11_record_18 : decode cX11_record 18 = .ok (.aload_n 0, 1) := by decide +kernel
theorem dX11_record_19 : decode cX11_record 19 = .ok (.getfield 13, 3) := by decide +kernel
theorem dX11_record_22 : decode cX11_record 22 = .ok (.iload_n 1, 1) := by decide +kernel
theorem dX11_record_23 : decode cX11_record 23 = .ok (.aload_n 0, 1) := by decide +kernel
theorem dX11_record_24 : decode cX11_record 24 = .ok (.getfield 13, 3) := by decide +kernel
theorem dX11_record_27 : decode cX11_record 27 = .ok (.iload_n 1, 1) := by decide +kernel
theorem dX11_record_28 : decode cX11_record 28 = .ok (.sipush 138, 3) := by decide +kernel
theorem dX11_record_31 : decode cX11_record 31 = .ok (.iadd, 1) := by decide +kernel
theorem dX11_record_32 : decode cX11_record 32 = .ok (.iaload, 1) := by decide +kernel
theorem dX11_record_33 : decode cX11_record 33 = .ok (.iastore, 1) := by decide +kernel
theorem dX11_record_34 : decode cX11_record 34 = .ok (.iinc 1 1, 3) := by decide +kernel
theorem dX11_record_37 : decode cX11_record 37 = .ok (.goto (-26), 3) := by decide +kernel
theorem dX11_record_40 : decode cX11_record 40 = .ok (.aload_n 0, 1) := by decide +kernel
theorem dX11_record_41 : decode cX11_record 41 = .ok (.dup, 1) := by decide +kernel
theorem dX11_record_42 : decode cX11_record 42 = .ok (.getfield 44, 3) := by decide +kernel
theorem dX11_record_45 : decode cX11_record 45 = .ok (.iconst 1, 1) := by decide +kernel
theorem dX11_record_46 : decode cX11_record 46 = .ok (.isub, 1) := by decide +kernel
theorem dX11_record_47 : decode cX11_record 47 = .ok (.putfield 44, 3) := by decide +kernel
theorem dX11_record_50 : decode cX11_record 50 = .ok (.iconst 0, 1) := by decide +kernel
theorem dX11_record_51 : decode cX11_record 51 = .ok (.istore_n 1, 1) := by decide +kernel
theorem dX11_record_52 : decode cX11_record 52 = .ok (.iload_n 1, 1) := by decide +kernel
theorem dX11_record_53 : decode cX11_record 53 = .ok (.sipush 138, 3) := by decide +kernel
theorem dX11_record_56 : decode cX11_record 56 = .ok (.if_icmp .ge 30, 3) := by decide +kernel
theorem dX11_record_59 : decode cX11_record 59 = .ok (.aload_n 0, 1) := by decide +kernel
theorem dX11_record_60 : decode cX11_record 60 = .ok (.getfield 13, 3) := by decide +kernel
theorem dX11_record_63 : decode cX11_record 63 = .ok (.aload_n 0, 1) := by decide +kernel
theorem dX11_record_64 : decode cX11_record 64 = .ok (.getfield 44, 3) := by decide +kernel
theorem dX11_record_67 : decode cX11_record 67 = .ok (.sipush 138, 3) := by decide +kernel
theorem dX11_record_70 : decode cX11_record 70 = .ok (.imul, 1) := by decide +kernel
theorem dX11_record_71 : decode cX11_record 71 = .ok (.iload_n 1, 1) := by decide +kernel
theorem dX11_record_72 : decode cX11_record 72 = .ok (.iadd, 1) := by decide +kernel
theorem dX11_record_73 : decode cX11_record 73 = .ok (.aload_n 0, 1) := by decide +kernel
theorem dX11_record_74 : decode cX11_record 74 = .ok (.getfield 7, 3) := by decide +kernel
theorem dX11_record_77 : decode cX11_record 77 = .ok (.iload_n 1, 1) := by decide +kernel
theorem dX11_record_78 : decode cX11_record 78 = .ok (.iaload, 1) := by decide +kernel
theorem dX11_record_79 : decode cX11_record 79 = .ok (.iastore, 1) := by decide +kernel
theorem dX11_record_80 : decode cX11_record 80 = .ok (.iinc 1 1, 3) := by decide +kernel
theorem dX11_record_83 : decode cX11_record 83 = .ok (.goto (-31), 3) := by decide +kernel
theorem dX11_record_86 : decode cX11_record 86 = .ok (.aload_n 0, 1) := by decide +kernel
theorem dX11_record_87 : decode cX11_record 87 = .ok (.dup, 1) := by decide +kernel
theorem dX11_record_88 : decode cX11_record 88 = .ok (.getfield 44, 3) := by decide +kernel
theorem dX11_record_91 : decode cX11_record 91 = .ok (.iconst 1, 1) := by decide +kernel
theorem dX11_record_92 : decode cX11_record 92 = .ok (.iadd, 1) := by decide +kernel
theorem dX11_record_93 : decode cX11_record 93 = .ok (.putfield 44, 3) := by decide +kernel
theorem dX11_record_96 : decode cX11_record 96 = .ok (.return_, 1) := by decide +kernel
theorem dX11_undo_0 : decode cX11_undo 0 = .ok (.aload_n 0, 1) := by decide +kernel
theorem dX11_undo_1 : decode cX11_undo 1 = .ok (.getfield 44, 3) := by decide +kernel
theorem dX11_undo_4 : decode cX11_undo 4 = .ok (.ifCond .ne 6, 3) := by decide +kernel
theorem dX11_undo_7 : decode cX11_undo 7 = .ok (.bipush (-5), 2) := by decide +kernel
theorem dX11_undo_9 : decode cX11_undo 9 = .ok (.ireturn, 1) := by decide +kernel
theorem dX11_undo_10 : decode cX11_undo 10 = .ok (.aload_n 0, 1) := by decide +kernel
theorem dX11_undo_11 : decode cX11_undo 11 = .ok (.dup, 1) := by decide +kernel
theorem dX11_undo_12 : decode cX11_undo 12 = .ok (.getfield 44, 3) := by decide +kernel
theorem dX11_undo_15 : decode cX11_undo 15 = .ok (.iconst 1, 1) := by decide +kernel
theorem dX11_undo_16 : decode cX11_undo 16 = .ok (.isub, 1) := by decide +kernel
theorem dX11_undo_17 : decode cX11_undo 17 = .ok (.putfield 44, 3) := by decide +kernel
theorem dX11_undo_20 : decode cX11_undo 20 = .ok (.iconst 0, 1) := by decide +kernel
theorem dX11_undo_21 : decode cX11_undo 21 = .ok (.istore_n 1, 1) := by decide +kernel
theorem dX11_undo_22 : decode cX11_undo 22 = .ok (.iload_n 1, 1) := by decide +kernel
theorem dX11_undo_23 : decode cX11_undo 23 = .ok (.sipush 138, 3) := by decide +kernel
theorem dX11_undo_26 : decode cX11_undo 26 = .ok (.if_icmp .ge 30, 3) := by decide +kernel
theorem dX11_undo_29 : decode cX11_undo 29 = .ok (.aload_n 0, 1) := by decide +kernel
theorem dX11_undo_30 : decode cX11_undo 30 = .ok (.getfield 7, 3) := by decide +kernel
theorem dX11_undo_33 : decode cX11_undo 33 = .ok (.iload_n 1, 1) := by decide +kernel
theorem dX11_undo_34 : decode cX11_undo 34 = .ok (.aload_n 0, 1) := by decide +kernel
theorem dX11_undo_35 : decode cX11_undo 35 = .ok (.getfield 13, 3) := by decide +kernel
theorem dX11_undo_38 : decode cX11_undo 38 = .ok (.aload_n 0, 1) := by decide +kernel
theorem dX11_undo_39 : decode cX11_undo 39 = .ok (.getfield 44, 3) := by decide +kernel
theorem dX11_undo_42 : decode cX11_undo 42 = .ok (.sipush 138, 3) := by decide +kernel
theorem dX11_undo_45 : decode cX11_undo 45 = .ok (.imul, 1) := by decide +kernel
theorem dX11_undo_46 : decode cX11_undo 46 = .ok (.iload_n 1, 1) := by decide +kernel
theorem dX11_undo_47 : decode cX11_undo 47 = .ok (.iadd, 1) := by decide +kernel
theorem dX11_undo_48 : decode cX11_undo 48 = .ok (.iaload, 1) := by decide +kernel
theorem dX11_undo_49 : decode cX11_undo 49 = .ok (.iastore, 1) := by decide +kernel
theorem dX11_undo_50 : decode cX11_undo 50 = .ok (.iinc 1 1, 3) := by decide +kernel
theorem dX11_undo_53 : decode cX11_undo 53 = .ok (.goto (-31), 3) := by decide +kernel
theorem dX11_undo_56 : decode cX11_undo 56 = .ok (.aload_n 0, 1) := by decide +kernel
theorem dX11_undo_57 : decode cX11_undo 57 = .ok (.getfield 44, 3) := by decide +kernel
theorem dX11_undo_60 : decode cX11_undo 60 = .ok (.ireturn, 1) := by decide +kernel
theorem dX11_save_0 : decode cX11_save 0 = .ok (.iload_n 1, 1) := by decide +kernel
theorem dX11_save_1 : decode cX11_save 1 = .ok (.iconst 0, 1) := by decide +kernel
theorem dX11_save_2 : decode cX11_save 2 = .ok (.iconst 1, 1) := by decide +kernel
theorem dX11_save_3 : decode cX11_save 3 = .ok (.invokestatic 36, 3) := by decide +kernel
theorem dX11_save_6 : decode cX11_save 6 = .ok (.ifCond .ne 6, 3) := by decide +kernel
theorem dX11_save_9 : decode cX11_save 9 = .ok (.bipush (-2), 2) := by decide +kernel
theorem dX11_save_11 : decode cX11_save 11 = .ok (.ireturn, 1) := by decide +kernel
theorem dX11_save_12 : decode cX11_save 12 = .ok (.aload_n 0, 1) := by decide +kernel
theorem dX11_save_13 : decode cX11_save 13 = .ok (.getfield 19, 3) := by decide +kernel
theorem dX11_save_16 : decode cX11_save 16 = .ok (.iload_n 1, 1) := by decide +kernel
theorem dX11_save_17 : decode cX11_save 17 = .ok (.iconst 1, 1) := by decide +kernel
theorem dX11_save_18 : decode cX11_save 18 = .ok (.bastore, 1) := by decide +kernel
theorem dX11_save_19 : decode cX11_save 19 = .ok (.iconst 0, 1) := by decide +kernel
theorem dX11_save_20 : decode cX11_save 20 = .ok (.istore_n 2, 1) := by decide +kernel
theorem dX11_save_21 : decode cX11_save 21 = .ok (.iload_n 2, 1) := by decide +kernel
theorem dX11_save_22 : decode cX11_save 22 = .ok (.sipush 138, 3) := by decide +kernel
theorem dX11_save_25 : decode cX11_save 25 = .ok (.if_icmp .ge 27, 3) := by decide +kernel
theorem dX11_save_28 : decode cX11_save 28 = .ok (.aload_n 0, 1) := by decide +kernel
theorem dX11_save_29 : decode cX11_save 29 = .ok (.getfield 16, 3) := by decide +kernel
theorem dX11_save_32 : decode cX11_save 32 = .ok (.iload_n 1, 1) := by decide +kernel
theorem dX11_save_33 : decode cX11_save 33 = .ok (.sipush 138, 3) := by decide +kernel
theorem dX11_save_36 : decode cX11_save 36 = .ok (.imul, 1) := by decide +kernel
theorem dX11_save_37 : decode cX11_save 37 = .ok (.iload_n 2, 1) := by decide +kernel
theorem dX11_save_38 : decode cX11_save 38 = .ok (.iadd, 1) := by decide +kernel
theorem dX11_save_39 : decode cX11_save 39 = .ok (.aload_n 0, 1) := by decide +kernel
theorem dX11_save_40 : decode cX11_save 40 = .ok (.getfield 7, 3) := by decide +kernel
theorem dX11_save_43 : decode cX11_save 43 = .ok (.iload_n 2, 1) := by decide +kernel
theorem dX11_save_44 : decode cX11_save 44 = .ok (.iaload, 1) := by decide +kernel
theorem dX11_save_45 : decode cX11_save 45 = .ok (.iastore, 1) := by decide +kernel
theorem dX11_save_46 : decode cX11_save 46 = .ok (.iinc 2 1, 3) := by decide +kernel
theorem dX11_save_49 : decode cX11_save 49 = .ok (.goto (-28), 3) := by decide +kernel
theorem dX11_save_52 : decode cX11_save 52 = .ok (.aload_n 0, 1) := by decide +kernel
theorem dX11_save_53 : decode cX11_save 53 = .ok (.getfield 7, 3) := by decide +kernel
theorem dX11_save_56 : decode cX11_save 56 = .ok (.iconst 4, 1) := by decide +kernel
theorem dX11_save_57 : decode cX11_save 57 = .ok (.iaload, 1) := by decide +kernel
theorem dX11_save_58 : decode cX11_save 58 = .ok (.ireturn, 1) := by decide +kernel
theorem dX11_restore_0 : decode cX11_restore 0 = .ok (.iload_n 1, 1) := by decide +kernel
theorem dX11_restore_1 : decode cX11_restore 1 = .ok (.iconst 0, 1) := by decide +kernel
theorem dX11_restore_2 : decode cX11_restore 2 = .ok (.iconst 1, 1) := by decide +kernel
theorem dX11_restore_3 : decode cX11_restore 3 = .ok (.invokestatic 36, 3) := by decide +kernel
theorem dX11_restore_6 : decode cX11_restore 6 = .ok (.ifCond .ne 6, 3) := by decide +kernel
theorem dX11_restore_9 : decode cX11_restore 9 = .ok (.bipush (-2), 2) := by decide +kernel
theorem dX11_restore_11 : decode cX11_restore 11 = .ok (.ireturn, 1) := by decide +kernel
theorem dX11_restore_12 : decode cX11_restore 12 = .ok (.aload_n 0, 1) := by decide +kernel
theorem dX11_restore_13 : decode cX11_restore 13 = .ok (.getfield 19, 3) := by decide +kernel
theorem dX11_restore_16 : decode cX11_restore 16 = .ok (.iload_n 1, 1) := by decide +kernel
theorem dX11_restore_17 : decode cX11_restore 17 = .ok (.baload, 1) := by decide +kernel
theorem dX11_restore_18 : decode cX11_restore 18 = .ok (.ifCond .ne 6, 3) := by decide +kernel
theorem dX11_restore_21 : decode cX11_restore 21 = .ok (.bipush (-5), 2) := by decide +kernel
theorem dX11_restore_23 : decode cX11_restore 23 = .ok (.ireturn, 1) := by decide +kernel
theorem dX11_restore_24 : decode cX11_restore 24 = .ok (.aload_n 0, 1) := by decide +kernel
theorem dX11_restore_25 : decode cX11_restore 25 = .ok (.invokevirtual 48, 3) := by decide +kernel
theorem dX11_restore_28 : decode cX11_restore 28 = .ok (.iconst 0, 1) := by decide +kernel
theorem dX11_restore_29 : decode cX11_restore 29 = .ok (.istore_n 2, 1) := by decide +kernel
theorem dX11_restore_30 : decode cX11_restore 30 = .ok (.iload_n 2, 1) := by decide +kernel
theorem dX11_restore_31 : decode cX11_restore 31 = .ok (.sipush 138, 3) := by decide +kernel
theorem dX11_restore_34 : decode cX11_restore 34 = .ok (.if_icmp .ge 27, 3) := by decide +kernel
theorem dX11_restore_37 : decode cX11_restore 37 = .ok (.aload_n 0, 1) := by decide +kernel
theorem dX11_restore_38 : decode cX11_restore 38 = .ok (.getfield 7, 3) := by decide +kernel
theorem dX11_restore_41 : decode cX11_restore 41 = .ok (.iload_n 2, 1) := by decide +kernel
theorem dX11_restore_42 : decode cX11_restore 42 = .ok (.aload_n 0, 1) := by decide +kernel
theorem dX11_restore_43 : decode cX11_restore 43 = .ok (.getfield 16, 3) := by decide +kernel
theorem dX11_restore_46 : decode cX11_restore 46 = .ok (.iload_n 1, 1) := by decide +kernel
theorem dX11_restore_47 : decode cX11_restore 47 = .ok (.sipush 138, 3) := by decide +kernel
theorem dX11_restore_50 : decode cX11_restore 50 = .ok (.imul, 1) := by decide +kernel
theorem dX11_restore_51 : decode cX11_restore 51 = .ok (.iload_n 2, 1) := by decide +kernel
theorem dX11_restore_52 : decode cX11_restore 52 = .ok (.iadd, 1) := by decide +kernel
theorem dX11_restore_53 : decode cX11_restore 53 = .ok (.iaload, 1) := by decide +kernel
theorem dX11_restore_54 : decode cX11_restore 54 = .ok (.iastore, 1) := by decide +kernel
theorem dX11_restore_55 : decode cX11_restore 55 = .ok (.iinc 2 1, 3) := by decide +kernel
theorem dX11_restore_58 : decode cX11_restore 58 = .ok (.goto (-28), 3) := by decide +kernel
theorem dX11_restore_61 : decode cX11_restore 61 = .ok (.aload_n 0, 1) := by decide +kernel
theorem dX11_restore_62 : decode cX11_restore 62 = .ok (.getfield 7, 3) := by decide +kernel
theorem dX11_restore_65 : decode cX11_restore 65 = .ok (.iconst 4, 1) := by decide +kernel
theorem dX11_restore_66 : decode cX11_restore 66 = .ok (.iaload, 1) := by decide +kernel
theorem dX11_restore_67 : decode cX11_restore 67 = .ok (.ireturn, 1) := by decide +kernel
theorem dX11_set_0 : decode cX11_set 0 = .ok (.iload_n 1, 1) := by decide +kernel
theorem dX11_set_1 : decode cX11_set 1 = .ok (.iconst 0, 1) := by decide +kernel
theorem dX11_set_2 : decode cX11_set 2 = .ok (.iconst 1, 1) := by decide +kernel
theorem dX11_set_3 : decode cX11_set 3 = .ok (.invokestatic 36, 3) := by decide +kernel
theorem dX11_set_6 : decode cX11_set 6 = .ok (.ifCond .eq 32, 3) := by decide +kernel
theorem dX11_set_9 : decode cX11_set 9 = .ok (.iload_n 2, 1) := by decide +kernel
theorem dX11_set_10 : decode cX11_set 10 = .ok (.iload_n 1, 1) := by decide +kernel
theorem dX11_set_11 : decode cX11_set 11 = .ok (.ifCond .ne 8, 3) := by decide +kernel
theorem dX11_set_14 : decode cX11_set 14 = .ok (.bipush 10, 2) := by decide +kernel
theorem dX11_set_16 : decode cX11_set 16 = .ok (.goto 4, 3) := by decide +kernel
theorem dX11_set_19 : decode cX11_set 19 = .ok (.iconst 0, 1) := by decide +kernel
theorem dX11_set_20 : decode cX11_set 20 = .ok (.iload_n 1, 1) := by decide +kernel
theorem dX11_set_21 : decode cX11_set 21 = .ok (.ifCond .ne 9, 3) := by decide +kernel
theorem dX11_set_24 : decode cX11_set 24 = .ok (.sipush 200, 3) := by decide +kernel
theorem dX11_set_27 : decode cX11_set 27 = .ok (.goto 5, 3) := by decide +kernel
theorem dX11_set_30 : decode cX11_set 30 = .ok (.bipush 60, 2) := by decide +kernel
theorem dX11_set_32 : decode cX11_set 32 = .ok (.invokestatic 36, 3) := by decide +kernel
theorem dX11_set_35 : decode cX11_set 35 = .ok (.ifCond .ne 6, 3) := by decide +kernel
theorem dX11_set_38 : decode cX11_set 38 = .ok (.bipush (-2), 2) := by decide +kernel
theorem dX11_set_40 : decode cX11_set 40 = .ok (.ireturn, 1) := by decide +kernel
theorem dX11_set_41 : decode cX11_set 41 = .ok (.aload_n 0, 1) := by decide +kernel
theorem dX11_set_42 : decode cX11_set 42 = .ok (.invokevirtual 48, 3) := by decide +kernel
theorem dX11_set_45 : decode cX11_set 45 = .ok (.aload_n 0, 1) := by decide +kernel
theorem dX11_set_46 : decode cX11_set 46 = .ok (.getfield 7, 3) := by decide +kernel
theorem dX11_set_49 : decode cX11_set 49 = .ok (.iload_n 1, 1) := by decide +kernel
theorem dX11_set_50 : decode cX11_set 50 = .ok (.iaload, 1) := by decide +kernel
theorem dX11_set_51 : decode cX11_set 51 = .ok (.istore_n 3, 1) := by decide +kernel
theorem dX11_set_52 : decode cX11_set 52 = .ok (.aload_n 0, 1) := by decide +kernel
theorem dX11_set_53 : decode cX11_set 53 = .ok (.getfield 7, 3) := by decide +kernel
theorem dX11_set_56 : decode cX11_set 56 = .ok (.iload_n 1, 1) := by decide +kernel
theorem dX11_set_57 : decode cX11_set 57 = .ok (.iload_n 2, 1) := by decide +kernel
theorem dX11_set_58 : decode cX11_set 58 = .ok (.iastore, 1) := by decide +kernel
theorem dX11_set_59 : decode cX11_set 59 = .ok (.iload_n 3, 1) := by decide +kernel
theorem dX11_set_60 : decode cX11_set 60 = .ok (.ireturn, 1) := by decide +kernel
theorem dX11_whyNotLay_0 : decode cX11_whyNotLay 0 = .ok (.iload_n 1, 1) := by decide +kernel
theorem dX11_whyNotLay_1 : decode cX11_whyNotLay 1 = .ok (.invokestatic 51, 3) := by decide +kernel
theorem dX11_whyNotLay_4 : decode cX11_whyNotLay 4 = .ok (.ifCond .eq 10, 3) := by decide +kernel
theorem dX11_whyNotLay_7 : decode cX11_whyNotLay 7 = .ok (.iload_n 2, 1) := by decide +kernel
theorem dX11_whyNotLay_8 : decode cX11_whyNotLay 8 = .ok (.invokestatic 51, 3) := by decide +kernel
theorem dX11_whyNotLay_11 : decode cX11_whyNotLay 11 = .ok (.ifCond .ne 5, 3) := by decide +kernel
theorem dX11_whyNotLay_14 : decode cX11_whyNotLay 14 = .ok (.iconst (-1), 1) := by decide +kernel
theorem dX11_whyNotLay_15 : decode cX11_whyNotLay 15 = .ok (.ireturn, 1) := by decide +kernel
theorem dX11_whyNotLay_16 : decode cX11_whyNotLay 16 = .ok (.iload_n 1, 1) := by decide +kernel
theorem dX11_whyNotLay_17 : decode cX11_whyNotLay 17 = .ok (.iload_n 2, 1) := by decide +kernel
theorem dX11_whyNotLay_18 : decode cX11_whyNotLay 18 = .ok (.if_icmp .eq 24, 3) := by decide +kernel
theorem dX11_whyNotLay_21 : decode cX11_whyNotLay 21 = .ok (.iload_n 3, 1) := by decide +kernel
theorem dX11_whyNotLay_22 : decode cX11_whyNotLay 22 = .ok (.iconst 1, 1) := by decide +kernel
theorem dX11_whyNotLay_23 : decode cX11_whyNotLay 23 = .ok (.bipush 9, 2) := by decide +kernel
theorem dX11_whyNotLay_25 : decode cX11_whyNotLay 25 = .ok (.invokestatic 36, 3) := by decide +kernel
theorem dX11_whyNotLay_28 : decode cX11_whyNotLay 28 = .ok (.ifCond .eq 14, 3) := by decide +kernel
theorem dX11_whyNotLay_31 : decode cX11_whyNotLay 31 = .ok (.iload 4, 2) := by decide +kernel
theorem dX11_whyNotLay_33 : decode cX11_whyNotLay 33 = .ok (.iconst 1, 1) := by decide +kernel
theorem dX11_whyNotLay_34 : decode cX11_whyNotLay 34 = .ok (.bipush 9, 2) := by decide +kernel
theorem dX11_whyNotLay_36 : decode cX11_whyNotLay 36 = .ok (.invokestatic 36, 3) := by decide +kernel
theorem dX11_whyNotLay_39 : decode cX11_whyNotLay 39 = .ok (.ifCond .ne 8, 3) := by decide +kernel
theorem dX11_whyNotLay_42 : decode cX11_whyNotLay 42 = .ok (.bipush (-2), 2) := by decide +kernel
theorem dX11_whyNotLay_44 : decode cX11_whyNotLay 44 = .ok (.goto 20, 3) := by decide +kernel
theorem dX11_whyNotLay_47 : decode cX11_whyNotLay 47 = .ok (.aload_n 0, 1) := by decide +kernel
theorem dX11_whyNotLay_48 : decode cX11_whyNotLay 48 = .ok (.getfield 7, 3) := by decide +kernel
theorem dX11_whyNotLay_51 : decode cX11_whyNotLay 51 = .ok (.iconst 4, 1) := by decide +kernel
theorem dX11_whyNotLay_52 : decode cX11_whyNotLay 52 = .ok (.iaload, 1) := by decide +kernel
theorem dX11_whyNotLay_53 : decode cX11_whyNotLay 53 = .ok (.bipush 20, 2) := by decide +kernel
theorem dX11_whyNotLay_55 : decode cX11_whyNotLay 55 = .ok (.if_icmp .ne 8, 3) := by decide +kernel
theorem dX11_whyNotLay_58 : decode cX11_whyNotLay 58 = .ok (.bipush (-4), 2) := by decide +kernel
theorem dX11_whyNotLay_60 : decode cX11_whyNotLay 60 = .ok (.goto 4, 3) := by decide +kernel
theorem dX11_whyNotLay_63 : decode cX11_whyNotLay 63 = .ok (.iconst 0, 1) := by decide +kernel
theorem dX11_whyNotLay_64 : decode cX11_whyNotLay 64 = .ok (.ireturn, 1) := by decide +kernel
theorem dX11_lies_0 : decode cX11_lies 0 = .ok (.bipush 6, 2) := by decide +kernel
theorem dX11_lies_2 : decode cX11_lies 2 = .ok (.iconst 5, 1) := by decide +kernel
theorem dX11_lies_3 : decode cX11_lies 3 = .ok (.aload_n 0, 1) := by decide +kernel
theorem dX11_lies_4 : decode cX11_lies 4 = .ok (.getfield 7, 3) := by decide +kernel
theorem dX11_lies_7 : decode cX11_lies 7 = .ok (.iconst 4, 1) := by decide +kernel
theorem dX11_lies_8 : decode cX11_lies 8 = .ok (.iaload, 1) := by decide +kernel
theorem dX11_lies_9 : decode cX11_lies 9 = .ok (.imul, 1) := by decide +kernel
theorem dX11_lies_10 : decode cX11_lies 10 = .ok (.iadd, 1) := by decide +kernel
theorem dX11_lies_11 : decode cX11_lies 11 = .ok (.istore 5, 2) := by decide +kernel
theorem dX11_lies_13 : decode cX11_lies 13 = .ok (.aload_n 0, 1) := by decide +kernel
theorem dX11_lies_14 : decode cX11_lies 14 = .ok (.getfield 7, 3) := by decide +kernel
theorem dX11_lies_17 : decode cX11_lies 17 = .ok (.iload 5, 2) := by decide +kernel
theorem dX11_lies_19 : decode cX11_lies 19 = .ok (.iload_n 1, 1) := by decide +kernel
theorem dX11_lies_20 : decode cX11_lies 20 = .ok (.iload_n 2, 1) := by decide +kernel
theorem dX11_lies_21 : decode cX11_lies 21 = .ok (.if_icmp .ge 7, 3) := by decide +kernel
theorem dX11_lies_24 : decode cX11_lies 24 = .ok (.iload_n 1, 1) := by decide +kernel
theorem dX11_lies_25 : decode cX11_lies 25 = .ok (.goto 4, 3) := by decide +kernel
theorem dX11_lies_28 : decode cX11_lies 28 = .ok (.iload_n 2, 1) := by decide +kernel
theorem dX11_lies_29 : decode cX11_lies 29 = .ok (.iastore, 1) := by decide +kernel
theorem dX11_lies_30 : decode cX11_lies 30 = .ok (.aload_n 0, 1) := by decide +kernel
theorem dX11_lies_31 : decode cX11_lies 31 = .ok (.getfield 7, 3) := by decide +kernel
theorem dX11_lies_34 : decode cX11_lies 34 = .ok (.iload 5, 2) := by decide +kernel
theorem dX11_lies_36 : decode cX11_lies 36 = .ok (.iconst 1, 1) := by decide +kernel
theorem dX11_lies_37 : decode cX11_lies 37 = .ok (.iadd, 1) := by decide +kernel
theorem dX11_lies_38 : decode cX11_lies 38 = .ok (.iload_n 1, 1) := by decide +kernel
theorem dX11_lies_39 : decode cX11_lies 39 = .ok (.iload_n 2, 1) := by decide +kernel
theorem dX11_lies_40 : decode cX11_lies 40 = .ok (.if_icmp .ge 7, 3) := by decide +kernel
theorem dX11_lies_43 : decode cX11_lies 43 = .ok (.iload_n 2, 1) := by decide +kernel
theorem dX11_lies_44 : decode cX11_lies 44 = .ok (.goto 4, 3) := by decide +kernel
theorem dX11_lies_47 : decode cX11_lies 47 = .ok (.iload_n 1, 1) := by decide +kernel
theorem dX11_lies_48 : decode cX11_lies 48 = .ok (.iastore, 1) := by decide +kernel
theorem dX11_lies_49 : decode cX11_lies 49 = .ok (.aload_n 0, 1) := by decide +kernel
theorem dX11_lies_50 : decode cX11_lies 50 = .ok (.getfield 7, 3) := by decide +kernel
theorem dX11_lies_53 : decode cX11_lies 53 = .ok (.iload 5, 2) := by decide +kernel
theorem dX11_lies_55 : decode cX11_lies 55 = .ok (.iconst 2, 1) := by decide +kernel
theorem dX11_lies_56 : decode cX11_lies 56 = .ok (.iadd, 1) := by decide +kernel
theorem dX11_lies_57 : decode cX11_lies 57 = .ok (.iload_n 3, 1) := by decide +kernel
theorem dX11_lies_58 : decode cX11_lies 58 = .ok (.iastore, 1) := by decide +kernel
theorem dX11_lies_59 : decode cX11_lies 59 = .ok (.aload_n 0, 1) := by decide +kernel
theorem dX11_lies_60 : decode cX11_lies 60 = .ok (.getfield 7, 3) := by decide +kernel
theorem dX11_lies_63 : decode cX11_lies 63 = .ok (.iload 5, 2) := by decide +kernel
theorem dX11_lies_65 : decode cX11_lies 65 = .ok (.iconst 3, 1) := by decide +kernel
theorem dX11_lies_66 : decode cX11_lies 66 = .ok (.iadd, 1) := by decide +kernel
theorem dX11_lies_67 : decode cX11_lies 67 = .ok (.iload 4, 2) := by decide +kernel
theorem dX11_lies_69 : decode cX11_lies 69 = .ok (.iastore, 1) := by decide +kernel
theorem dX11_lies_70 : decode cX11_lies 70 = .ok (.aload_n 0, 1) := by decide +kernel
theorem dX11_lies_71 : decode cX11_lies 71 = .ok (.getfield 7, 3) := by decide +kernel
theorem dX11_lies_74 : decode cX11_lies 74 = .ok (.iload 5, 2) := by decide +kernel
theorem dX11_lies_76 : decode cX11_lies 76 = .ok (.iconst 4, 1) := by decide +kernel
theorem dX11_lies_77 : decode cX11_lies 77 = .ok (.iadd, 1) := by decide +kernel
theorem dX11_lies_78 : decode cX11_lies 78 = .ok (.iconst 0, 1) := by decide +kernel
theorem dX11_lies_79 : decode cX11_lies 79 = .ok (.iastore, 1) := by decide +kernel
theorem dX11_lies_80 : decode cX11_lies 80 = .ok (.aload_n 0, 1) := by decide +kernel
theorem dX11_lies_81 : decode cX11_lies 81 = .ok (.getfield 7, 3) := by decide +kernel
theorem dX11_lies_84 : decode cX11_lies 84 = .ok (.iconst 4, 1) := by decide +kernel
theorem dX11_lies_85 : decode cX11_lies 85 = .ok (.dup2, 1) := by decide +kernel
theorem dX11_lies_86 : decode cX11_lies 86 = .ok (.iaload, 1) := by decide +kernel
theorem dX11_lies_87 : decode cX11_lies 87 = .ok (.iconst 1, 1) := by decide +kernel
theorem dX11_lies_88 : decode cX11_lies 88 = .ok (.iadd, 1) := by decide +kernel
theorem dX11_lies_89 : decode cX11_lies 89 = .ok (.iastore, 1) := by decide +kernel
theorem dX11_lies_90 : decode cX11_lies 90 = .ok (.aload_n 0, 1) := by decide +kernel
theorem dX11_lies_91 : decode cX11_lies 91 = .ok (.getfield 7, 3) := by decide +kernel
theorem dX11_lies_94 : decode cX11_lies 94 = .ok (.iconst 4, 1) := by decide +kernel
theorem dX11_lies_95 : decode cX11_lies 95 = .ok (.iaload, 1) := by decide +kernel
theorem dX11_lies_96 : decode cX11_lies 96 = .ok (.iconst 1, 1) := by decide +kernel
theorem dX11_lies_97 : decode cX11_lies 97 = .ok (.isub, 1) := by decide +kernel
theorem dX11_lies_98 : decode cX11_lies 98 = .ok (.ireturn, 1) := by decide +kernel
theorem dX11_lay_0 : decode cX11_lay 0 = .ok (.aload_n 0, 1) := by decide +kernel
theorem dX11_lay_1 : decode cX11_lay 1 = .ok (.iload_n 1, 1) := by decide +kernel
theorem dX11_lay_2 : decode cX11_lay 2 = .ok (.iload_n 2, 1) := by decide +kernel
theorem dX11_lay_3 : decode cX11_lay 3 = .ok (.iload_n 3, 1) := by decide +kernel
theorem dX11_lay_4 : decode cX11_lay 4 = .ok (.iload 4, 2) := by decide +kernel
theorem dX11_lay_6 : decode cX11_lay 6 = .ok (.invokevirtual 55, 3) := by decide +kernel
theorem dX11_lay_9 : decode cX11_lay 9 = .ok (.istore 5, 2) := by decide +kernel
theorem dX11_lay_11 : decode cX11_lay 11 = .ok (.iload 5, 2) := by decide +kernel
theorem dX11_lay_13 : decode cX11_lay 13 = .ok (.ifCond .ge 6, 3) := by decide +kernel
theorem dX11_lay_16 : decode cX11_lay 16 = .ok (.iload 5, 2) := by decide +kernel
theorem dX11_lay_18 : decode cX11_lay 18 = .ok (.ireturn, 1) := by decide +kernel
theorem dX11_lay_19 : decode cX11_lay 19 = .ok (.aload_n 0, 1) := by decide +kernel
theorem dX11_lay_20 : decode cX11_lay 20 = .ok (.invokevirtual 48, 3) := by decide +kernel
theorem dX11_lay_23 : decode cX11_lay 23 = .ok (.aload_n 0, 1) := by decide +kernel
theorem dX11_lay_24 : decode cX11_lay 24 = .ok (.iload_n 1, 1) := by decide +kernel
theorem dX11_lay_25 : decode cX11_lay 25 = .ok (.iload_n 2, 1) := by decide +kernel
theorem dX11_lay_26 : decode cX11_lay 26 = .ok (.iload_n 3, 1) := by decide +kernel
theorem dX11_lay_27 : decode cX11_lay 27 = .ok (.iload 4, 2) := by decide +kernel
theorem dX11_lay_29 : decode cX11_lay 29 = .ok (.invokevirtual 59, 3) := by decide +kernel
theorem dX11_lay_32 : decode cX11_lay 32 = .ok (.ireturn, 1) := by decide +kernel
theorem dX11_takeUp_0 : decode cX11_takeUp 0 = .ok (.aload_n 0, 1) := by decide +kernel
theorem dX11_takeUp_1 : decode cX11_takeUp 1 = .ok (.iload_n 1, 1) := by decide +kernel
theorem dX11_takeUp_2 : decode cX11_takeUp 2 = .ok (.invokevirtual 62, 3) := by decide +kernel
theorem dX11_takeUp_5 : decode cX11_takeUp 5 = .ok (.ifCond .ne 5, 3) := by decide +kernel
theorem dX11_takeUp_8 : decode cX11_takeUp 8 = .ok (.iconst (-1), 1) := by decide +kernel
theorem dX11_takeUp_9 : decode cX11_takeUp 9 = .ok (.ireturn, 1) := by decide +kernel
theorem dX11_takeUp_10 : decode cX11_takeUp 10 = .ok (.aload_n 0, 1) := by decide +kernel
theorem dX11_takeUp_11 : decode cX11_takeUp 11 = .ok (.invokevirtual 48, 3) := by decide +kernel
theorem dX11_takeUp_14 : decode cX11_takeUp 14 = .ok (.aload_n 0, 1) := by decide +kernel
theorem dX11_takeUp_15 : decode cX11_takeUp 15 = .ok (.getfield 7, 3) := by decide +kernel
theorem dX11_takeUp_18 : decode cX11_takeUp 18 = .ok (.iconst 4, 1) := by decide +kernel
theorem dX11_takeUp_19 : decode cX11_takeUp 19 = .ok (.dup2, 1) := by decide +kernel
theorem dX11_takeUp_20 : decode cX11_takeUp 20 = .ok (.iaload, 1) := by decide +kernel
theorem dX11_takeUp_21 : decode cX11_takeUp 21 = .ok (.iconst 1, 1) := by decide +kernel
theorem dX11_takeUp_22 : decode cX11_takeUp 22 = .ok (.isub, 1) := by decide +kernel
theorem dX11_takeUp_23 : decode cX11_takeUp 23 = .ok (.iastore, 1) := by decide +kernel
theorem dX11_takeUp_24 : decode cX11_takeUp 24 = .ok (.bipush 6, 2) := by decide +kernel
theorem dX11_takeUp_26 : decode cX11_takeUp 26 = .ok (.iconst 5, 1) := by decide +kernel
theorem dX11_takeUp_27 : decode cX11_takeUp 27 = .ok (.iload_n 1, 1) := by decide +kernel
theorem dX11_takeUp_28 : decode cX11_takeUp 28 = .ok (.imul, 1) := by decide +kernel
theorem dX11_takeUp_29 : decode cX11_takeUp 29 = .ok (.iadd, 1) := by decide +kernel
theorem dX11_takeUp_30 : decode cX11_takeUp 30 = .ok (.istore_n 2, 1) := by decide +kernel
theorem dX11_takeUp_31 : decode cX11_takeUp 31 = .ok (.iload_n 2, 1) := by decide +kernel
theorem dX11_takeUp_32 : decode cX11_takeUp 32 = .ok (.bipush 6, 2) := by decide +kernel
theorem dX11_takeUp_34 : decode cX11_takeUp 34 = .ok (.iconst 5, 1) := by decide +kernel
theorem dX11_takeUp_35 : decode cX11_takeUp 35 = .ok (.aload_n 0, 1) := by decide +kernel
theorem dX11_takeUp_36 : decode cX11_takeUp 36 = .ok (.getfield 7, 3) := by decide +kernel
theorem dX11_takeUp_39 : decode cX11_takeUp 39 = .ok (.iconst 4, 1) := by decide +kernel
theorem dX11_takeUp_40 : decode cX11_takeUp 40 = .ok (.iaload, 1) := by decide +kernel
theorem dX11_takeUp_41 : decode cX11_takeUp 41 = .ok (.imul, 1) := by decide +kernel
theorem dX11_takeUp_42 : decode cX11_takeUp 42 = .ok (.iadd, 1) := by decide +kernel
theorem dX11_takeUp_43 : decode cX11_takeUp 43 = .ok (.if_icmp .ge 23, 3) := by decide +kernel
theorem dX11_takeUp_46 : decode cX11_takeUp 46 = .ok (.aload_n 0, 1) := by decide +kernel
theorem dX11_takeUp_47 : decode cX11_takeUp 47 = .ok (.getfield 7, 3) := by decide +kernel
theorem dX11_takeUp_50 : decode cX11_takeUp 50 = .ok (.iload_n 2, 1) := by decide +kernel
theorem dX11_takeUp_51 : decode cX11_takeUp 51 = .ok (.aload_n 0, 1) := by decide +kernel
theorem dX11_takeUp_52 : decode cX11_takeUp 52 = .ok (.getfield 7, 3) := by decide +kernel
theorem dX11_takeUp_55 : decode cX11_takeUp 55 = .ok (.iload_n 2, 1) := by decide +kernel
theorem dX11_takeUp_56 : decode cX11_takeUp 56 = .ok (.iconst 5, 1) := by decide +kernel
theorem dX11_takeUp_57 : decode cX11_takeUp 57 = .ok (.iadd, 1) := by decide +kernel
theorem dX11_takeUp_58 : decode cX11_takeUp 58 = .ok (.iaload, 1) := by decide +kernel
theorem dX11_takeUp_59 : decode cX11_takeUp 59 = .ok (.iastore, 1) := by decide +kernel
theorem dX11_takeUp_60 : decode cX11_takeUp 60 = .ok (.iinc 2 1, 3) := by decide +kernel
theorem dX11_takeUp_63 : decode cX11_takeUp 63 = .ok (.goto (-32), 3) := by decide +kernel
theorem dX11_takeUp_66 : decode cX11_takeUp 66 = .ok (.iconst 0, 1) := by decide +kernel
theorem dX11_takeUp_67 : decode cX11_takeUp 67 = .ok (.istore_n 2, 1) := by decide +kernel
theorem dX11_takeUp_68 : decode cX11_takeUp 68 = .ok (.iload_n 2, 1) := by decide +kernel
theorem dX11_takeUp_69 : decode cX11_takeUp 69 = .ok (.iconst 4, 1) := by decide +kernel
theorem dX11_takeUp_70 : decode cX11_takeUp 70 = .ok (.if_icmp .ge 48, 3) := by decide +kernel
theorem dX11_takeUp_73 : decode cX11_takeUp 73 = .ok (.aload_n 0, 1) := by decide +kernel
theorem dX11_takeUp_74 : decode cX11_takeUp 74 = .ok (.iload_n 2, 1) := by decide +kernel
theorem dX11_takeUp_75 : decode cX11_takeUp 75 = .ok (.iconst 1, 1) := by decide +kernel
theorem dX11_takeUp_76 : decode cX11_takeUp 76 = .ok (.invokevirtual 40, 3) := by decide +kernel
theorem dX11_takeUp_79 : decode cX11_takeUp 79 = .ok (.istore_n 3, 1) := by decide +kernel
theorem dX11_takeUp_80 : decode cX11_takeUp 80 = .ok (.iload_n 3, 1) := by decide +kernel
theorem dX11_takeUp_81 : decode cX11_takeUp 81 = .ok (.iconst 1, 1) := by decide +kernel
theorem dX11_takeUp_82 : decode cX11_takeUp 82 = .ok (.iload_n 1, 1) := by decide +kernel
theorem dX11_takeUp_83 : decode cX11_takeUp 83 = .ok (.ishl, 1) := by decide +kernel
theorem dX11_takeUp_84 : decode cX11_takeUp 84 = .ok (.iconst 1, 1) := by decide +kernel
theorem dX11_takeUp_85 : decode cX11_takeUp 85 = .ok (.isub, 1) := by decide +kernel
theorem dX11_takeUp_86 : decode cX11_takeUp 86 = .ok (.iand, 1) := by decide +kernel
theorem dX11_takeUp_87 : decode cX11_takeUp 87 = .ok (.istore 4, 2) := by decide +kernel
theorem dX11_takeUp_89 : decode cX11_takeUp 89 = .ok (.aload_n 0, 1) := by decide +kernel
theorem dX11_takeUp_90 : decode cX11_takeUp 90 = .ok (.getfield 7, 3) := by decide +kernel
theorem dX11_takeUp_93 : decode cX11_takeUp 93 = .ok (.bipush 106, 2) := by decide +kernel
theorem dX11_takeUp_95 : decode cX11_takeUp 95 = .ok (.iconst 3, 1) := by decide +kernel
theorem dX11_takeUp_96 : decode cX11_takeUp 96 = .ok (.iload_n 2, 1) := by decide +kernel
theorem dX11_takeUp_97 : decode cX11_takeUp 97 = .ok (.imul, 1) := by decide +kernel
theorem dX11_takeUp_98 : decode cX11_takeUp 98 = .ok (.iadd, 1) := by decide +kernel
theorem dX11_takeUp_99 : decode cX11_takeUp 99 = .ok (.iconst 1, 1) := by decide +kernel
theorem dX11_takeUp_100 : decode cX11_takeUp 100 = .ok (.iadd, 1) := by decide +kernel
theorem dX11_takeUp_101 : decode cX11_takeUp 101 = .ok (.iload 4, 2) := by decide +kernel
theorem dX11_takeUp_103 : decode cX11_takeUp 103 = .ok (.iload_n 3, 1) := by decide +kernel
theorem dX11_takeUp_104 : decode cX11_takeUp 104 = .ok (.iload_n 1, 1) := by decide +kernel
theorem dX11_takeUp_105 : decode cX11_takeUp 105 = .ok (.iconst 1, 1) := by decide +kernel
theorem dX11_takeUp_106 : decode cX11_takeUp 106 = .ok (.iadd, 1) := by decide +kernel
theorem dX11_takeUp_107 : decode cX11_takeUp 107 = .ok (.ishr, 1) := by decide +kernel
theorem dX11_takeUp_108 : decode cX11_takeUp 108 = .ok (.iload_n 1, 1) := by decide +kernel
theorem dX11_takeUp_109 : decode cX11_takeUp 109 = .ok (.ishl, 1) := by decide +kernel
theorem dX11_takeUp_110 : decode cX11_takeUp 110 = .ok (.ior, 1) := by decide +kernel
theorem dX11_takeUp_111 : decode cX11_takeUp 111 = .ok (.iastore, 1) := by decide +kernel
theorem dX11_takeUp_112 : decode cX11_takeUp 112 = .ok (.iinc 2 1, 3) := by decide +kernel
theorem dX11_takeUp_115 : decode cX11_takeUp 115 = .ok (.goto (-47), 3) := by decide +kernel
theorem dX11_takeUp_118 : decode cX11_takeUp 118 = .ok (.aload_n 0, 1) := by decide +kernel
theorem dX11_takeUp_119 : decode cX11_takeUp 119 = .ok (.getfield 7, 3) := by decide +kernel
theorem dX11_takeUp_122 : decode cX11_takeUp 122 = .ok (.iconst 4, 1) := by decide +kernel
theorem dX11_takeUp_123 : decode cX11_takeUp 123 = .ok (.iaload, 1) := by decide +kernel
theorem dX11_takeUp_124 : decode cX11_takeUp 124 = .ok (.ireturn, 1) := by decide +kernel
theorem dX11_isAt_0 : decode cX11_isAt 0 = .ok (.aload_n 0, 1) := by decide +kernel
theorem dX11_isAt_1 : decode cX11_isAt 1 = .ok (.iload_n 1, 1) := by decide +kernel
theorem dX11_isAt_2 : decode cX11_isAt 2 = .ok (.iconst 0, 1) := by decide +kernel
theorem dX11_isAt_3 : decode cX11_isAt 3 = .ok (.invokevirtual 65, 3) := by decide +kernel
theorem dX11_isAt_6 : decode cX11_isAt 6 = .ok (.iload_n 2, 1) := by decide +kernel
theorem dX11_isAt_7 : decode cX11_isAt 7 = .ok (.if_icmp .eq 13, 3) := by decide +kernel
theorem dX11_isAt_10 : decode cX11_isAt 10 = .ok (.aload_n 0, 1) := by decide +kernel
theorem dX11_isAt_11 : decode cX11_isAt 11 = .ok (.iload_n 1, 1) := by decide +kernel
theorem dX11_isAt_12 : decode cX11_isAt 12 = .ok (.iconst 1, 1) := by decide +kernel
theorem dX11_isAt_13 : decode cX11_isAt 13 = .ok (.invokevirtual 65, 3) := by decide +kernel
theorem dX11_isAt_16 : decode cX11_isAt 16 = .ok (.iload_n 2, 1) := by decide +kernel
theorem dX11_isAt_17 : decode cX11_isAt 17 = .ok (.if_icmp .ne 7, 3) := by decide +kernel
theorem dX11_isAt_20 : decode cX11_isAt 20 = .ok (.iconst 1, 1) := by decide +kernel
theorem dX11_isAt_21 : decode cX11_isAt 21 = .ok (.goto 4, 3) := by decide +kernel
theorem dX11_isAt_24 : decode cX11_isAt 24 = .ok (.iconst 0, 1) := by decide +kernel
theorem dX11_isAt_25 : decode cX11_isAt 25 = .ok (.ireturn, 1) := by decide +kernel
theorem dX11_across_0 : decode cX11_across 0 = .ok (.aload_n 0, 1) := by decide +kernel
theorem dX11_across_1 : decode cX11_across 1 = .ok (.iload_n 1, 1) := by decide +kernel
theorem dX11_across_2 : decode cX11_across 2 = .ok (.iconst 0, 1) := by decide +kernel
theorem dX11_across_3 : decode cX11_across 3 = .ok (.invokevirtual 65, 3) := by decide +kernel
theorem dX11_across_6 : decode cX11_across 6 = .ok (.iload_n 2, 1) := by decide +kernel
theorem dX11_across_7 : decode cX11_across 7 = .ok (.if_icmp .ne 12, 3) := by decide +kernel
theorem dX11_across_10 : decode cX11_across 10 = .ok (.aload_n 0, 1) := by decide +kernel
theorem dX11_across_11 : decode cX11_across 11 = .ok (.iload_n 1, 1) := by decide +kernel
theorem dX11_across_12 : decode cX11_across 12 = .ok (.iconst 1, 1) := by decide +kernel
theorem dX11_across_13 : decode cX11_across 13 = .ok (.invokevirtual 65, 3) := by decide +kernel
theorem dX11_across_16 : decode cX11_across 16 = .ok (.goto 9, 3) := by decide +kernel
theorem dX11_across_19 : decode cX11_across 19 = .ok (.aload_n 0, 1) := by decide +kernel
theorem dX11_across_20 : decode cX11_across 20 = .ok (.iload_n 1, 1) := by decide +kernel
theorem dX11_across_21 : decode cX11_across 21 = .ok (.iconst 0, 1) := by decide +kernel
theorem dX11_across_22 : decode cX11_across 22 = .ok (.invokevirtual 65, 3) := by decide +kernel
theorem dX11_across_25 : decode cX11_across 25 = .ok (.ireturn, 1) := by decide +kernel
theorem dX11_measure_0 : decode cX11_measure 0 = .ok (.iconst 0, 1) := by decide +kernel
theorem dX11_measure_1 : decode cX11_measure 1 = .ok (.istore 4, 2) := by decide +kernel
theorem dX11_measure_3 : decode cX11_measure 3 = .ok (.iload 4, 2) := by decide +kernel
theorem dX11_measure_5 : decode cX11_measure 5 = .ok (.bipush 10, 2) := by decide +kernel
theorem dX11_measure_7 : decode cX11_measure 7 = .ok (.if_icmp .ge 28, 3) := by decide +kernel
theorem dX11_measure_10 : decode cX11_measure 10 = .ok (.aload_n 0, 1) := by decide +kernel
theorem dX11_measure_11 : decode cX11_measure 11 = .ok (.getfield 27, 3) := by decide +kernel
theorem dX11_measure_14 : decode cX11_measure 14 = .ok (.iload 4, 2) := by decide +kernel
theorem dX11_measure_16 : decode cX11_measure 16 = .ok (.iload 4, 2) := by decide +kernel
theorem dX11_measure_18 : decode cX11_measure 18 = .ok (.iload_n 1, 1) := by decide +kernel
theorem dX11_measure_19 : decode cX11_measure 19 = .ok (.if_icmp .ne 7, 3) := by decide +kernel
theorem dX11_measure_22 : decode cX11_measure 22 = .ok (.iconst 0, 1) := by decide +kernel
theorem dX11_measure_23 : decode cX11_measure 23 = .ok (.goto 5, 3) := by decide +kernel
theorem dX11_measure_26 : decode cX11_measure 26 = .ok (.ldc 68, 2) := by decide +kernel
theorem dX11_measure_28 : decode cX11_measure 28 = .ok (.iastore, 1) := by decide +kernel
theorem dX11_measure_29 : decode cX11_measure 29 = .ok (.iinc 4 1, 3) := by decide +kernel
theorem dX11_measure_32 : decode cX11_measure 32 = .ok (.goto (-29), 3) := by decide +kernel
theorem dX11_measure_35 : decode cX11_measure 35 = .ok (.iconst 1, 1) := by decide +kernel
theorem dX11_measure_36 : decode cX11_measure 36 = .ok (.istore 4, 2) := by decide +kernel
theorem dX11_measure_38 : decode cX11_measure 38 = .ok (.iload 4, 2) := by decide +kernel
theorem dX11_measure_40 : decode cX11_measure 40 = .ok (.bipush 10, 2) := by decide +kernel
theorem dX11_measure_42 : decode cX11_measure 42 = .ok (.if_icmp .ge 173, 3) := by decide +kernel
theorem dX11_measure_45 : decode cX11_measure 45 = .ok (.iconst 0, 1) := by decide +kernel
theorem dX11_measure_46 : decode cX11_measure 46 = .ok (.istore 5, 2) := by decide +kernel
theorem dX11_measure_48 : decode cX11_measure 48 = .ok (.iload 5, 2) := by decide +kernel
theorem dX11_measure_50 : decode cX11_measure 50 = .ok (.aload_n 0, 1) := by decide +kernel
theorem dX11_measure_51 : decode cX11_measure 51 = .ok (.getfield 7, 3) := by decide +kernel
theorem dX11_measure_54 : decode cX11_measure 54 = .ok (.iconst 4, 1) := by decide +kernel
theorem dX11_measure_55 : decode cX11_measure 55 = .ok (.iaload, 1) := by decide +kernel
theorem dX11_measure_56 : decode cX11_measure 56 = .ok (.if_icmp .ge 153, 3) := by decide +kernel
theorem dX11_measure_59 : decode cX11_measure 59 = .ok (.iload_n 2, 1) := by decide +kernel
theorem dX11_measure_60 : decode cX11_measure 60 = .ok (.iload 5, 2) := by decide +kernel
theorem dX11_measure_62 : decode cX11_measure 62 = .ok (.ishr, 1) := by decide +kernel
theorem dX11_measure_63 : decode cX11_measure 63 = .ok (.iconst 1, 1) := by decide +kernel
theorem dX11_measure_64 : decode cX11_measure 64 = .ok (.iand, 1) := by decide +kernel
theorem dX11_measure_65 : decode cX11_measure 65 = .ok (.iconst 1, 1) := by decide +kernel
theorem dX11_measure_66 : decode cX11_measure 66 = .ok (.if_icmp .ne 137, 3) := by decide +kernel
theorem dX11_measure_69 : decode cX11_measure 69 = .ok (.iload_n 3, 1) := by decide +kernel
theorem dX11_measure_70 : decode cX11_measure 70 = .ok (.ifCond .eq 18, 3) := by decide +kernel
theorem dX11_measure_73 : decode cX11_measure 73 = .ok (.bipush 100, 2) := by decide +kernel
theorem dX11_measure_75 : decode cX11_measure 75 = .ok (.aload_n 0, 1) := by decide +kernel
theorem dX11_measure_76 : decode cX11_measure 76 = .ok (.iload 5, 2) := by decide +kernel
theorem dX11_measure_78 : decode cX11_measure 78 = .ok (.iconst 3, 1) := by decide +kernel
theorem dX11_measure_79 : decode cX11_measure 79 = .ok (.invokevirtual 65, 3) := by decide +kernel
theorem dX11_measure_82 : decode cX11_measure 82 = .ok (.imul, 1) := by decide +kernel
theorem dX11_measure_83 : decode cX11_measure 83 = .ok (.iconst 1, 1) := by decide +kernel
theorem dX11_measure_84 : decode cX11_measure 84 = .ok (.iadd, 1) := by decide +kernel
theorem dX11_measure_85 : decode cX11_measure 85 = .ok (.goto 4, 3) := by decide +kernel
theorem dX11_measure_88 : decode cX11_measure 88 = .ok (.iconst 1, 1) := by decide +kernel
theorem dX11_measure_89 : decode cX11_measure 89 = .ok (.istore 6, 2) := by decide +kernel
theorem dX11_measure_91 : decode cX11_measure 91 = .ok (.aload_n 0, 1) := by decide +kernel
theorem dX11_measure_92 : decode cX11_measure 92 = .ok (.iload 5, 2) := by decide +kernel
theorem dX11_measure_94 : decode cX11_measure 94 = .ok (.iconst 0, 1) := by decide +kernel
theorem dX11_measure_95 : decode cX11_measure 95 = .ok (.invokevirtual 65, 3) := by decide +kernel
theorem dX11_measure_98 : decode cX11_measure 98 = .ok (.istore 7, 2) := by decide +kernel
theorem dX11_measure_100 : decode cX11_measure 100 = .ok (.aload_n 0, 1) := by decide +kernel
theorem dX11_measure_101 : decode cX11_measure 101 = .ok (.iload 5, 2) := by decide +kernel
theorem dX11_measure_103 : decode cX11_measure 103 = .ok (.iconst 1, 1) := by decide +kernel
theorem dX11_measure_104 : decode cX11_measure 104 = .ok (.invokevirtual 65, 3) := by decide +kernel
theorem dX11_measure_107 : decode cX11_measure 107 = .ok (.istore 8, 2) := by decide +kernel
theorem dX11_measure_109 : decode cX11_measure 109 = .ok (.aload_n 0, 1) := by decide +kernel
theorem dX11_measure_110 : decode cX11_measure 110 = .ok (.getfield 27, 3) := by decide +kernel
theorem dX11_measure_113 : decode cX11_measure 113 = .ok (.iload 7, 2) := by decide +kernel
theorem dX11_measure_115 : decode cX11_measure 115 = .ok (.aload_n 0, 1) := by decide +kernel
theorem dX11_measure_116 : decode cX11_measure 116 = .ok (.getfield 27, 3) := by decide +kernel
theorem dX11_measure_119 : decode cX11_measure 119 = .ok (.iload 8, 2) := by decide +kernel
theorem dX11_measure_121 : decode cX11_measure 121 = .ok (.iaload, 1) := by decide +kernel
theorem dX11_measure_122 : decode cX11_measure 122 = .ok (.iload 6, 2) := by decide +kernel
theorem dX11_measure_124 : decode cX11_measure 124 = .ok (.iadd, 1) := by decide +kernel
theorem dX11_measure_125 : decode cX11_measure 125 = .ok (.aload_n 0, 1) := by decide +kernel
theorem dX11_measure_126 : decode cX11_measure 126 = .ok (.getfield 27, 3) := by decide +kernel
theorem dX11_measure_129 : decode cX11_measure 129 = .ok (.iload 7, 2) := by decide +kernel
theorem dX11_measure_131 : decode cX11_measure 131 = .ok (.iaload, 1) := by decide +kernel
theorem dX11_measure_132 : decode cX11_measure 132 = .ok (.if_icmp .ge 16, 3) := by decide +kernel
theorem dX11_measure_135 : decode cX11_measure 135 = .ok (.aload_n 0, 1) := by decide +kernel
theorem dX11_measure_136 : decode cX11_measure 136 = .ok (.getfield 27, 3) := by decide +kernel
theorem dX11_measure_139 : decode cX11_measure 139 = .ok (.iload 8, 2) := by decide +kernel
theorem dX11_measure_141 : decode cX11_measure 141 = .ok (.iaload, 1) := by decide +kernel
theorem dX11_measure_142 : decode cX11_measure 142 = .ok (.iload 6, 2) := by decide +kernel
theorem dX11_measure_144 : decode cX11_measure 144 = .ok (.iadd, 1) := by decide +kernel
theorem dX11_measure_145 : decode cX11_measure 145 = .ok (.goto 10, 3) := by decide +kernel
theorem dX11_measure_148 : decode cX11_measure 148 = .ok (.aload_n 0, 1) := by decide +kernel
theorem dX11_measure_149 : decode cX11_measure 149 = .ok (.getfield 27, 3) := by decide +kernel
theorem dX11_measure_152 : decode cX11_measure 152 = .ok (.iload 7, 2) := by decide +kernel
theorem dX11_measure_154 : decode cX11_measure 154 = .ok (.iaload, 1) := by decide +kernel
theorem dX11_measure_155 : decode cX11_measure 155 = .ok (.iastore, 1) := by decide +kernel
theorem dX11_measure_156 : decode cX11_measure 156 = .ok (.aload_n 0, 1) := by decide +kernel
theorem dX11_measure_157 : decode cX11_measure 157 = .ok (.getfield 27, 3) := by decide +kernel
theorem dX11_measure_160 : decode cX11_measure 160 = .ok (.iload 8, 2) := by decide +kernel
theorem dX11_measure_162 : decode cX11_measure 162 = .ok (.aload_n 0, 1) := by decide +kernel
theorem dX11_measure_163 : decode cX11_measure 163 = .ok (.getfield 27, 3) := by decide +kernel
theorem dX11_measure_166 : decode cX11_measure 166 = .ok (.iload 7, 2) := by decide +kernel
theorem dX11_measure_168 : decode cX11_measure 168 = .ok (.iaload, 1) := by decide +kernel
theorem dX11_measure_169 : decode cX11_measure 169 = .ok (.iload 6, 2) := by decide +kernel
theorem dX11_measure_171 : decode cX11_measure 171 = .ok (.iadd, 1) := by decide +kernel
theorem dX11_measure_172 : decode cX11_measure 172 = .ok (.aload_n 0, 1) := by decide +kernel
theorem dX11_measure_173 : decode cX11_measure 173 = .ok (.getfield 27, 3) := by decide +kernel
theorem dX11_measure_176 : decode cX11_measure 176 = .ok (.iload 8, 2) := by decide +kernel
theorem dX11_measure_178 : decode cX11_measure 178 = .ok (.iaload, 1) := by decide +kernel
theorem dX11_measure_179 : decode cX11_measure 179 = .ok (.if_icmp .ge 16, 3) := by decide +kernel
theorem dX11_measure_182 : decode cX11_measure 182 = .ok (.aload_n 0, 1) := by decide +kernel
theorem dX11_measure_183 : decode cX11_measure 183 = .ok (.getfield 27, 3) := by decide +kernel
theorem dX11_measure_186 : decode cX11_measure 186 = .ok (.iload 7, 2) := by decide +kernel
theorem dX11_measure_188 : decode cX11_measure 188 = .ok (.iaload, 1) := by decide +kernel
theorem dX11_measure_189 : decode cX11_measure 189 = .ok (.iload 6, 2) := by decide +kernel
theorem dX11_measure_191 : decode cX11_measure 191 = .ok (.iadd, 1) := by decide +kernel
theorem dX11_measure_192 : decode cX11_measure 192 = .ok (.goto 10, 3) := by decide +kernel
theorem dX11_measure_195 : decode cX11_measure 195 = .ok (.aload_n 0, 1) := by decide +kernel
theorem dX11_measure_196 : decode cX11_measure 196 = .ok (.getfield 27, 3) := by decide +kernel
theorem dX11_measure_199 : decode cX11_measure 199 = .ok (.iload 8, 2) := by decide +kernel
theorem dX11_measure_201 : decode cX11_measure 201 = .ok (.iaload, 1) := by decide +kernel
theorem dX11_measure_202 : decode cX11_measure 202 = .ok (.iastore, 1) := by decide +kernel
theorem dX11_measure_203 : decode cX11_measure 203 = .ok (.iinc 5 1, 3) := by decide +kernel
theorem dX11_measure_206 : decode cX11_measure 206 = .ok (.goto (-158), 3) := by decide +kernel
theorem dX11_measure_209 : decode cX11_measure 209 = .ok (.iinc 4 1, 3) := by decide +kernel
theorem dX11_measure_212 : decode cX11_measure 212 = .ok (.goto (-174), 3) := by decide +kernel
theorem dX11_measure_215 : decode cX11_measure 215 = .ok (.return_, 1) := by decide +kernel
theorem dX11_all_0 : decode cX11_all 0 = .ok (.iconst 1, 1) := by decide +kernel
theorem dX11_all_1 : decode cX11_all 1 = .ok (.aload_n 0, 1) := by decide +kernel
theorem dX11_all_2 : decode cX11_all 2 = .ok (.getfield 7, 3) := by decide +kernel
theorem dX11_all_5 : decode cX11_all 5 = .ok (.iconst 4, 1) := by decide +kernel
theorem dX11_all_6 : decode cX11_all 6 = .ok (.iaload, 1) := by decide +kernel
theorem dX11_all_7 : decode cX11_all 7 = .ok (.ishl, 1) := by decide +kernel
theorem dX11_all_8 : decode cX11_all 8 = .ok (.iconst 1, 1) := by decide +kernel
theorem dX11_all_9 : decode cX11_all 9 = .ok (.isub, 1) := by decide +kernel
theorem dX11_all_10 : decode cX11_all 10 = .ok (.ireturn, 1) := by decide +kernel
theorem dX11_farOf_0 : decode cX11_farOf 0 = .ok (.aload_n 0, 1) := by decide +kernel
theorem dX11_farOf_1 : decode cX11_farOf 1 = .ok (.iload_n 1, 1) := by decide +kernel
theorem dX11_farOf_2 : decode cX11_farOf 2 = .ok (.aload_n 0, 1) := by decide +kernel
theorem dX11_farOf_3 : decode cX11_farOf 3 = .ok (.invokevirtual 69, 3) := by decide +kernel
theorem dX11_farOf_6 : decode cX11_farOf 6 = .ok (.iconst 0, 1) := by decide +kernel
theorem dX11_farOf_7 : decode cX11_farOf 7 = .ok (.invokevirtual 73, 3) := by decide +kernel
theorem dX11_farOf_10 : decode cX11_farOf 10 = .ok (.aload_n 0, 1) := by decide +kernel
theorem dX11_farOf_11 : decode cX11_farOf 11 = .ok (.getfield 27, 3) := by decide +kernel
theorem dX11_farOf_14 : decode cX11_farOf 14 = .ok (.iload_n 2, 1) := by decide +kernel
theorem dX11_farOf_15 : decode cX11_farOf 15 = .ok (.iaload, 1) := by decide +kernel
theorem dX11_farOf_16 : decode cX11_farOf 16 = .ok (.ldc 68, 2) := by decide +kernel
theorem dX11_farOf_18 : decode cX11_farOf 18 = .ok (.if_icmp .lt 8, 3) := by decide +kernel
theorem dX11_farOf_21 : decode cX11_farOf 21 = .ok (.bipush (-6), 2) := by decide +kernel
theorem dX11_farOf_23 : decode cX11_farOf 23 = .ok (.goto 9, 3) := by decide +kernel
theorem dX11_farOf_26 : decode cX11_farOf 26 = .ok (.aload_n 0, 1) := by decide +kernel
theorem dX11_farOf_27 : decode cX11_farOf 27 = .ok (.getfield 27, 3) := by decide +kernel
theorem dX11_farOf_30 : decode cX11_farOf 30 = .ok (.iload_n 2, 1) := by decide +kernel
theorem dX11_farOf_31 : decode cX11_farOf 31 = .ok (.iaload, 1) := by decide +kernel
theorem dX11_farOf_32 : decode cX11_farOf 32 = .ok (.ireturn, 1) := by decide +kernel
theorem dX11_far_0 : decode cX11_far 0 = .ok (.iload_n 1, 1) := by decide +kernel
theorem dX11_far_1 : decode cX11_far 1 = .ok (.invokestatic 51, 3) := by decide +kernel
theorem dX11_far_4 : decode cX11_far 4 = .ok (.ifCond .eq 19, 3) := by decide +kernel
theorem dX11_far_7 : decode cX11_far 7 = .ok (.iload_n 2, 1) := by decide +kernel
theorem dX11_far_8 : decode cX11_far 8 = .ok (.invokestatic 51, 3) := by decide +kernel
theorem dX11_far_11 : decode cX11_far 11 = .ok (.ifCond .eq 12, 3) := by decide +kernel
theorem dX11_far_14 : decode cX11_far 14 = .ok (.aload_n 0, 1) := by decide +kernel
theorem dX11_far_15 : decode cX11_far 15 = .ok (.iload_n 1, 1) := by decide +kernel
theorem dX11_far_16 : decode cX11_far 16 = .ok (.iload_n 2, 1) := by decide +kernel
theorem dX11_far_17 : decode cX11_far 17 = .ok (.invokevirtual 77, 3) := by decide +kernel
theorem dX11_far_20 : decode cX11_far 20 = .ok (.goto 4, 3) := by decide +kernel
theorem dX11_far_23 : decode cX11_far 23 = .ok (.iconst (-1), 1) := by decide +kernel
theorem dX11_far_24 : decode cX11_far 24 = .ok (.ireturn, 1) := by decide +kernel
theorem dX11_loud_0 : decode cX11_loud 0 = .ok (.aload_n 0, 1) := by decide +kernel
theorem dX11_loud_1 : decode cX11_loud 1 = .ok (.aload_n 0, 1) := by decide +kernel
theorem dX11_loud_2 : decode cX11_loud 2 = .ok (.iload_n 2, 1) := by decide +kernel
theorem dX11_loud_3 : decode cX11_loud 3 = .ok (.iconst 0, 1) := by decide +kernel
theorem dX11_loud_4 : decode cX11_loud 4 = .ok (.invokevirtual 80, 3) := by decide +kernel
theorem dX11_loud_7 : decode cX11_loud 7 = .ok (.aload_n 0, 1) := by decide +kernel
theorem dX11_loud_8 : decode cX11_loud 8 = .ok (.invokevirtual 69, 3) := by decide +kernel
theorem dX11_loud_11 : decode cX11_loud 11 = .ok (.iconst 0, 1) := by decide +kernel
theorem dX11_loud_12 : decode cX11_loud 12 = .ok (.invokevirtual 73, 3) := by decide +kernel
theorem dX11_loud_15 : decode cX11_loud 15 = .ok (.aload_n 0, 1) := by decide +kernel
theorem dX11_loud_16 : decode cX11_loud 16 = .ok (.getfield 27, 3) := by decide +kernel
theorem dX11_loud_19 : decode cX11_loud 19 = .ok (.aload_n 0, 1) := by decide +kernel
theorem dX11_loud_20 : decode cX11_loud 20 = .ok (.iload_n 1, 1) := by decide +kernel
theorem dX11_loud_21 : decode cX11_loud 21 = .ok (.iconst 0, 1) := by decide +kernel
theorem dX11_loud_22 : decode cX11_loud 22 = .ok (.invokevirtual 65, 3) := by decide +kernel
theorem dX11_loud_25 : decode cX11_loud 25 = .ok (.iaload, 1) := by decide +kernel
theorem dX11_loud_26 : decode cX11_loud 26 = .ok (.istore_n 3, 1) := by decide +kernel
theorem dX11_loud_27 : decode cX11_loud 27 = .ok (.aload_n 0, 1) := by decide +kernel
theorem dX11_loud_28 : decode cX11_loud 28 = .ok (.getfield 27, 3) := by decide +kernel
theorem dX11_loud_31 : decode cX11_loud 31 = .ok (.aload_n 0, 1) := by decide +kernel
theorem dX11_loud_32 : decode cX11_loud 32 = .ok (.iload_n 1, 1) := by decide +kernel
theorem dX11_loud_33 : decode cX11_loud 33 = .ok (.iconst 1, 1) := by decide +kernel
theorem dX11_loud_34 : decode cX11_loud 34 = .ok (.invokevirtual 65, 3) := by decide +kernel
theorem dX11_loud_37 : decode cX11_loud 37 = .ok (.iaload, 1) := by decide +kernel
theorem dX11_loud_38 : decode cX11_loud 38 = .ok (.istore 4, 2) := by decide +kernel
theorem dX11_loud_40 : decode cX11_loud 40 = .ok (.aload_n 0, 1) := by decide +kernel
theorem dX11_loud_41 : decode cX11_loud 41 = .ok (.iload_n 1, 1) := by decide +kernel
theorem dX11_loud_42 : decode cX11_loud 42 = .ok (.iconst 2, 1) := by decide +kernel
theorem dX11_loud_43 : decode cX11_loud 43 = .ok (.invokevirtual 65, 3) := by decide +kernel
theorem dX11_loud_46 : decode cX11_loud 46 = .ok (.iload_n 3, 1) := by decide +kernel
theorem dX11_loud_47 : decode cX11_loud 47 = .ok (.iload 4, 2) := by decide +kernel
theorem dX11_loud_49 : decode cX11_loud 49 = .ok (.if_icmp .ge 7, 3) := by decide +kernel
theorem dX11_loud_52 : decode cX11_loud 52 = .ok (.iload_n 3, 1) := by decide +kernel
theorem dX11_loud_53 : decode cX11_loud 53 = .ok (.goto 5, 3) := by decide +kernel
theorem dX11_loud_56 : decode cX11_loud 56 = .ok (.iload 4, 2) := by decide +kernel
theorem dX11_loud_58 : decode cX11_loud 58 = .ok (.isub, 1) := by decide +kernel
theorem dX11_loud_59 : decode cX11_loud 59 = .ok (.istore 5, 2) := by decide +kernel
theorem dX11_loud_61 : decode cX11_loud 61 = .ok (.iload 5, 2) := by decide +kernel
theorem dX11_loud_63 : decode cX11_loud 63 = .ok (.ifCond .ge 7, 3) := by decide +kernel
theorem dX11_loud_66 : decode cX11_loud 66 = .ok (.iconst 0, 1) := by decide +kernel
theorem dX11_loud_67 : decode cX11_loud 67 = .ok (.goto 5, 3) := by decide +kernel
theorem dX11_loud_70 : decode cX11_loud 70 = .ok (.iload 5, 2) := by decide +kernel
theorem dX11_loud_72 : decode cX11_loud 72 = .ok (.ireturn, 1) := by decide +kernel
theorem dX11_loudness_0 : decode cX11_loudness 0 = .ok (.aload_n 0, 1) := by decide +kernel
theorem dX11_loudness_1 : decode cX11_loudness 1 = .ok (.iload_n 1, 1) := by decide +kernel
theorem dX11_loudness_2 : decode cX11_loudness 2 = .ok (.invokevirtual 62, 3) := by decide +kernel
theorem dX11_loudness_5 : decode cX11_loudness 5 = .ok (.ifCond .eq 20, 3) := by decide +kernel
theorem dX11_loudness_8 : decode cX11_loudness 8 = .ok (.aload_n 0, 1) := by decide +kernel
theorem dX11_loudness_9 : decode cX11_loudness 9 = .ok (.iload_n 2, 1) := by decide +kernel
theorem dX11_loudness_10 : decode cX11_loudness 10 = .ok (.invokevirtual 83, 3) := by decide +kernel
theorem dX11_loudness_13 : decode cX11_loudness 13 = .ok (.ifCond .eq 12, 3) := by decide +kernel
theorem dX11_loudness_16 : decode cX11_loudness 16 = .ok (.aload_n 0, 1) := by decide +kernel
theorem dX11_loudness_17 : decode cX11_loudness 17 = .ok (.iload_n 1, 1) := by decide +kernel
theorem dX11_loudness_18 : decode cX11_loudness 18 = .ok (.iload_n 2, 1) := by decide +kernel
theorem dX11_loudness_19 : decode cX11_loudness 19 = .ok (.invokevirtual 86, 3) := by decide +kernel
theorem dX11_loudness_22 : decode cX11_loudness 22 = .ok (.goto 4, 3) := by decide +kernel
theorem dX11_loudness_25 : decode cX11_loudness 25 = .ok (.iconst (-1), 1) := by decide +kernel
theorem dX11_loudness_26 : decode cX11_loudness 26 = .ok (.ireturn, 1) := by decide +kernel
theorem dX11_sleeper_0 : decode cX11_sleeper 0 = .ok (.iload_n 1, 1) := by decide +kernel
theorem dX11_sleeper_1 : decode cX11_sleeper 1 = .ok (.invokestatic 51, 3) := by decide +kernel
theorem dX11_sleeper_4 : decode cX11_sleeper 4 = .ok (.ifCond .ne 5, 3) := by decide +kernel
theorem dX11_sleeper_7 : decode cX11_sleeper 7 = .ok (.iconst (-1), 1) := by decide +kernel
theorem dX11_sleeper_8 : decode cX11_sleeper 8 = .ok (.ireturn, 1) := by decide +kernel
theorem dX11_sleeper_9 : decode cX11_sleeper 9 = .ok (.iload_n 2, 1) := by decide +kernel
theorem dX11_sleeper_10 : decode cX11_sleeper 10 = .ok (.iconst 1, 1) := by decide +kernel
theorem dX11_sleeper_11 : decode cX11_sleeper 11 = .ok (.bipush 9, 2) := by decide +kernel
theorem dX11_sleeper_13 : decode cX11_sleeper 13 = .ok (.invokestatic 36, 3) := by decide +kernel
theorem dX11_sleeper_16 : decode cX11_sleeper 16 = .ok (.ifCond .ne 6, 3) := by decide +kernel
theorem dX11_sleeper_19 : decode cX11_sleeper 19 = .ok (.bipush (-2), 2) := by decide +kernel
theorem dX11_sleeper_21 : decode cX11_sleeper 21 = .ok (.ireturn, 1) := by decide +kernel
theorem dX11_sleeper_22 : decode cX11_sleeper 22 = .ok (.aload_n 0, 1) := by decide +kernel
theorem dX11_sleeper_23 : decode cX11_sleeper 23 = .ok (.getfield 7, 3) := by decide +kernel
theorem dX11_sleeper_26 : decode cX11_sleeper 26 = .ok (.iconst 5, 1) := by decide +kernel
theorem dX11_sleeper_27 : decode cX11_sleeper 27 = .ok (.iaload, 1) := by decide +kernel
theorem dX11_sleeper_28 : decode cX11_sleeper 28 = .ok (.iconst 5, 1) := by decide +kernel
theorem dX11_sleeper_29 : decode cX11_sleeper 29 = .ok (.if_icmp .ne 6, 3) := by decide +kernel
theorem dX11_sleeper_32 : decode cX11_sleeper 32 = .ok (.bipush (-4), 2) := by decide +kernel
theorem dX11_sleeper_34 : decode cX11_sleeper 34 = .ok (.ireturn, 1) := by decide +kernel
theorem dX11_sleeper_35 : decode cX11_sleeper 35 = .ok (.aload_n 0, 1) := by decide +kernel
theorem dX11_sleeper_36 : decode cX11_sleeper 36 = .ok (.invokevirtual 48, 3) := by decide +kernel
theorem dX11_sleeper_39 : decode cX11_sleeper 39 = .ok (.bipush 118, 2) := by decide +kernel
theorem dX11_sleeper_41 : decode cX11_sleeper 41 = .ok (.iconst 4, 1) := by decide +kernel
theorem dX11_sleeper_42 : decode cX11_sleeper 42 = .ok (.aload_n 0, 1) := by decide +kernel
theorem dX11_sleeper_43 : decode cX11_sleeper 43 = .ok (.getfield 7, 3) := by decide +kernel
theorem dX11_sleeper_46 : decode cX11_sleeper 46 = .ok (.iconst 5, 1) := by decide +kernel
theorem dX11_sleeper_47 : decode cX11_sleeper 47 = .ok (.iaload, 1) := by decide +kernel
theorem dX11_sleeper_48 : decode cX11_sleeper 48 = .ok (.imul, 1) := by decide +kernel
theorem dX11_sleeper_49 : decode cX11_sleeper 49 = .ok (.iadd, 1) := by decide +kernel
theorem dX11_sleeper_50 : decode cX11_sleeper 50 = .ok (.istore_n 3, 1) := by decide +kernel
theorem dX11_sleeper_51 : decode cX11_sleeper 51 = .ok (.aload_n 0, 1) := by decide +kernel
theorem dX11_sleeper_52 : decode cX11_sleeper 52 = .ok (.getfield 7, 3) := by decide +kernel
theorem dX11_sleeper_55 : decode cX11_sleeper 55 = .ok (.iload_n 3, 1) := by decide +kernel
theorem dX11_sleeper_56 : decode cX11_sleeper 56 = .ok (.iload_n 1, 1) := by decide +kernel
theorem dX11_sleeper_57 : decode cX11_sleeper 57 = .ok (.iastore, 1) := by decide +kernel
theorem dX11_sleeper_58 : decode cX11_sleeper 58 = .ok (.aload_n 0, 1) := by decide +kernel
theorem dX11_sleeper_59 : decode cX11_sleeper 59 = .ok (.getfield 7, 3) := by decide +kernel
theorem dX11_sleeper_62 : decode cX11_sleeper 62 = .ok (.iload_n 3, 1) := by decide +kernel
theorem dX11_sleeper_63 : decode cX11_sleeper 63 = .ok (.iconst 1, 1) := by decide +kernel
theorem dX11_sleeper_64 : decode cX11_sleeper 64 = .ok (.iadd, 1) := by decide +kernel
theorem dX11_sleeper_65 : decode cX11_sleeper 65 = .ok (.iload_n 2, 1) := by decide +kernel
theorem dX11_sleeper_66 : decode cX11_sleeper 66 = .ok (.iastore, 1) := by decide +kernel
theorem dX11_sleeper_67 : decode cX11_sleeper 67 = .ok (.aload_n 0, 1) := by decide +kernel
theorem dX11_sleeper_68 : decode cX11_sleeper 68 = .ok (.getfield 7, 3) := by decide +kernel
theorem dX11_sleeper_71 : decode cX11_sleeper 71 = .ok (.iload_n 3, 1) := by decide +kernel
theorem dX11_sleeper_72 : decode cX11_sleeper 72 = .ok (.iconst 2, 1) := by decide +kernel
theorem dX11_sleeper_73 : decode cX11_sleeper 73 = .ok (.iadd, 1) := by decide +kernel
theorem dX11_sleeper_74 : decode cX11_sleeper 74 = .ok (.iconst 0, 1) := by decide +kernel
theorem dX11_sleeper_75 : decode cX11_sleeper 75 = .ok (.iastore, 1) := by decide +kernel
theorem dX11_sleeper_76 : decode cX11_sleeper 76 = .ok (.aload_n 0, 1) := by decide +kernel
theorem dX11_sleeper_77 : decode cX11_sleeper 77 = .ok (.getfield 7, 3) := by decide +kernel
theorem dX11_sleeper_80 : decode cX11_sleeper 80 = .ok (.iload_n 3, 1) := by decide +kernel
theorem dX11_sleeper_81 : decode cX11_sleeper 81 = .ok (.iconst 3, 1) := by decide +kernel
theorem dX11_sleeper_82 : decode cX11_sleeper 82 = .ok (.iadd, 1) := by decide +kernel
theorem dX11_sleeper_83 : decode cX11_sleeper 83 = .ok (.iconst 0, 1) := by decide +kernel
theorem dX11_sleeper_84 : decode cX11_sleeper 84 = .ok (.iastore, 1) := by decide +kernel
theorem dX11_sleeper_85 : decode cX11_sleeper 85 = .ok (.aload_n 0, 1) := by decide +kernel
theorem dX11_sleeper_86 : decode cX11_sleeper 86 = .ok (.getfield 7, 3) := by decide +kernel
theorem dX11_sleeper_89 : decode cX11_sleeper 89 = .ok (.iconst 5, 1) := by decide +kernel
theorem dX11_sleeper_90 : decode cX11_sleeper 90 = .ok (.dup2, 1) := by decide +kernel
theorem dX11_sleeper_91 : decode cX11_sleeper 91 = .ok (.iaload, 1) := by decide +kernel
theorem dX11_sleeper_92 : decode cX11_sleeper 92 = .ok (.iconst 1, 1) := by decide +kernel
theorem dX11_sleeper_93 : decode cX11_sleeper 93 = .ok (.iadd, 1) := by decide +kernel
theorem dX11_sleeper_94 : decode cX11_sleeper 94 = .ok (.iastore, 1) := by decide +kernel
theorem dX11_sleeper_95 : decode cX11_sleeper 95 = .ok (.aload_n 0, 1) := by decide +kernel
theorem dX11_sleeper_96 : decode cX11_sleeper 96 = .ok (.getfield 7, 3) := by decide +kernel
theorem dX11_sleeper_99 : decode cX11_sleeper 99 = .ok (.iconst 5, 1) := by decide +kernel
theorem dX11_sleeper_100 : decode cX11_sleeper 100 = .ok (.iaload, 1) := by decide +kernel
theorem dX11_sleeper_101 : decode cX11_sleeper 101 = .ok (.iconst 1, 1) := by decide +kernel
theorem dX11_sleeper_102 : decode cX11_sleeper 102 = .ok (.isub, 1) := by decide +kernel
theorem dX11_sleeper_103 : decode cX11_sleeper 103 = .ok (.ireturn, 1) := by decide +kernel
theorem dX11_watched_0 : decode cX11_watched 0 = .ok (.iconst 0, 1) := by decide +kernel
theorem dX11_watched_1 : decode cX11_watched 1 = .ok (.istore_n 1, 1) := by decide +kernel
theorem dX11_watched_2 : decode cX11_watched 2 = .ok (.iconst 0, 1) := by decide +kernel
theorem dX11_watched_3 : decode cX11_watched 3 = .ok (.istore_n 2, 1) := by decide +kernel
theorem dX11_watched_4 : decode cX11_watched 4 = .ok (.iload_n 2, 1) := by decide +kernel
theorem dX11_watched_5 : decode cX11_watched 5 = .ok (.aload_n 0, 1) := by decide +kernel
theorem dX11_watched_6 : decode cX11_watched 6 = .ok (.getfield 7, 3) := by decide +kernel
theorem dX11_watched_9 : decode cX11_watched 9 = .ok (.iconst 5, 1) := by decide +kernel
theorem dX11_watched_10 : decode cX11_watched 10 = .ok (.iaload, 1) := by decide +kernel
theorem dX11_watched_11 : decode cX11_watched 11 = .ok (.if_icmp .ge 33, 3) := by decide +kernel
theorem dX11_watched_14 : decode cX11_watched 14 = .ok (.iload_n 1, 1) := by decide +kernel
theorem dX11_watched_15 : decode cX11_watched 15 = .ok (.aload_n 0, 1) := by decide +kernel
theorem dX11_watched_16 : decode cX11_watched 16 = .ok (.iload_n 2, 1) := by decide +kernel
theorem dX11_watched_17 : decode cX11_watched 17 = .ok (.iconst 2, 1) := by decide +kernel
theorem dX11_watched_18 : decode cX11_watched 18 = .ok (.invokevirtual 80, 3) := by decide +kernel
theorem dX11_watched_21 : decode cX11_watched 21 = .ok (.ifCond .le 14, 3) := by decide +kernel
theorem dX11_watched_24 : decode cX11_watched 24 = .ok (.iconst 1, 1) := by decide +kernel
theorem dX11_watched_25 : decode cX11_watched 25 = .ok (.aload_n 0, 1) := by decide +kernel
theorem dX11_watched_26 : decode cX11_watched 26 = .ok (.iload_n 2, 1) := by decide +kernel
theorem dX11_watched_27 : decode cX11_watched 27 = .ok (.iconst 0, 1) := by decide +kernel
theorem dX11_watched_28 : decode cX11_watched 28 = .ok (.invokevirtual 80, 3) := by decide +kernel
theorem dX11_watched_31 : decode cX11_watched 31 = .ok (.ishl, 1) := by decide +kernel
theorem dX11_watched_32 : decode cX11_watched 32 = .ok (.goto 4, 3) := by decide +kernel
theorem dX11_watched_35 : decode cX11_watched 35 = .ok (.iconst 0, 1) := by decide +kernel
theorem dX11_watched_36 : decode cX11_watched 36 = .ok (.ior, 1) := by decide +kernel
theorem dX11_watched_37 : decode cX11_watched 37 = .ok (.istore_n 1, 1) := by decide +kernel
theorem dX11_watched_38 : decode cX11_watched 38 = .ok (.iinc 2 1, 3) := by decide +kernel
theorem dX11_watched_41 : decode cX11_watched 41 = .ok (.goto (-37), 3) := by decide +kernel
theorem dX11_watched_44 : decode cX11_watched 44 = .ok (.iload_n 1, 1) := by decide +kernel
theorem dX11_watched_45 : decode cX11_watched 45 = .ok (.ireturn, 1) := by decide +kernel
theorem dX11_isFree_0 : decode cX11_isFree 0 = .ok (.aload_n 0, 1) := by decide +kernel
theorem dX11_isFree_1 : decode cX11_isFree 1 = .ok (.invokevirtual 89, 3) := by decide +kernel
theorem dX11_isFree_4 : decode cX11_isFree 4 = .ok (.istore_n 3, 1) := by decide +kernel
theorem dX11_isFree_5 : decode cX11_isFree 5 = .ok (.aload_n 0, 1) := by decide +kernel
theorem dX11_isFree_6 : decode cX11_isFree 6 = .ok (.iload_n 1, 1) := by decide +kernel
theorem dX11_isFree_7 : decode cX11_isFree 7 = .ok (.iload_n 2, 1) := by decide +kernel
theorem dX11_isFree_8 : decode cX11_isFree 8 = .ok (.invokevirtual 92, 3) := by decide +kernel
theorem dX11_isFree_11 : decode cX11_isFree 11 = .ok (.ifCond .ne 33, 3) := by decide +kernel
theorem dX11_isFree_14 : decode cX11_isFree 14 = .ok (.iload_n 3, 1) := by decide +kernel
theorem dX11_isFree_15 : decode cX11_isFree 15 = .ok (.aload_n 0, 1) := by decide +kernel
theorem dX11_isFree_16 : decode cX11_isFree 16 = .ok (.iload_n 2, 1) := by decide +kernel
theorem dX11_isFree_17 : decode cX11_isFree 17 = .ok (.iconst 0, 1) := by decide +kernel
theorem dX11_isFree_18 : decode cX11_isFree 18 = .ok (.invokevirtual 65, 3) := by decide +kernel
theorem dX11_isFree_21 : decode cX11_isFree 21 = .ok (.ishr, 1) := by decide +kernel
theorem dX11_isFree_22 : decode cX11_isFree 22 = .ok (.iconst 1, 1) := by decide +kernel
theorem dX11_isFree_23 : decode cX11_isFree 23 = .ok (.iand, 1) := by decide +kernel
theorem dX11_isFree_24 : decode cX11_isFree 24 = .ok (.ifCond .ne 20, 3) := by decide +kernel
theorem dX11_isFree_27 : decode cX11_isFree 27 = .ok (.iload_n 3, 1) := by decide +kernel
theorem dX11_isFree_28 : decode cX11_isFree 28 = .ok (.aload_n 0, 1) := by decide +kernel
theorem dX11_isFree_29 : decode cX11_isFree 29 = .ok (.iload_n 2, 1) := by decide +kernel
theorem dX11_isFree_30 : decode cX11_isFree 30 = .ok (.iconst 1, 1) := by decide +kernel
theorem dX11_isFree_31 : decode cX11_isFree 31 = .ok (.invokevirtual 65, 3) := by decide +kernel
theorem dX11_isFree_34 : decode cX11_isFree 34 = .ok (.ishr, 1) := by decide +kernel
theorem dX11_isFree_35 : decode cX11_isFree 35 = .ok (.iconst 1, 1) := by decide +kernel
theorem dX11_isFree_36 : decode cX11_isFree 36 = .ok (.iand, 1) := by decide +kernel
theorem dX11_isFree_37 : decode cX11_isFree 37 = .ok (.ifCond .ne 7, 3) := by decide +kernel
theorem dX11_isFree_40 : decode cX11_isFree 40 = .ok (.iconst 1, 1) := by decide +kernel
theorem dX11_isFree_41 : decode cX11_isFree 41 = .ok (.goto 4, 3) := by decide +kernel
theorem dX11_isFree_44 : decode cX11_isFree 44 = .ok (.iconst 0, 1) := by decide +kernel
theorem dX11_isFree_45 : decode cX11_isFree 45 = .ok (.ireturn, 1) := by decide +kernel
theorem dX11_freeTo_0 : decode cX11_freeTo 0 = .ok (.iconst 0, 1) := by decide +kernel
theorem dX11_freeTo_1 : decode cX11_freeTo 1 = .ok (.istore_n 2, 1) := by decide +kernel
theorem dX11_freeTo_2 : decode cX11_freeTo 2 = .ok (.iconst 0, 1) := by decide +kernel
theorem dX11_freeTo_3 : decode cX11_freeTo 3 = .ok (.istore_n 3, 1) := by decide +kernel
theorem dX11_freeTo_4 : decode cX11_freeTo 4 = .ok (.iload_n 3, 1) := by decide +kernel
theorem dX11_freeTo_5 : decode cX11_freeTo 5 = .ok (.aload_n 0, 1) := by decide +kernel
theorem dX11_freeTo_6 : decode cX11_freeTo 6 = .ok (.getfield 7, 3) := by decide +kernel
theorem dX11_freeTo_9 : decode cX11_freeTo 9 = .ok (.iconst 4, 1) := by decide +kernel
theorem dX11_freeTo_10 : decode cX11_freeTo 10 = .ok (.iaload, 1) := by decide +kernel
theorem dX11_freeTo_11 : decode cX11_freeTo 11 = .ok (.if_icmp .ge 28, 3) := by decide +kernel
theorem dX11_freeTo_14 : decode cX11_freeTo 14 = .ok (.iload_n 2, 1) := by decide +kernel
theorem dX11_freeTo_15 : decode cX11_freeTo 15 = .ok (.aload_n 0, 1) := by decide +kernel
theorem dX11_freeTo_16 : decode cX11_freeTo 16 = .ok (.iload_n 1, 1) := by decide +kernel
theorem dX11_freeTo_17 : decode cX11_freeTo 17 = .ok (.iload_n 3, 1) := by decide +kernel
theorem dX11_freeTo_18 : decode cX11_freeTo 18 = .ok (.invokevirtual 96, 3) := by decide +kernel
theorem dX11_freeTo_21 : decode cX11_freeTo 21 = .ok (.ifCond .eq 9, 3) := by decide +kernel
theorem dX11_freeTo_24 : decode cX11_freeTo 24 = .ok (.iconst 1, 1) := by decide +kernel
theorem dX11_freeTo_25 : decode cX11_freeTo 25 = .ok (.iload_n 3, 1) := by decide +kernel
theorem dX11_freeTo_26 : decode cX11_freeTo 26 = .ok (.ishl, 1) := by decide +kernel
theorem dX11_freeTo_27 : decode cX11_freeTo 27 = .ok (.goto 4, 3) := by decide +kernel
theorem dX11_freeTo_30 : decode cX11_freeTo 30 = .ok (.iconst 0, 1) := by decide +kernel
theorem dX11_freeTo_31 : decode cX11_freeTo 31 = .ok (.ior, 1) := by decide +kernel
theorem dX11_freeTo_32 : decode cX11_freeTo 32 = .ok (.istore_n 2, 1) := by decide +kernel
theorem dX11_freeTo_33 : decode cX11_freeTo 33 = .ok (.iinc 3 1, 3) := by decide +kernel
theorem dX11_freeTo_36 : decode cX11_freeTo 36 = .ok (.goto (-32), 3) := by decide +kernel
theorem dX11_freeTo_39 : decode cX11_freeTo 39 = .ok (.iload_n 2, 1) := by decide +kernel
theorem dX11_freeTo_40 : decode cX11_freeTo 40 = .ok (.ireturn, 1) := by decide +kernel
theorem dX11_creak_0 : decode cX11_creak 0 = .ok (.aload_n 0, 1) := by decide +kernel
theorem dX11_creak_1 : decode cX11_creak 1 = .ok (.getfield 7, 3) := by decide +kernel
theorem dX11_creak_4 : decode cX11_creak 4 = .ok (.bipush 6, 2) := by decide +kernel
theorem dX11_creak_6 : decode cX11_creak 6 = .ok (.iconst 5, 1) := by decide +kernel
theorem dX11_creak_7 : decode cX11_creak 7 = .ok (.iload_n 1, 1) := by decide +kernel
theorem dX11_creak_8 : decode cX11_creak 8 = .ok (.imul, 1) := by decide +kernel
theorem dX11_creak_9 : decode cX11_creak 9 = .ok (.iadd, 1) := by decide +kernel
theorem dX11_creak_10 : decode cX11_creak 10 = .ok (.iconst 4, 1) := by decide +kernel
theorem dX11_creak_11 : decode cX11_creak 11 = .ok (.iadd, 1) := by decide +kernel
theorem dX11_creak_12 : decode cX11_creak 12 = .ok (.dup2, 1) := by decide +kernel
theorem dX11_creak_13 : decode cX11_creak 13 = .ok (.iaload, 1) := by decide +kernel
theorem dX11_creak_14 : decode cX11_creak 14 = .ok (.iconst 1, 1) := by decide +kernel
theorem dX11_creak_15 : decode cX11_creak 15 = .ok (.iadd, 1) := by decide +kernel
theorem dX11_creak_16 : decode cX11_creak 16 = .ok (.iastore, 1) := by decide +kernel
theorem dX11_creak_17 : decode cX11_creak 17 = .ok (.iconst 0, 1) := by decide +kernel
theorem dX11_creak_18 : decode cX11_creak 18 = .ok (.istore_n 2, 1) := by decide +kernel
theorem dX11_creak_19 : decode cX11_creak 19 = .ok (.iconst 0, 1) := by decide +kernel
theorem dX11_creak_20 : decode cX11_creak 20 = .ok (.istore_n 3, 1) := by decide +kernel
theorem dX11_creak_21 : decode cX11_creak 21 = .ok (.iload_n 3, 1) := by decide +kernel
theorem dX11_creak_22 : decode cX11_creak 22 = .ok (.aload_n 0, 1) := by decide +kernel
theorem dX11_creak_23 : decode cX11_creak 23 = .ok (.getfield 7, 3) := by decide +kernel
theorem dX11_creak_26 : decode cX11_creak 26 = .ok (.iconst 5, 1) := by decide +kernel
theorem dX11_creak_27 : decode cX11_creak 27 = .ok (.iaload, 1) := by decide +kernel
theorem dX11_creak_28 : decode cX11_creak 28 = .ok (.if_icmp .ge 79, 3) := by decide +kernel
theorem dX11_creak_31 : decode cX11_creak 31 = .ok (.aload_n 0, 1) := by decide +kernel
theorem dX11_creak_32 : decode cX11_creak 32 = .ok (.iload_n 1, 1) := by decide +kernel
theorem dX11_creak_33 : decode cX11_creak 33 = .ok (.iload_n 3, 1) := by decide +kernel
theorem dX11_creak_34 : decode cX11_creak 34 = .ok (.invokevirtual 86, 3) := by decide +kernel
theorem dX11_creak_37 : decode cX11_creak 37 = .ok (.aload_n 0, 1) := by decide +kernel
theorem dX11_creak_38 : decode cX11_creak 38 = .ok (.iload_n 3, 1) := by decide +kernel
theorem dX11_creak_39 : decode cX11_creak 39 = .ok (.iconst 1, 1) := by decide +kernel
theorem dX11_creak_40 : decode cX11_creak 40 = .ok (.invokevirtual 80, 3) := by decide +kernel
theorem dX11_creak_43 : decode cX11_creak 43 = .ok (.if_icmp .lt 58, 3) := by decide +kernel
theorem dX11_creak_46 : decode cX11_creak 46 = .ok (.iload_n 2, 1) := by decide +kernel
theorem dX11_creak_47 : decode cX11_creak 47 = .ok (.iconst 1, 1) := by decide +kernel
theorem dX11_creak_48 : decode cX11_creak 48 = .ok (.iload_n 3, 1) := by decide +kernel
theorem dX11_creak_49 : decode cX11_creak 49 = .ok (.ishl, 1) := by decide +kernel
theorem dX11_creak_50 : decode cX11_creak 50 = .ok (.ior, 1) := by decide +kernel
theorem dX11_creak_51 : decode cX11_creak 51 = .ok (.istore_n 2, 1) := by decide +kernel
theorem dX11_creak_52 : decode cX11_creak 52 = .ok (.aload_n 0, 1) := by decide +kernel
theorem dX11_creak_53 : decode cX11_creak 53 = .ok (.getfield 7, 3) := by decide +kernel
theorem dX11_creak_56 : decode cX11_creak 56 = .ok (.bipush 118, 2) := by decide +kernel
theorem dX11_creak_58 : decode cX11_creak 58 = .ok (.iconst 4, 1) := by decide +kernel
theorem dX11_creak_59 : decode cX11_creak 59 = .ok (.iload_n 3, 1) := by decide +kernel
theorem dX11_creak_60 : decode cX11_creak 60 = .ok (.imul, 1) := by decide +kernel
theorem dX11_creak_61 : decode cX11_creak 61 = .ok (.iadd, 1) := by decide +kernel
theorem dX11_creak_62 : decode cX11_creak 62 = .ok (.iconst 3, 1) := by decide +kernel
theorem dX11_creak_63 : decode cX11_creak 63 = .ok (.iadd, 1) := by decide +kernel
theorem dX11_creak_64 : decode cX11_creak 64 = .ok (.dup2, 1) := by decide +kernel
theorem dX11_creak_65 : decode cX11_creak 65 = .ok (.iaload, 1) := by decide +kernel
theorem dX11_creak_66 : decode cX11_creak 66 = .ok (.aload_n 0, 1) := by decide +kernel
theorem dX11_creak_67 : decode cX11_creak 67 = .ok (.iload_n 3, 1) := by decide +kernel
theorem dX11_creak_68 : decode cX11_creak 68 = .ok (.iconst 2, 1) := by decide +kernel
theorem dX11_creak_69 : decode cX11_creak 69 = .ok (.invokevirtual 80, 3) := by decide +kernel
theorem dX11_creak_72 : decode cX11_creak 72 = .ok (.ifCond .ne 7, 3) := by decide +kernel
theorem dX11_creak_75 : decode cX11_creak 75 = .ok (.iconst 1, 1) := by decide +kernel
theorem dX11_creak_76 : decode cX11_creak 76 = .ok (.goto 4, 3) := by decide +kernel
theorem dX11_creak_79 : decode cX11_creak 79 = .ok (.iconst 0, 1) := by decide +kernel
theorem dX11_creak_80 : decode cX11_creak 80 = .ok (.iadd, 1) := by decide +kernel
theorem dX11_creak_81 : decode cX11_creak 81 = .ok (.iastore, 1) := by decide +kernel
theorem dX11_creak_82 : decode cX11_creak 82 = .ok (.aload_n 0, 1) := by decide +kernel
theorem dX11_creak_83 : decode cX11_creak 83 = .ok (.getfield 7, 3) := by decide +kernel
theorem dX11_creak_86 : decode cX11_creak 86 = .ok (.bipush 118, 2) := by decide +kernel
theorem dX11_creak_88 : decode cX11_creak 88 = .ok (.iconst 4, 1) := by decide +kernel
theorem dX11_creak_89 : decode cX11_creak 89 = .ok (.iload_n 3, 1) := by decide +kernel
theorem dX11_creak_90 : decode cX11_creak 90 = .ok (.imul, 1) := by decide +kernel
theorem dX11_creak_91 : decode cX11_creak 91 = .ok (.iadd, 1) := by decide +kernel
theorem dX11_creak_92 : decode cX11_creak 92 = .ok (.iconst 2, 1) := by decide +kernel
theorem dX11_creak_93 : decode cX11_creak 93 = .ok (.iadd, 1) := by decide +kernel
theorem dX11_creak_94 : decode cX11_creak 94 = .ok (.aload_n 0, 1) := by decide +kernel
theorem dX11_creak_95 : decode cX11_creak 95 = .ok (.getfield 7, 3) := by decide +kernel
theorem dX11_creak_98 : decode cX11_creak 98 = .ok (.iconst 1, 1) := by decide +kernel
theorem dX11_creak_99 : decode cX11_creak 99 = .ok (.iaload, 1) := by decide +kernel
theorem dX11_creak_100 : decode cX11_creak 100 = .ok (.iastore, 1) := by decide +kernel
theorem dX11_creak_101 : decode cX11_creak 101 = .ok (.iinc 3 1, 3) := by decide +kernel
theorem dX11_creak_104 : decode cX11_creak 104 = .ok (.goto (-83), 3) := by decide +kernel
theorem dX11_creak_107 : decode cX11_creak 107 = .ok (.iload_n 2, 1) := by decide +kernel
theorem dX11_creak_108 : decode cX11_creak 108 = .ok (.ireturn, 1) := by decide +kernel
theorem dX11_minutes_0 : decode cX11_minutes 0 = .ok (.iconst 0, 1) := by decide +kernel
theorem dX11_minutes_1 : decode cX11_minutes 1 = .ok (.istore_n 2, 1) := by decide +kernel
theorem dX11_minutes_2 : decode cX11_minutes 2 = .ok (.iconst 0, 1) := by decide +kernel
theorem dX11_minutes_3 : decode cX11_minutes 3 = .ok (.istore_n 3, 1) := by decide +kernel
theorem dX11_minutes_4 : decode cX11_minutes 4 = .ok (.iload_n 3, 1) := by decide +kernel
theorem dX11_minutes_5 : decode cX11_minutes 5 = .ok (.iload_n 1, 1) := by decide +kernel
theorem dX11_minutes_6 : decode cX11_minutes 6 = .ok (.if_icmp .ge 120, 3) := by decide +kernel
theorem dX11_minutes_9 : decode cX11_minutes 9 = .ok (.aload_n 0, 1) := by decide +kernel
theorem dX11_minutes_10 : decode cX11_minutes 10 = .ok (.getfield 7, 3) := by decide +kernel
theorem dX11_minutes_13 : decode cX11_minutes 13 = .ok (.iconst 2, 1) := by decide +kernel
theorem dX11_minutes_14 : decode cX11_minutes 14 = .ok (.dup2, 1) := by decide +kernel
theorem dX11_minutes_15 : decode cX11_minutes 15 = .ok (.iaload, 1) := by decide +kernel
theorem dX11_minutes_16 : decode cX11_minutes 16 = .ok (.iconst 1, 1) := by decide +kernel
theorem dX11_minutes_17 : decode cX11_minutes 17 = .ok (.iadd, 1) := by decide +kernel
theorem dX11_minutes_18 : decode cX11_minutes 18 = .ok (.iastore, 1) := by decide +kernel
theorem dX11_minutes_19 : decode cX11_minutes 19 = .ok (.iconst 0, 1) := by decide +kernel
theorem dX11_minutes_20 : decode cX11_minutes 20 = .ok (.istore 4, 2) := by decide +kernel
theorem dX11_minutes_22 : decode cX11_minutes 22 = .ok (.iload 4, 2) := by decide +kernel
theorem dX11_minutes_24 : decode cX11_minutes 24 = .ok (.aload_n 0, 1) := by decide +kernel
theorem dX11_minutes_25 : decode cX11_minutes 25 = .ok (.getfield 7, 3) := by decide +kernel
theorem dX11_minutes_28 : decode cX11_minutes 28 = .ok (.iconst 5, 1) := by decide +kernel
theorem dX11_minutes_29 : decode cX11_minutes 29 = .ok (.iaload, 1) := by decide +kernel
theorem dX11_minutes_30 : decode cX11_minutes 30 = .ok (.if_icmp .ge 41, 3) := by decide +kernel
theorem dX11_minutes_33 : decode cX11_minutes 33 = .ok (.aload_n 0, 1) := by decide +kernel
theorem dX11_minutes_34 : decode cX11_minutes 34 = .ok (.getfield 7, 3) := by decide +kernel
theorem dX11_minutes_37 : decode cX11_minutes 37 = .ok (.bipush 118, 2) := by decide +kernel
theorem dX11_minutes_39 : decode cX11_minutes 39 = .ok (.iconst 4, 1) := by decide +kernel
theorem dX11_minutes_40 : decode cX11_minutes 40 = .ok (.iload 4, 2) := by decide +kernel
theorem dX11_minutes_42 : decode cX11_minutes 42 = .ok (.imul, 1) := by decide +kernel
theorem dX11_minutes_43 : decode cX11_minutes 43 = .ok (.iadd, 1) := by decide +kernel
theorem dX11_minutes_44 : decode cX11_minutes 44 = .ok (.iconst 2, 1) := by decide +kernel
theorem dX11_minutes_45 : decode cX11_minutes 45 = .ok (.iadd, 1) := by decide +kernel
theorem dX11_minutes_46 : decode cX11_minutes 46 = .ok (.dup2, 1) := by decide +kernel
theorem dX11_minutes_47 : decode cX11_minutes 47 = .ok (.iaload, 1) := by decide +kernel
theorem dX11_minutes_48 : decode cX11_minutes 48 = .ok (.aload_n 0, 1) := by decide +kernel
theorem dX11_minutes_49 : decode cX11_minutes 49 = .ok (.iload 4, 2) := by decide +kernel
theorem dX11_minutes_51 : decode cX11_minutes 51 = .ok (.iconst 2, 1) := by decide +kernel
theorem dX11_minutes_52 : decode cX11_minutes 52 = .ok (.invokevirtual 80, 3) := by decide +kernel
theorem dX11_minutes_55 : decode cX11_minutes 55 = .ok (.ifCond .le 7, 3) := by decide +kernel
theorem dX11_minutes_58 : decode cX11_minutes 58 = .ok (.iconst 1, 1) := by decide +kernel
theorem dX11_minutes_59 : decode cX11_minutes 59 = .ok (.goto 4, 3) := by decide +kernel
theorem dX11_minutes_62 : decode cX11_minutes 62 = .ok (.iconst 0, 1) := by decide +kernel
theorem dX11_minutes_63 : decode cX11_minutes 63 = .ok (.isub, 1) := by decide +kernel
theorem dX11_minutes_64 : decode cX11_minutes 64 = .ok (.iastore, 1) := by decide +kernel
theorem dX11_minutes_65 : decode cX11_minutes 65 = .ok (.iinc 4 1, 3) := by decide +kernel
theorem dX11_minutes_68 : decode cX11_minutes 68 = .ok (.goto (-46), 3) := by decide +kernel
theorem dX11_minutes_71 : decode cX11_minutes 71 = .ok (.aload_n 0, 1) := by decide +kernel
theorem dX11_minutes_72 : decode cX11_minutes 72 = .ok (.getfield 7, 3) := by decide +kernel
theorem dX11_minutes_75 : decode cX11_minutes 75 = .ok (.iconst 2, 1) := by decide +kernel
theorem dX11_minutes_76 : decode cX11_minutes 76 = .ok (.iaload, 1) := by decide +kernel
theorem dX11_minutes_77 : decode cX11_minutes 77 = .ok (.aload_n 0, 1) := by decide +kernel
theorem dX11_minutes_78 : decode cX11_minutes 78 = .ok (.getfield 7, 3) := by decide +kernel
theorem dX11_minutes_81 : decode cX11_minutes 81 = .ok (.iconst 0, 1) := by decide +kernel
theorem dX11_minutes_82 : decode cX11_minutes 82 = .ok (.iaload, 1) := by decide +kernel
theorem dX11_minutes_83 : decode cX11_minutes 83 = .ok (.irem, 1) := by decide +kernel
theorem dX11_minutes_84 : decode cX11_minutes 84 = .ok (.ifCond .ne 36, 3) := by decide +kernel
theorem dX11_minutes_87 : decode cX11_minutes 87 = .ok (.iinc 2 1, 3) := by decide +kernel
theorem dX11_minutes_90 : decode cX11_minutes 90 = .ok (.iconst 0, 1) := by decide +kernel
theorem dX11_minutes_91 : decode cX11_minutes 91 = .ok (.istore 4, 2) := by decide +kernel
theorem dX11_minutes_93 : decode cX11_minutes 93 = .ok (.iload 4, 2) := by decide +kernel
theorem dX11_minutes_95 : decode cX11_minutes 95 = .ok (.iconst 4, 1) := by decide +kernel
theorem dX11_minutes_96 : decode cX11_minutes 96 = .ok (.if_icmp .ge 24, 3) := by decide +kernel
theorem dX11_minutes_99 : decode cX11_minutes 99 = .ok (.aload_n 0, 1) := by decide +kernel
theorem dX11_minutes_100 : decode cX11_minutes 100 = .ok (.getfield 7, 3) := by decide +kernel
theorem dX11_minutes_103 : decode cX11_minutes 103 = .ok (.bipush 106, 2) := by decide +kernel
theorem dX11_minutes_105 : decode cX11_minutes 105 = .ok (.iconst 3, 1) := by decide +kernel
theorem dX11_minutes_106 : decode cX11_minutes 106 = .ok (.iload 4, 2) := by decide +kernel
theorem dX11_minutes_108 : decode cX11_minutes 108 = .ok (.imul, 1) := by decide +kernel
theorem dX11_minutes_109 : decode cX11_minutes 109 = .ok (.iadd, 1) := by decide +kernel
theorem dX11_minutes_110 : decode cX11_minutes 110 = .ok (.iconst 1, 1) := by decide +kernel
theorem dX11_minutes_111 : decode cX11_minutes 111 = .ok (.iadd, 1) := by decide +kernel
theorem dX11_minutes_112 : decode cX11_minutes 112 = .ok (.iconst 0, 1) := by decide +kernel
theorem dX11_minutes_113 : decode cX11_minutes 113 = .ok (.iastore, 1) := by decide +kernel
theorem dX11_minutes_114 : decode cX11_minutes 114 = .ok (.iinc 4 1, 3) := by decide +kernel
theorem dX11_minutes_117 : decode cX11_minutes 117 = .ok (.goto (-24), 3) := by decide +kernel
theorem dX11_minutes_120 : decode cX11_minutes 120 = .ok (.iinc 3 1, 3) := by decide +kernel
theorem dX11_minutes_123 : decode cX11_minutes 123 = .ok (.goto (-119), 3) := by decide +kernel
theorem dX11_minutes_126 : decode cX11_minutes 126 = .ok (.aload_n 0, 1) := by decide +kernel
theorem dX11_minutes_127 : decode cX11_minutes 127 = .ok (.getfield 7, 3) := by decide +kernel
theorem dX11_minutes_130 : decode cX11_minutes 130 = .ok (.iconst 3, 1) := by decide +kernel
theorem dX11_minutes_131 : decode cX11_minutes 131 = .ok (.dup2, 1) := by decide +kernel
theorem dX11_minutes_132 : decode cX11_minutes 132 = .ok (.iaload, 1) := by decide +kernel
theorem dX11_minutes_133 : decode cX11_minutes 133 = .ok (.iload_n 2, 1) := by decide +kernel
theorem dX11_minutes_134 : decode cX11_minutes 134 = .ok (.iadd, 1) := by decide +kernel
theorem dX11_minutes_135 : decode cX11_minutes 135 = .ok (.iastore, 1) := by decide +kernel
theorem dX11_minutes_136 : decode cX11_minutes 136 = .ok (.iload_n 2, 1) := by decide +kernel
theorem dX11_minutes_137 : decode cX11_minutes 137 = .ok (.ireturn, 1) := by decide +kernel
theorem dX11_pass_0 : decode cX11_pass 0 = .ok (.iload_n 1, 1) := by decide +kernel
theorem dX11_pass_1 : decode cX11_pass 1 = .ok (.iconst 1, 1) := by decide +kernel
theorem dX11_pass_2 : decode cX11_pass 2 = .ok (.sipush 200, 3) := by decide +kernel
theorem dX11_pass_5 : decode cX11_pass 5 = .ok (.invokestatic 36, 3) := by decide +kernel
theorem dX11_pass_8 : decode cX11_pass 8 = .ok (.ifCond .ne 6, 3) := by decide +kernel
theorem dX11_pass_11 : decode cX11_pass 11 = .ok (.bipush (-2), 2) := by decide +kernel
theorem dX11_pass_13 : decode cX11_pass 13 = .ok (.ireturn, 1) := by decide +kernel
theorem dX11_pass_14 : decode cX11_pass 14 = .ok (.aload_n 0, 1) := by decide +kernel
theorem dX11_pass_15 : decode cX11_pass 15 = .ok (.getfield 7, 3) := by decide +kernel
theorem dX11_pass_18 : decode cX11_pass 18 = .ok (.iconst 2, 1) := by decide +kernel
theorem dX11_pass_19 : decode cX11_pass 19 = .ok (.iaload, 1) := by decide +kernel
theorem dX11_pass_20 : decode cX11_pass 20 = .ok (.iload_n 1, 1) := by decide +kernel
theorem dX11_pass_21 : decode cX11_pass 21 = .ok (.iadd, 1) := by decide +kernel
theorem dX11_pass_22 : decode cX11_pass 22 = .ok (.ldc 99, 2) := by decide +kernel
theorem dX11_pass_24 : decode cX11_pass 24 = .ok (.if_icmp .le 6, 3) := by decide +kernel
theorem dX11_pass_27 : decode cX11_pass 27 = .ok (.bipush (-4), 2) := by decide +kernel
theorem dX11_pass_29 : decode cX11_pass 29 = .ok (.ireturn, 1) := by decide +kernel
theorem dX11_pass_30 : decode cX11_pass 30 = .ok (.aload_n 0, 1) := by decide +kernel
theorem dX11_pass_31 : decode cX11_pass 31 = .ok (.invokevirtual 48, 3) := by decide +kernel
theorem dX11_pass_34 : decode cX11_pass 34 = .ok (.aload_n 0, 1) := by decide +kernel
theorem dX11_pass_35 : decode cX11_pass 35 = .ok (.iload_n 1, 1) := by decide +kernel
theorem dX11_pass_36 : decode cX11_pass 36 = .ok (.invokevirtual 100, 3) := by decide +kernel
theorem dX11_pass_39 : decode cX11_pass 39 = .ok (.ireturn, 1) := by decide +kernel
theorem dX11_put_0 : decode cX11_put 0 = .ok (.iload_n 1, 1) := by decide +kernel
theorem dX11_put_1 : decode cX11_put 1 = .ok (.invokestatic 104, 3) := by decide +kernel
theorem dX11_put_4 : decode cX11_put 4 = .ok (.ifCond .eq 10, 3) := by decide +kernel
theorem dX11_put_7 : decode cX11_put 7 = .ok (.iload_n 2, 1) := by decide +kernel
theorem dX11_put_8 : decode cX11_put 8 = .ok (.invokestatic 51, 3) := by decide +kernel
theorem dX11_put_11 : decode cX11_put 11 = .ok (.ifCond .ne 5, 3) := by decide +kernel
theorem dX11_put_14 : decode cX11_put 14 = .ok (.iconst (-1), 1) := by decide +kernel
theorem dX11_put_15 : decode cX11_put 15 = .ok (.ireturn, 1) := by decide +kernel
theorem dX11_put_16 : decode cX11_put 16 = .ok (.aload_n 0, 1) := by decide +kernel
theorem dX11_put_17 : decode cX11_put 17 = .ok (.invokevirtual 48, 3) := by decide +kernel
theorem dX11_put_20 : decode cX11_put 20 = .ok (.aload_n 0, 1) := by decide +kernel
theorem dX11_put_21 : decode cX11_put 21 = .ok (.iload_n 1, 1) := by decide +kernel
theorem dX11_put_22 : decode cX11_put 22 = .ok (.invokevirtual 107, 3) := by decide +kernel
theorem dX11_put_25 : decode cX11_put 25 = .ok (.istore_n 3, 1) := by decide +kernel
theorem dX11_put_26 : decode cX11_put 26 = .ok (.aload_n 0, 1) := by decide +kernel
theorem dX11_put_27 : decode cX11_put 27 = .ok (.getfield 7, 3) := by decide +kernel
theorem dX11_put_30 : decode cX11_put 30 = .ok (.bipush 106, 2) := by decide +kernel
theorem dX11_put_32 : decode cX11_put 32 = .ok (.iconst 3, 1) := by decide +kernel
theorem dX11_put_33 : decode cX11_put 33 = .ok (.iload_n 1, 1) := by decide +kernel
theorem dX11_put_34 : decode cX11_put 34 = .ok (.imul, 1) := by decide +kernel
theorem dX11_put_35 : decode cX11_put 35 = .ok (.iadd, 1) := by decide +kernel
theorem dX11_put_36 : decode cX11_put 36 = .ok (.iload_n 2, 1) := by decide +kernel
theorem dX11_put_37 : decode cX11_put 37 = .ok (.iastore, 1) := by decide +kernel
theorem dX11_put_38 : decode cX11_put 38 = .ok (.iload_n 3, 1) := by decide +kernel
theorem dX11_put_39 : decode cX11_put 39 = .ok (.ireturn, 1) := by decide +kernel
theorem dX11_glides_0 : decode cX11_glides 0 = .ok (.aload_n 0, 1) := by decide +kernel
theorem dX11_glides_1 : decode cX11_glides 1 = .ok (.iload_n 2, 1) := by decide +kernel
theorem dX11_glides_2 : decode cX11_glides 2 = .ok (.aload_n 0, 1) := by decide +kernel
theorem dX11_glides_3 : decode cX11_glides 3 = .ok (.iload_n 1, 1) := by decide +kernel
theorem dX11_glides_4 : decode cX11_glides 4 = .ok (.invokevirtual 107, 3) := by decide +kernel
theorem dX11_glides_7 : decode cX11_glides 7 = .ok (.invokevirtual 110, 3) := by decide +kernel
theorem dX11_glides_10 : decode cX11_glides 10 = .ok (.istore_n 3, 1) := by decide +kernel
theorem dX11_glides_11 : decode cX11_glides 11 = .ok (.aload_n 0, 1) := by decide +kernel
theorem dX11_glides_12 : decode cX11_glides 12 = .ok (.iload_n 2, 1) := by decide +kernel
theorem dX11_glides_13 : decode cX11_glides 13 = .ok (.invokevirtual 113, 3) := by decide +kernel
theorem dX11_glides_16 : decode cX11_glides 16 = .ok (.istore 4, 2) := by decide +kernel
theorem dX11_glides_18 : decode cX11_glides 18 = .ok (.aload_n 0, 1) := by decide +kernel
theorem dX11_glides_19 : decode cX11_glides 19 = .ok (.aload_n 0, 1) := by decide +kernel
theorem dX11_glides_20 : decode cX11_glides 20 = .ok (.iload_n 2, 1) := by decide +kernel
theorem dX11_glides_21 : decode cX11_glides 21 = .ok (.iconst 3, 1) := by decide +kernel
theorem dX11_glides_22 : decode cX11_glides 22 = .ok (.invokevirtual 65, 3) := by decide +kernel
theorem dX11_glides_25 : decode cX11_glides 25 = .ok (.invokevirtual 100, 3) := by decide +kernel
theorem dX11_glides_28 : decode cX11_glides 28 = .ok (.pop, 1) := by decide +kernel
theorem dX11_glides_29 : decode cX11_glides 29 = .ok (.aload_n 0, 1) := by decide +kernel
theorem dX11_glides_30 : decode cX11_glides 30 = .ok (.getfield 7, 3) := by decide +kernel
theorem dX11_glides_33 : decode cX11_glides 33 = .ok (.bipush 106, 2) := by decide +kernel
theorem dX11_glides_35 : decode cX11_glides 35 = .ok (.iconst 3, 1) := by decide +kernel
theorem dX11_glides_36 : decode cX11_glides 36 = .ok (.iload_n 1, 1) := by decide +kernel
theorem dX11_glides_37 : decode cX11_glides 37 = .ok (.imul, 1) := by decide +kernel
theorem dX11_glides_38 : decode cX11_glides 38 = .ok (.iadd, 1) := by decide +kernel
theorem dX11_glides_39 : decode cX11_glides 39 = .ok (.iload_n 3, 1) := by decide +kernel
theorem dX11_glides_40 : decode cX11_glides 40 = .ok (.iastore, 1) := by decide +kernel
theorem dX11_glides_41 : decode cX11_glides 41 = .ok (.aload_n 0, 1) := by decide +kernel
theorem dX11_glides_42 : decode cX11_glides 42 = .ok (.getfield 7, 3) := by decide +kernel
theorem dX11_glides_45 : decode cX11_glides 45 = .ok (.bipush 106, 2) := by decide +kernel
theorem dX11_glides_47 : decode cX11_glides 47 = .ok (.iconst 3, 1) := by decide +kernel
theorem dX11_glides_48 : decode cX11_glides 48 = .ok (.iload_n 1, 1) := by decide +kernel
theorem dX11_glides_49 : decode cX11_glides 49 = .ok (.imul, 1) := by decide +kernel
theorem dX11_glides_50 : decode cX11_glides 50 = .ok (.iadd, 1) := by decide +kernel
theorem dX11_glides_51 : decode cX11_glides 51 = .ok (.iconst 1, 1) := by decide +kernel
theorem dX11_glides_52 : decode cX11_glides 52 = .ok (.iadd, 1) := by decide +kernel
theorem dX11_glides_53 : decode cX11_glides 53 = .ok (.dup2, 1) := by decide +kernel
theorem dX11_glides_54 : decode cX11_glides 54 = .ok (.iaload, 1) := by decide +kernel
theorem dX11_glides_55 : decode cX11_glides 55 = .ok (.iconst 1, 1) := by decide +kernel
theorem dX11_glides_56 : decode cX11_glides 56 = .ok (.iload_n 2, 1) := by decide +kernel
theorem dX11_glides_57 : decode cX11_glides 57 = .ok (.ishl, 1) := by decide +kernel
theorem dX11_glides_58 : decode cX11_glides 58 = .ok (.ior, 1) := by decide +kernel
theorem dX11_glides_59 : decode cX11_glides 59 = .ok (.iastore, 1) := by decide +kernel
theorem dX11_glides_60 : decode cX11_glides 60 = .ok (.aload_n 0, 1) := by decide +kernel
theorem dX11_glides_61 : decode cX11_glides 61 = .ok (.getfield 7, 3) := by decide +kernel
theorem dX11_glides_64 : decode cX11_glides 64 = .ok (.bipush 106, 2) := by decide +kernel
theorem dX11_glides_66 : decode cX11_glides 66 = .ok (.iconst 3, 1) := by decide +kernel
theorem dX11_glides_67 : decode cX11_glides 67 = .ok (.iload_n 1, 1) := by decide +kernel
theorem dX11_glides_68 : decode cX11_glides 68 = .ok (.imul, 1) := by decide +kernel
theorem dX11_glides_69 : decode cX11_glides 69 = .ok (.iadd, 1) := by decide +kernel
theorem dX11_glides_70 : decode cX11_glides 70 = .ok (.iconst 2, 1) := by decide +kernel
theorem dX11_glides_71 : decode cX11_glides 71 = .ok (.iadd, 1) := by decide +kernel
theorem dX11_glides_72 : decode cX11_glides 72 = .ok (.dup2, 1) := by decide +kernel
theorem dX11_glides_73 : decode cX11_glides 73 = .ok (.iaload, 1) := by decide +kernel
theorem dX11_glides_74 : decode cX11_glides 74 = .ok (.iconst 1, 1) := by decide +kernel
theorem dX11_glides_75 : decode cX11_glides 75 = .ok (.iadd, 1) := by decide +kernel
theorem dX11_glides_76 : decode cX11_glides 76 = .ok (.iastore, 1) := by decide +kernel
theorem dX11_glides_77 : decode cX11_glides 77 = .ok (.iload 4, 2) := by decide +kernel
theorem dX11_glides_79 : decode cX11_glides 79 = .ok (.ireturn, 1) := by decide +kernel
theorem dX11_glide_0 : decode cX11_glide 0 = .ok (.iload_n 1, 1) := by decide +kernel
theorem dX11_glide_1 : decode cX11_glide 1 = .ok (.invokestatic 104, 3) := by decide +kernel
theorem dX11_glide_4 : decode cX11_glide 4 = .ok (.ifCond .eq 11, 3) := by decide +kernel
theorem dX11_glide_7 : decode cX11_glide 7 = .ok (.aload_n 0, 1) := by decide +kernel
theorem dX11_glide_8 : decode cX11_glide 8 = .ok (.iload_n 2, 1) := by decide +kernel
theorem dX11_glide_9 : decode cX11_glide 9 = .ok (.invokevirtual 62, 3) := by decide +kernel
theorem dX11_glide_12 : decode cX11_glide 12 = .ok (.ifCond .ne 5, 3) := by decide +kernel
theorem dX11_glide_15 : decode cX11_glide 15 = .ok (.iconst (-1), 1) := by decide +kernel
theorem dX11_glide_16 : decode cX11_glide 16 = .ok (.ireturn, 1) := by decide +kernel
theorem dX11_glide_17 : decode cX11_glide 17 = .ok (.aload_n 0, 1) := by decide +kernel
theorem dX11_glide_18 : decode cX11_glide 18 = .ok (.iload_n 2, 1) := by decide +kernel
theorem dX11_glide_19 : decode cX11_glide 19 = .ok (.aload_n 0, 1) := by decide +kernel
theorem dX11_glide_20 : decode cX11_glide 20 = .ok (.iload_n 1, 1) := by decide +kernel
theorem dX11_glide_21 : decode cX11_glide 21 = .ok (.invokevirtual 107, 3) := by decide +kernel
theorem dX11_glide_24 : decode cX11_glide 24 = .ok (.invokevirtual 116, 3) := by decide +kernel
theorem dX11_glide_27 : decode cX11_glide 27 = .ok (.ifCond .eq 12, 3) := by decide +kernel
theorem dX11_glide_30 : decode cX11_glide 30 = .ok (.aload_n 0, 1) := by decide +kernel
theorem dX11_glide_31 : decode cX11_glide 31 = .ok (.iload_n 1, 1) := by decide +kernel
theorem dX11_glide_32 : decode cX11_glide 32 = .ok (.iload_n 2, 1) := by decide +kernel
theorem dX11_glide_33 : decode cX11_glide 33 = .ok (.invokevirtual 96, 3) := by decide +kernel
theorem dX11_glide_36 : decode cX11_glide 36 = .ok (.ifCond .ne 6, 3) := by decide +kernel
theorem dX11_glide_39 : decode cX11_glide 39 = .ok (.bipush (-5), 2) := by decide +kernel
theorem dX11_glide_41 : decode cX11_glide 41 = .ok (.ireturn, 1) := by decide +kernel
theorem dX11_glide_42 : decode cX11_glide 42 = .ok (.aload_n 0, 1) := by decide +kernel
theorem dX11_glide_43 : decode cX11_glide 43 = .ok (.invokevirtual 48, 3) := by decide +kernel
theorem dX11_glide_46 : decode cX11_glide 46 = .ok (.aload_n 0, 1) := by decide +kernel
theorem dX11_glide_47 : decode cX11_glide 47 = .ok (.iload_n 1, 1) := by decide +kernel
theorem dX11_glide_48 : decode cX11_glide 48 = .ok (.iload_n 2, 1) := by decide +kernel
theorem dX11_glide_49 : decode cX11_glide 49 = .ok (.invokevirtual 119, 3) := by decide +kernel
theorem dX11_glide_52 : decode cX11_glide 52 = .ok (.ireturn, 1) := by decide +kernel
theorem dX11_findWay_0 : decode cX11_findWay 0 = .ok (.aload_n 0, 1) := by decide +kernel
theorem dX11_findWay_1 : decode cX11_findWay 1 = .ok (.iload_n 1, 1) := by decide +kernel
theorem dX11_findWay_2 : decode cX11_findWay 2 = .ok (.invokevirtual 122, 3) := by decide +kernel
theorem dX11_findWay_5 : decode cX11_findWay 5 = .ok (.istore_n 3, 1) := by decide +kernel
theorem dX11_findWay_6 : decode cX11_findWay 6 = .ok (.aload_n 0, 1) := by decide +kernel
theorem dX11_findWay_7 : decode cX11_findWay 7 = .ok (.iload_n 2, 1) := by decide +kernel
theorem dX11_findWay_8 : decode cX11_findWay 8 = .ok (.iload_n 3, 1) := by decide +kernel
theorem dX11_findWay_9 : decode cX11_findWay 9 = .ok (.iconst 1, 1) := by decide +kernel
theorem dX11_findWay_10 : decode cX11_findWay 10 = .ok (.invokevirtual 73, 3) := by decide +kernel
theorem dX11_findWay_13 : decode cX11_findWay 13 = .ok (.aload_n 0, 1) := by decide +kernel
theorem dX11_findWay_14 : decode cX11_findWay 14 = .ok (.iload_n 1, 1) := by decide +kernel
theorem dX11_findWay_15 : decode cX11_findWay 15 = .ok (.invokevirtual 107, 3) := by decide +kernel
theorem dX11_findWay_18 : decode cX11_findWay 18 = .ok (.istore 4, 2) := by decide +kernel
theorem dX11_findWay_20 : decode cX11_findWay 20 = .ok (.aload_n 0, 1) := by decide +kernel
theorem dX11_findWay_21 : decode cX11_findWay 21 = .ok (.aload_n 0, 1) := by decide +kernel
theorem dX11_findWay_22 : decode cX11_findWay 22 = .ok (.getfield 27, 3) := by decide +kernel
theorem dX11_findWay_25 : decode cX11_findWay 25 = .ok (.iload 4, 2) := by decide +kernel
theorem dX11_findWay_27 : decode cX11_findWay 27 = .ok (.iaload, 1) := by decide +kernel
theorem dX11_findWay_28 : decode cX11_findWay 28 = .ok (.ldc 68, 2) := by decide +kernel
theorem dX11_findWay_30 : decode cX11_findWay 30 = .ok (.if_icmp .lt 8, 3) := by decide +kernel
theorem dX11_findWay_33 : decode cX11_findWay 33 = .ok (.bipush (-6), 2) := by decide +kernel
theorem dX11_findWay_35 : decode cX11_findWay 35 = .ok (.goto 4, 3) := by decide +kernel
theorem dX11_findWay_38 : decode cX11_findWay 38 = .ok (.iconst 0, 1) := by decide +kernel
theorem dX11_findWay_39 : decode cX11_findWay 39 = .ok (.putfield 125, 3) := by decide +kernel
theorem dX11_findWay_42 : decode cX11_findWay 42 = .ok (.aload_n 0, 1) := by decide +kernel
theorem dX11_findWay_43 : decode cX11_findWay 43 = .ok (.iconst 0, 1) := by decide +kernel
theorem dX11_findWay_44 : decode cX11_findWay 44 = .ok (.putfield 128, 3) := by decide +kernel
theorem dX11_findWay_47 : decode cX11_findWay 47 = .ok (.aload_n 0, 1) := by decide +kernel
theorem dX11_findWay_48 : decode cX11_findWay 48 = .ok (.getfield 125, 3) := by decide +kernel
theorem dX11_findWay_51 : decode cX11_findWay 51 = .ok (.bipush (-6), 2) := by decide +kernel
theorem dX11_findWay_53 : decode cX11_findWay 53 = .ok (.if_icmp .eq 162, 3) := by decide +kernel
theorem dX11_findWay_56 : decode cX11_findWay 56 = .ok (.iload 4, 2) := by decide +kernel
theorem dX11_findWay_58 : decode cX11_findWay 58 = .ok (.iload_n 2, 1) := by decide +kernel
theorem dX11_findWay_59 : decode cX11_findWay 59 = .ok (.if_icmp .eq 156, 3) := by decide +kernel
theorem dX11_findWay_62 : decode cX11_findWay 62 = .ok (.bipush (-6), 2) := by decide +kernel
theorem dX11_findWay_64 : decode cX11_findWay 64 = .ok (.istore 5, 2) := by decide +kernel
theorem dX11_findWay_66 : decode cX11_findWay 66 = .ok (.aload_n 0, 1) := by decide +kernel
theorem dX11_findWay_67 : decode cX11_findWay 67 = .ok (.getfield 7, 3) := by decide +kernel
theorem dX11_findWay_70 : decode cX11_findWay 70 = .ok (.iconst 4, 1) := by decide +kernel
theorem dX11_findWay_71 : decode cX11_findWay 71 = .ok (.iaload, 1) := by decide +kernel
theorem dX11_findWay_72 : decode cX11_findWay 72 = .ok (.iconst 1, 1) := by decide +kernel
theorem dX11_findWay_73 : decode cX11_findWay 73 = .ok (.isub, 1) := by decide +kernel
theorem dX11_findWay_74 : decode cX11_findWay 74 = .ok (.istore 6, 2) := by decide +kernel
theorem dX11_findWay_76 : decode cX11_findWay 76 = .ok (.iload 6, 2) := by decide +kernel
theorem dX11_findWay_78 : decode cX11_findWay 78 = .ok (.ifCond .lt 87, 3) := by decide +kernel
theorem dX11_findWay_81 : decode cX11_findWay 81 = .ok (.iload_n 3, 1) := by decide +kernel
theorem dX11_findWay_82 : decode cX11_findWay 82 = .ok (.iload 6, 2) := by decide +kernel
theorem dX11_findWay_84 : decode cX11_findWay 84 = .ok (.ishr, 1) := by decide +kernel
theorem dX11_findWay_85 : decode cX11_findWay 85 = .ok (.iconst 1, 1) := by decide +kernel
theorem dX11_findWay_86 : decode cX11_findWay 86 = .ok (.iand, 1) := by decide +kernel
theorem dX11_findWay_87 : decode cX11_findWay 87 = .ok (.iconst 1, 1) := by decide +kernel
theorem dX11_findWay_88 : decode cX11_findWay 88 = .ok (.if_icmp .ne 54, 3) := by decide +kernel
theorem dX11_findWay_91 : decode cX11_findWay 91 = .ok (.aload_n 0, 1) := by decide +kernel
theorem dX11_findWay_92 : decode cX11_findWay 92 = .ok (.iload 6, 2) := by decide +kernel
theorem dX11_findWay_94 : decode cX11_findWay 94 = .ok (.iload 4, 2) := by decide +kernel
theorem dX11_findWay_96 : decode cX11_findWay 96 = .ok (.invokevirtual 116, 3) := by decide +kernel
theorem dX11_findWay_99 : decode cX11_findWay 99 = .ok (.ifCond .eq 43, 3) := by decide +kernel
theorem dX11_findWay_102 : decode cX11_findWay 102 = .ok (.aload_n 0, 1) := by decide +kernel
theorem dX11_findWay_103 : decode cX11_findWay 103 = .ok (.getfield 27, 3) := by decide +kernel
theorem dX11_findWay_106 : decode cX11_findWay 106 = .ok (.aload_n 0, 1) := by decide +kernel
theorem dX11_findWay_107 : decode cX11_findWay 107 = .ok (.iload 6, 2) := by decide +kernel
theorem dX11_findWay_109 : decode cX11_findWay 109 = .ok (.iload 4, 2) := by decide +kernel
theorem dX11_findWay_111 : decode cX11_findWay 111 = .ok (.invokevirtual 110, 3) := by decide +kernel
theorem dX11_findWay_114 : decode cX11_findWay 114 = .ok (.iaload, 1) := by decide +kernel
theorem dX11_findWay_115 : decode cX11_findWay 115 = .ok (.bipush 100, 2) := by decide +kernel
theorem dX11_findWay_117 : decode cX11_findWay 117 = .ok (.aload_n 0, 1) := by decide +kernel
theorem dX11_findWay_118 : decode cX11_findWay 118 = .ok (.iload 6, 2) := by decide +kernel
theorem dX11_findWay_120 : decode cX11_findWay 120 = .ok (.iconst 3, 1) := by decide +kernel
theorem dX11_findWay_121 : decode cX11_findWay 121 = .ok (.invokevirtual 65, 3) := by decide +kernel
theorem dX11_findWay_124 : decode cX11_findWay 124 = .ok (.imul, 1) := by decide +kernel
theorem dX11_findWay_125 : decode cX11_findWay 125 = .ok (.iadd, 1) := by decide +kernel
theorem dX11_findWay_126 : decode cX11_findWay 126 = .ok (.iconst 1, 1) := by decide +kernel
theorem dX11_findWay_127 : decode cX11_findWay 127 = .ok (.iadd, 1) := by decide +kernel
theorem dX11_findWay_128 : decode cX11_findWay 128 = .ok (.aload_n 0, 1) := by decide +kernel
theorem dX11_findWay_129 : decode cX11_findWay 129 = .ok (.getfield 27, 3) := by decide +kernel
theorem dX11_findWay_132 : decode cX11_findWay 132 = .ok (.iload 4, 2) := by decide +kernel
theorem dX11_findWay_134 : decode cX11_findWay 134 = .ok (.iaload, 1) := by decide +kernel
theorem dX11_findWay_135 : decode cX11_findWay 135 = .ok (.if_icmp .ne 7, 3) := by decide +kernel
theorem dX11_findWay_138 : decode cX11_findWay 138 = .ok (.iconst 1, 1) := by decide +kernel
theorem dX11_findWay_139 : decode cX11_findWay 139 = .ok (.goto 4, 3) := by decide +kernel
theorem dX11_findWay_142 : decode cX11_findWay 142 = .ok (.iconst 0, 1) := by decide +kernel
theorem dX11_findWay_143 : decode cX11_findWay 143 = .ok (.istore 7, 2) := by decide +kernel
theorem dX11_findWay_145 : decode cX11_findWay 145 = .ok (.iload 7, 2) := by decide +kernel
theorem dX11_findWay_147 : decode cX11_findWay 147 = .ok (.ifCond .eq 8, 3) := by decide +kernel
theorem dX11_findWay_150 : decode cX11_findWay 150 = .ok (.iload 6, 2) := by decide +kernel
theorem dX11_findWay_152 : decode cX11_findWay 152 = .ok (.goto 5, 3) := by decide +kernel
theorem dX11_findWay_155 : decode cX11_findWay 155 = .ok (.iload 5, 2) := by decide +kernel
theorem dX11_findWay_157 : decode cX11_findWay 157 = .ok (.istore 5, 2) := by decide +kernel
theorem dX11_findWay_159 : decode cX11_findWay 159 = .ok (.iinc 6 (-1), 3) := by decide +kernel
theorem dX11_findWay_162 : decode cX11_findWay 162 = .ok (.goto (-86), 3) := by decide +kernel
theorem dX11_findWay_165 : decode cX11_findWay 165 = .ok (.aload_n 0, 1) := by decide +kernel
theorem dX11_findWay_166 : decode cX11_findWay 166 = .ok (.getfield 30, 3) := by decide +kernel
theorem dX11_findWay_169 : decode cX11_findWay 169 = .ok (.aload_n 0, 1) := by decide +kernel
theorem dX11_findWay_170 : decode cX11_findWay 170 = .ok (.getfield 125, 3) := by decide +kernel
theorem dX11_findWay_173 : decode cX11_findWay 173 = .ok (.iload 5, 2) := by decide +kernel
theorem dX11_findWay_175 : decode cX11_findWay 175 = .ok (.iastore, 1) := by decide +kernel
theorem dX11_findWay_176 : decode cX11_findWay 176 = .ok (.aload_n 0, 1) := by decide +kernel
theorem dX11_findWay_177 : decode cX11_findWay 177 = .ok (.dup, 1) := by decide +kernel
theorem dX11_findWay_178 : decode cX11_findWay 178 = .ok (.getfield 125, 3) := by decide +kernel
theorem dX11_findWay_181 : decode cX11_findWay 181 = .ok (.iconst 1, 1) := by decide +kernel
theorem dX11_findWay_182 : decode cX11_findWay 182 = .ok (.iadd, 1) := by decide +kernel
theorem dX11_findWay_183 : decode cX11_findWay 183 = .ok (.putfield 125, 3) := by decide +kernel
theorem dX11_findWay_186 : decode cX11_findWay 186 = .ok (.aload_n 0, 1) := by decide +kernel
theorem dX11_findWay_187 : decode cX11_findWay 187 = .ok (.dup, 1) := by decide +kernel
theorem dX11_findWay_188 : decode cX11_findWay 188 = .ok (.getfield 128, 3) := by decide +kernel
theorem dX11_findWay_191 : decode cX11_findWay 191 = .ok (.aload_n 0, 1) := by decide +kernel
theorem dX11_findWay_192 : decode cX11_findWay 192 = .ok (.iload 5, 2) := by decide +kernel
theorem dX11_findWay_194 : decode cX11_findWay 194 = .ok (.iconst 3, 1) := by decide +kernel
theorem dX11_findWay_195 : decode cX11_findWay 195 = .ok (.invokevirtual 65, 3) := by decide +kernel
theorem dX11_findWay_198 : decode cX11_findWay 198 = .ok (.iadd, 1) := by decide +kernel
theorem dX11_findWay_199 : decode cX11_findWay 199 = .ok (.putfield 128, 3) := by decide +kernel
theorem dX11_findWay_202 : decode cX11_findWay 202 = .ok (.aload_n 0, 1) := by decide +kernel
theorem dX11_findWay_203 : decode cX11_findWay 203 = .ok (.iload 5, 2) := by decide +kernel
theorem dX11_findWay_205 : decode cX11_findWay 205 = .ok (.iload 4, 2) := by decide +kernel
theorem dX11_findWay_207 : decode cX11_findWay 207 = .ok (.invokevirtual 110, 3) := by decide +kernel
theorem dX11_findWay_210 : decode cX11_findWay 210 = .ok (.istore 4, 2) := by decide +kernel
theorem dX11_findWay_212 : decode cX11_findWay 212 = .ok (.goto (-165), 3) := by decide +kernel
theorem dX11_findWay_215 : decode cX11_findWay 215 = .ok (.return_, 1) := by decide +kernel
theorem dX11_soonest_0 : decode cX11_soonest 0 = .ok (.iload_n 1, 1) := by decide +kernel
theorem dX11_soonest_1 : decode cX11_soonest 1 = .ok (.invokestatic 104, 3) := by decide +kernel
theorem dX11_soonest_4 : decode cX11_soonest 4 = .ok (.ifCond .eq 10, 3) := by decide +kernel
theorem dX11_soonest_7 : decode cX11_soonest 7 = .ok (.iload_n 2, 1) := by decide +kernel
theorem dX11_soonest_8 : decode cX11_soonest 8 = .ok (.invokestatic 51, 3) := by decide +kernel
theorem dX11_soonest_11 : decode cX11_soonest 11 = .ok (.ifCond .ne 5, 3) := by decide +kernel
theorem dX11_soonest_14 : decode cX11_soonest 14 = .ok (.iconst (-1), 1) := by decide +kernel
theorem dX11_soonest_15 : decode cX11_soonest 15 = .ok (.ireturn, 1) := by decide +kernel
theorem dX11_soonest_16 : decode cX11_soonest 16 = .ok (.iload_n 3, 1) := by decide +kernel
theorem dX11_soonest_17 : decode cX11_soonest 17 = .ok (.ifCond .ge 6, 3) := by decide +kernel
theorem dX11_soonest_20 : decode cX11_soonest 20 = .ok (.bipush (-2), 2) := by decide +kernel
theorem dX11_soonest_22 : decode cX11_soonest 22 = .ok (.ireturn, 1) := by decide +kernel
theorem dX11_soonest_23 : decode cX11_soonest 23 = .ok (.aload_n 0, 1) := by decide +kernel
theorem dX11_soonest_24 : decode cX11_soonest 24 = .ok (.iload_n 1, 1) := by decide +kernel
theorem dX11_soonest_25 : decode cX11_soonest 25 = .ok (.iload_n 2, 1) := by decide +kernel
theorem dX11_soonest_26 : decode cX11_soonest 26 = .ok (.invokevirtual 131, 3) := by decide +kernel
theorem dX11_soonest_29 : decode cX11_soonest 29 = .ok (.aload_n 0, 1) := by decide +kernel
theorem dX11_soonest_30 : decode cX11_soonest 30 = .ok (.getfield 125, 3) := by decide +kernel
theorem dX11_soonest_33 : decode cX11_soonest 33 = .ok (.bipush (-6), 2) := by decide +kernel
theorem dX11_soonest_35 : decode cX11_soonest 35 = .ok (.if_icmp .ne 6, 3) := by decide +kernel
theorem dX11_soonest_38 : decode cX11_soonest 38 = .ok (.bipush (-6), 2) := by decide +kernel
theorem dX11_soonest_40 : decode cX11_soonest 40 = .ok (.ireturn, 1) := by decide +kernel
theorem dX11_soonest_41 : decode cX11_soonest 41 = .ok (.iload_n 3, 1) := by decide +kernel
theorem dX11_soonest_42 : decode cX11_soonest 42 = .ok (.ifCond .ne 10, 3) := by decide +kernel
theorem dX11_soonest_45 : decode cX11_soonest 45 = .ok (.aload_n 0, 1) := by decide +kernel
theorem dX11_soonest_46 : decode cX11_soonest 46 = .ok (.getfield 128, 3) := by decide +kernel
theorem dX11_soonest_49 : decode cX11_soonest 49 = .ok (.goto 38, 3) := by decide +kernel
theorem dX11_soonest_52 : decode cX11_soonest 52 = .ok (.iload_n 3, 1) := by decide +kernel
theorem dX11_soonest_53 : decode cX11_soonest 53 = .ok (.iconst 1, 1) := by decide +kernel
theorem dX11_soonest_54 : decode cX11_soonest 54 = .ok (.if_icmp .ne 10, 3) := by decide +kernel
theorem dX11_soonest_57 : decode cX11_soonest 57 = .ok (.aload_n 0, 1) := by decide +kernel
theorem dX11_soonest_58 : decode cX11_soonest 58 = .ok (.getfield 125, 3) := by decide +kernel
theorem dX11_soonest_61 : decode cX11_soonest 61 = .ok (.goto 26, 3) := by decide +kernel
theorem dX11_soonest_64 : decode cX11_soonest 64 = .ok (.iload_n 3, 1) := by decide +kernel
theorem dX11_soonest_65 : decode cX11_soonest 65 = .ok (.iconst 2, 1) := by decide +kernel
theorem dX11_soonest_66 : decode cX11_soonest 66 = .ok (.isub, 1) := by decide +kernel
theorem dX11_soonest_67 : decode cX11_soonest 67 = .ok (.aload_n 0, 1) := by decide +kernel
theorem dX11_soonest_68 : decode cX11_soonest 68 = .ok (.getfield 125, 3) := by decide +kernel
theorem dX11_soonest_71 : decode cX11_soonest 71 = .ok (.if_icmp .ge 14, 3) := by decide +kernel
theorem dX11_soonest_74 : decode cX11_soonest 74 = .ok (.aload_n 0, 1) := by decide +kernel
theorem dX11_soonest_75 : decode cX11_soonest 75 = .ok (.getfield 30, 3) := by decide +kernel
theorem dX11_soonest_78 : decode cX11_soonest 78 = .ok (.iload_n 3, 1) := by decide +kernel
theorem dX11_soonest_79 : decode cX11_soonest 79 = .ok (.iconst 2, 1) := by decide +kernel
theorem dX11_soonest_80 : decode cX11_soonest 80 = .ok (.isub, 1) := by decide +kernel
theorem dX11_soonest_81 : decode cX11_soonest 81 = .ok (.iaload, 1) := by decide +kernel
theorem dX11_soonest_82 : decode cX11_soonest 82 = .ok (.goto 5, 3) := by decide +kernel
theorem dX11_soonest_85 : decode cX11_soonest 85 = .ok (.bipush (-6), 2) := by decide +kernel
theorem dX11_soonest_87 : decode cX11_soonest 87 = .ok (.ireturn, 1) := by decide +kernel
theorem dX11_go_0 : decode cX11_go 0 = .ok (.iload_n 1, 1) := by decide +kernel
theorem dX11_go_1 : decode cX11_go 1 = .ok (.invokestatic 104, 3) := by decide +kernel
theorem dX11_go_4 : decode cX11_go 4 = .ok (.ifCond .eq 10, 3) := by decide +kernel
theorem dX11_go_7 : decode cX11_go 7 = .ok (.iload_n 2, 1) := by decide +kernel
theorem dX11_go_8 : decode cX11_go 8 = .ok (.invokestatic 51, 3) := by decide +kernel
theorem dX11_go_11 : decode cX11_go 11 = .ok (.ifCond .ne 5, 3) := by decide +kernel
theorem dX11_go_14 : decode cX11_go 14 = .ok (.iconst (-1), 1) := by decide +kernel
theorem dX11_go_15 : decode cX11_go 15 = .ok (.ireturn, 1) := by decide +kernel
theorem dX11_go_16 : decode cX11_go 16 = .ok (.aload_n 0, 1) := by decide +kernel
theorem dX11_go_17 : decode cX11_go 17 = .ok (.iload_n 1, 1) := by decide +kernel
theorem dX11_go_18 : decode cX11_go 18 = .ok (.iload_n 2, 1) := by decide +kernel
theorem dX11_go_19 : decode cX11_go 19 = .ok (.invokevirtual 131, 3) := by decide +kernel
theorem dX11_go_22 : decode cX11_go 22 = .ok (.aload_n 0, 1) := by decide +kernel
theorem dX11_go_23 : decode cX11_go 23 = .ok (.getfield 125, 3) := by decide +kernel
theorem dX11_go_26 : decode cX11_go 26 = .ok (.bipush (-6), 2) := by decide +kernel
theorem dX11_go_28 : decode cX11_go 28 = .ok (.if_icmp .ne 6, 3) := by decide +kernel
theorem dX11_go_31 : decode cX11_go 31 = .ok (.bipush (-5), 2) := by decide +kernel
theorem dX11_go_33 : decode cX11_go 33 = .ok (.ireturn, 1) := by decide +kernel
theorem dX11_go_34 : decode cX11_go 34 = .ok (.aload_n 0, 1) := by decide +kernel
theorem dX11_go_35 : decode cX11_go 35 = .ok (.invokevirtual 48, 3) := by decide +kernel
theorem dX11_go_38 : decode cX11_go 38 = .ok (.iconst 1, 1) := by decide +kernel
theorem dX11_go_39 : decode cX11_go 39 = .ok (.istore_n 3, 1) := by decide +kernel
theorem dX11_go_40 : decode cX11_go 40 = .ok (.iconst 0, 1) := by decide +kernel
theorem dX11_go_41 : decode cX11_go 41 = .ok (.istore 4, 2) := by decide +kernel
theorem dX11_go_43 : decode cX11_go 43 = .ok (.iload 4, 2) := by decide +kernel
theorem dX11_go_45 : decode cX11_go 45 = .ok (.aload_n 0, 1) := by decide +kernel
theorem dX11_go_46 : decode cX11_go 46 = .ok (.getfield 125, 3) := by decide +kernel
theorem dX11_go_49 : decode cX11_go 49 = .ok (.if_icmp .ge 43, 3) := by decide +kernel
theorem dX11_go_52 : decode cX11_go 52 = .ok (.iload_n 3, 1) := by decide +kernel
theorem dX11_go_53 : decode cX11_go 53 = .ok (.ifCond .eq 39, 3) := by decide +kernel
theorem dX11_go_56 : decode cX11_go 56 = .ok (.aload_n 0, 1) := by decide +kernel
theorem dX11_go_57 : decode cX11_go 57 = .ok (.iload_n 1, 1) := by decide +kernel
theorem dX11_go_58 : decode cX11_go 58 = .ok (.aload_n 0, 1) := by decide +kernel
theorem dX11_go_59 : decode cX11_go 59 = .ok (.getfield 30, 3) := by decide +kernel
theorem dX11_go_62 : decode cX11_go 62 = .ok (.iload 4, 2) := by decide +kernel
theorem dX11_go_64 : decode cX11_go 64 = .ok (.iaload, 1) := by decide +kernel
theorem dX11_go_65 : decode cX11_go 65 = .ok (.invokevirtual 96, 3) := by decide +kernel
theorem dX11_go_68 : decode cX11_go 68 = .ok (.istore_n 3, 1) := by decide +kernel
theorem dX11_go_69 : decode cX11_go 69 = .ok (.iload_n 3, 1) := by decide +kernel
theorem dX11_go_70 : decode cX11_go 70 = .ok (.ifCond .eq 16, 3) := by decide +kernel
theorem dX11_go_73 : decode cX11_go 73 = .ok (.aload_n 0, 1) := by decide +kernel
theorem dX11_go_74 : decode cX11_go 74 = .ok (.iload_n 1, 1) := by decide +kernel
theorem dX11_go_75 : decode cX11_go 75 = .ok (.aload_n 0, 1) := by decide +kernel
theorem dX11_go_76 : decode cX11_go 76 = .ok (.getfield 30, 3) := by decide +kernel
theorem dX11_go_79 : decode cX11_go 79 = .ok (.iload 4, 2) := by decide +kernel
theorem dX11_go_81 : decode cX11_go 81 = .ok (.iaload, 1) := by decide +kernel
theorem dX11_go_82 : decode cX11_go 82 = .ok (.invokevirtual 119, 3) := by decide +kernel
theorem dX11_go_85 : decode cX11_go 85 = .ok (.pop, 1) := by decide +kernel
theorem dX11_go_86 : decode cX11_go 86 = .ok (.iinc 4 1, 3) := by decide +kernel
theorem dX11_go_89 : decode cX11_go 89 = .ok (.goto (-46), 3) := by decide +kernel
theorem dX11_go_92 : decode cX11_go 92 = .ok (.aload_n 0, 1) := by decide +kernel
theorem dX11_go_93 : decode cX11_go 93 = .ok (.iload_n 1, 1) := by decide +kernel
theorem dX11_go_94 : decode cX11_go 94 = .ok (.invokevirtual 107, 3) := by decide +kernel
theorem dX11_go_97 : decode cX11_go 97 = .ok (.ireturn, 1) := by decide +kernel
theorem dX11_reached_0 : decode cX11_reached 0 = .ok (.aload_n 0, 1) := by decide +kernel
theorem dX11_reached_1 : decode cX11_reached 1 = .ok (.iload_n 1, 1) := by decide +kernel
theorem dX11_reached_2 : decode cX11_reached 2 = .ok (.iload_n 2, 1) := by decide +kernel
theorem dX11_reached_3 : decode cX11_reached 3 = .ok (.iconst 0, 1) := by decide +kernel
theorem dX11_reached_4 : decode cX11_reached 4 = .ok (.invokevirtual 73, 3) := by decide +kernel
theorem dX11_reached_7 : decode cX11_reached 7 = .ok (.iconst 0, 1) := by decide +kernel
theorem dX11_reached_8 : decode cX11_reached 8 = .ok (.istore_n 3, 1) := by decide +kernel
theorem dX11_reached_9 : decode cX11_reached 9 = .ok (.iconst 0, 1) := by decide +kernel
theorem dX11_reached_10 : decode cX11_reached 10 = .ok (.istore 4, 2) := by decide +kernel
theorem dX11_reached_12 : decode cX11_reached 12 = .ok (.iload 4, 2) := by decide +kernel
theorem dX11_reached_14 : decode cX11_reached 14 = .ok (.bipush 10, 2) := by decide +kernel
theorem dX11_reached_16 : decode cX11_reached 16 = .ok (.if_icmp .ge 32, 3) := by decide +kernel
theorem dX11_reached_19 : decode cX11_reached 19 = .ok (.iload_n 3, 1) := by decide +kernel
theorem dX11_reached_20 : decode cX11_reached 20 = .ok (.aload_n 0, 1) := by decide +kernel
theorem dX11_reached_21 : decode cX11_reached 21 = .ok (.getfield 27, 3) := by decide +kernel
theorem dX11_reached_24 : decode cX11_reached 24 = .ok (.iload 4, 2) := by decide +kernel
theorem dX11_reached_26 : decode cX11_reached 26 = .ok (.iaload, 1) := by decide +kernel
theorem dX11_reached_27 : decode cX11_reached 27 = .ok (.ldc 68, 2) := by decide +kernel
theorem dX11_reached_29 : decode cX11_reached 29 = .ok (.if_icmp .ge 10, 3) := by decide +kernel
theorem dX11_reached_32 : decode cX11_reached 32 = .ok (.iconst 1, 1) := by decide +kernel
theorem dX11_reached_33 : decode cX11_reached 33 = .ok (.iload 4, 2) := by decide +kernel
theorem dX11_reached_35 : decode cX11_reached 35 = .ok (.ishl, 1) := by decide +kernel
theorem dX11_reached_36 : decode cX11_reached 36 = .ok (.goto 4, 3) := by decide +kernel
theorem dX11_reached_39 : decode cX11_reached 39 = .ok (.iconst 0, 1) := by decide +kernel
theorem dX11_reached_40 : decode cX11_reached 40 = .ok (.ior, 1) := by decide +kernel
theorem dX11_reached_41 : decode cX11_reached 41 = .ok (.istore_n 3, 1) := by decide +kernel
theorem dX11_reached_42 : decode cX11_reached 42 = .ok (.iinc 4 1, 3) := by decide +kernel
theorem dX11_reached_45 : decode cX11_reached 45 = .ok (.goto (-33), 3) := by decide +kernel
theorem dX11_reached_48 : decode cX11_reached 48 = .ok (.iload_n 3, 1) := by decide +kernel
theorem dX11_reached_49 : decode cX11_reached 49 = .ok (.ireturn, 1) := by decide +kernel
theorem dX11_quietest_0 : decode cX11_quietest 0 = .ok (.iload_n 1, 1) := by decide +kernel
theorem dX11_quietest_1 : decode cX11_quietest 1 = .ok (.invokestatic 104, 3) := by decide +kernel
theorem dX11_quietest_4 : decode cX11_quietest 4 = .ok (.ifCond .eq 10, 3) := by decide +kernel
theorem dX11_quietest_7 : decode cX11_quietest 7 = .ok (.iload_n 2, 1) := by decide +kernel
theorem dX11_quietest_8 : decode cX11_quietest 8 = .ok (.invokestatic 51, 3) := by decide +kernel
theorem dX11_quietest_11 : decode cX11_quietest 11 = .ok (.ifCond .ne 5, 3) := by decide +kernel
theorem dX11_quietest_14 : decode cX11_quietest 14 = .ok (.iconst (-1), 1) := by decide +kernel
theorem dX11_quietest_15 : decode cX11_quietest 15 = .ok (.ireturn, 1) := by decide +kernel
theorem dX11_quietest_16 : decode cX11_quietest 16 = .ok (.aload_n 0, 1) := by decide +kernel
theorem dX11_quietest_17 : decode cX11_quietest 17 = .ok (.iload_n 1, 1) := by decide +kernel
theorem dX11_quietest_18 : decode cX11_quietest 18 = .ok (.invokevirtual 107, 3) := by decide +kernel
theorem dX11_quietest_21 : decode cX11_quietest 21 = .ok (.iload_n 2, 1) := by decide +kernel
theorem dX11_quietest_22 : decode cX11_quietest 22 = .ok (.if_icmp .ne 5, 3) := by decide +kernel
theorem dX11_quietest_25 : decode cX11_quietest 25 = .ok (.iconst 0, 1) := by decide +kernel
theorem dX11_quietest_26 : decode cX11_quietest 26 = .ok (.ireturn, 1) := by decide +kernel
theorem dX11_quietest_27 : decode cX11_quietest 27 = .ok (.aload_n 0, 1) := by decide +kernel
theorem dX11_quietest_28 : decode cX11_quietest 28 = .ok (.iload_n 1, 1) := by decide +kernel
theorem dX11_quietest_29 : decode cX11_quietest 29 = .ok (.invokevirtual 122, 3) := by decide +kernel
theorem dX11_quietest_32 : decode cX11_quietest 32 = .ok (.istore_n 3, 1) := by decide +kernel
theorem dX11_quietest_33 : decode cX11_quietest 33 = .ok (.iconst 0, 1) := by decide +kernel
theorem dX11_quietest_34 : decode cX11_quietest 34 = .ok (.istore 4, 2) := by decide +kernel
theorem dX11_quietest_36 : decode cX11_quietest 36 = .ok (.iconst 1, 1) := by decide +kernel
theorem dX11_quietest_37 : decode cX11_quietest 37 = .ok (.istore 5, 2) := by decide +kernel
theorem dX11_quietest_39 : decode cX11_quietest 39 = .ok (.iload 5, 2) := by decide +kernel
theorem dX11_quietest_41 : decode cX11_quietest 41 = .ok (.bipush 9, 2) := by decide +kernel
theorem dX11_quietest_43 : decode cX11_quietest 43 = .ok (.if_icmp .gt 86, 3) := by decide +kernel
theorem dX11_quietest_46 : decode cX11_quietest 46 = .ok (.iconst 0, 1) := by decide +kernel
theorem dX11_quietest_47 : decode cX11_quietest 47 = .ok (.istore 6, 2) := by decide +kernel
theorem dX11_quietest_49 : decode cX11_quietest 49 = .ok (.iload 6, 2) := by decide +kernel
theorem dX11_quietest_51 : decode cX11_quietest 51 = .ok (.aload_n 0, 1) := by decide +kernel
theorem dX11_quietest_52 : decode cX11_quietest 52 = .ok (.getfield 7, 3) := by decide +kernel
theorem dX11_quietest_55 : decode cX11_quietest 55 = .ok (.iconst 4, 1) := by decide +kernel
theorem dX11_quietest_56 : decode cX11_quietest 56 = .ok (.iaload, 1) := by decide +kernel
theorem dX11_quietest_57 : decode cX11_quietest 57 = .ok (.if_icmp .ge 44, 3) := by decide +kernel
theorem dX11_quietest_60 : decode cX11_quietest 60 = .ok (.iload 4, 2) := by decide +kernel
theorem dX11_quietest_62 : decode cX11_quietest 62 = .ok (.iload_n 3, 1) := by decide +kernel
theorem dX11_quietest_63 : decode cX11_quietest 63 = .ok (.iload 6, 2) := by decide +kernel
theorem dX11_quietest_65 : decode cX11_quietest 65 = .ok (.ishr, 1) := by decide +kernel
theorem dX11_quietest_66 : decode cX11_quietest 66 = .ok (.iconst 1, 1) := by decide +kernel
theorem dX11_quietest_67 : decode cX11_quietest 67 = .ok (.iand, 1) := by decide +kernel
theorem dX11_quietest_68 : decode cX11_quietest 68 = .ok (.iconst 1, 1) := by decide +kernel
theorem dX11_quietest_69 : decode cX11_quietest 69 = .ok (.if_icmp .ne 22, 3) := by decide +kernel
theorem dX11_quietest_72 : decode cX11_quietest 72 = .ok (.aload_n 0, 1) := by decide +kernel
theorem dX11_quietest_73 : decode cX11_quietest 73 = .ok (.iload 6, 2) := by decide +kernel
theorem dX11_quietest_75 : decode cX11_quietest 75 = .ok (.iconst 2, 1) := by decide +kernel
theorem dX11_quietest_76 : decode cX11_quietest 76 = .ok (.invokevirtual 65, 3) := by decide +kernel
theorem dX11_quietest_79 : decode cX11_quietest 79 = .ok (.iload 5, 2) := by decide +kernel
theorem dX11_quietest_81 : decode cX11_quietest 81 = .ok (.if_icmp .ne 10, 3) := by decide +kernel
theorem dX11_quietest_84 : decode cX11_quietest 84 = .ok (.iconst 1, 1) := by decide +kernel
theorem dX11_quietest_85 : decode cX11_quietest 85 = .ok (.iload 6, 2) := by decide +kernel
theorem dX11_quietest_87 : decode cX11_quietest 87 = .ok (.ishl, 1) := by decide +kernel
theorem dX11_quietest_88 : decode cX11_quietest 88 = .ok (.goto 4, 3) := by decide +kernel
theorem dX11_quietest_91 : decode cX11_quietest 91 = .ok (.iconst 0, 1) := by decide +kernel
theorem dX11_quietest_92 : decode cX11_quietest 92 = .ok (.ior, 1) := by decide +kernel
theorem dX11_quietest_93 : decode cX11_quietest 93 = .ok (.istore 4, 2) := by decide +kernel
theorem dX11_quietest_95 : decode cX11_quietest 95 = .ok (.iinc 6 1, 3) := by decide +kernel
theorem dX11_quietest_98 : decode cX11_quietest 98 = .ok (.goto (-49), 3) := by decide +kernel
theorem dX11_quietest_101 : decode cX11_quietest 101 = .ok (.aload_n 0, 1) := by decide +kernel
theorem dX11_quietest_102 : decode cX11_quietest 102 = .ok (.aload_n 0, 1) := by decide +kernel
theorem dX11_quietest_103 : decode cX11_quietest 103 = .ok (.iload_n 1, 1) := by decide +kernel
theorem dX11_quietest_104 : decode cX11_quietest 104 = .ok (.invokevirtual 107, 3) := by decide +kernel
theorem dX11_quietest_107 : decode cX11_quietest 107 = .ok (.iload 4, 2) := by decide +kernel
theorem dX11_quietest_109 : decode cX11_quietest 109 = .ok (.invokevirtual 135, 3) := by decide +kernel
theorem dX11_quietest_112 : decode cX11_quietest 112 = .ok (.iload_n 2, 1) := by decide +kernel
theorem dX11_quietest_113 : decode cX11_quietest 113 = .ok (.ishr, 1) := by decide +kernel
theorem dX11_quietest_114 : decode cX11_quietest 114 = .ok (.iconst 1, 1) := by decide +kernel
theorem dX11_quietest_115 : decode cX11_quietest 115 = .ok (.iand, 1) := by decide +kernel
theorem dX11_quietest_116 : decode cX11_quietest 116 = .ok (.iconst 1, 1) := by decide +kernel
theorem dX11_quietest_117 : decode cX11_quietest 117 = .ok (.if_icmp .ne 6, 3) := by decide +kernel
theorem dX11_quietest_120 : decode cX11_quietest 120 = .ok (.iload 5, 2) := by decide +kernel
theorem dX11_quietest_122 : decode cX11_quietest 122 = .ok (.ireturn, 1) := by decide +kernel
theorem dX11_quietest_123 : decode cX11_quietest 123 = .ok (.iinc 5 1, 3) := by decide +kernel
theorem dX11_quietest_126 : decode cX11_quietest 126 = .ok (.goto (-87), 3) := by decide +kernel
theorem dX11_quietest_129 : decode cX11_quietest 129 = .ok (.bipush (-6), 2) := by decide +kernel
theorem dX11_quietest_131 : decode cX11_quietest 131 = .ok (.ireturn, 1) := by decide +kernel
theorem dX11_boardsAt_0 : decode cX11_boardsAt 0 = .ok (.iconst 0, 1) := by decide +kernel
theorem dX11_boardsAt_1 : decode cX11_boardsAt 1 = .ok (.istore_n 3, 1) := by decide +kernel
theorem dX11_boardsAt_2 : decode cX11_boardsAt 2 = .ok (.iconst 0, 1) := by decide +kernel
theorem dX11_boardsAt_3 : decode cX11_boardsAt 3 = .ok (.istore 4, 2) := by decide +kernel
theorem dX11_boardsAt_5 : decode cX11_boardsAt 5 = .ok (.iload 4, 2) := by decide +kernel
theorem dX11_boardsAt_7 : decode cX11_boardsAt 7 = .ok (.aload_n 0, 1) := by decide +kernel
theorem dX11_boardsAt_8 : decode cX11_boardsAt 8 = .ok (.getfield 7, 3) := by decide +kernel
theorem dX11_boardsAt_11 : decode cX11_boardsAt 11 = .ok (.iconst 4, 1) := by decide +kernel
theorem dX11_boardsAt_12 : decode cX11_boardsAt 12 = .ok (.iaload, 1) := by decide +kernel
theorem dX11_boardsAt_13 : decode cX11_boardsAt 13 = .ok (.if_icmp .ge 37, 3) := by decide +kernel
theorem dX11_boardsAt_16 : decode cX11_boardsAt 16 = .ok (.iload_n 3, 1) := by decide +kernel
theorem dX11_boardsAt_17 : decode cX11_boardsAt 17 = .ok (.iload_n 2, 1) := by decide +kernel
theorem dX11_boardsAt_18 : decode cX11_boardsAt 18 = .ok (.iload 4, 2) := by decide +kernel
theorem dX11_boardsAt_20 : decode cX11_boardsAt 20 = .ok (.ishr, 1) := by decide +kernel
theorem dX11_boardsAt_21 : decode cX11_boardsAt 21 = .ok (.iconst 1, 1) := by decide +kernel
theorem dX11_boardsAt_22 : decode cX11_boardsAt 22 = .ok (.iand, 1) := by decide +kernel
theorem dX11_boardsAt_23 : decode cX11_boardsAt 23 = .ok (.iconst 1, 1) := by decide +kernel
theorem dX11_boardsAt_24 : decode cX11_boardsAt 24 = .ok (.if_icmp .ne 17, 3) := by decide +kernel
theorem dX11_boardsAt_27 : decode cX11_boardsAt 27 = .ok (.aload_n 0, 1) := by decide +kernel
theorem dX11_boardsAt_28 : decode cX11_boardsAt 28 = .ok (.iload 4, 2) := by decide +kernel
theorem dX11_boardsAt_30 : decode cX11_boardsAt 30 = .ok (.iload_n 1, 1) := by decide +kernel
theorem dX11_boardsAt_31 : decode cX11_boardsAt 31 = .ok (.invokevirtual 116, 3) := by decide +kernel
theorem dX11_boardsAt_34 : decode cX11_boardsAt 34 = .ok (.ifCond .eq 7, 3) := by decide +kernel
theorem dX11_boardsAt_37 : decode cX11_boardsAt 37 = .ok (.iconst 1, 1) := by decide +kernel
theorem dX11_boardsAt_38 : decode cX11_boardsAt 38 = .ok (.goto 4, 3) := by decide +kernel
theorem dX11_boardsAt_41 : decode cX11_boardsAt 41 = .ok (.iconst 0, 1) := by decide +kernel
theorem dX11_boardsAt_42 : decode cX11_boardsAt 42 = .ok (.iadd, 1) := by decide +kernel
theorem dX11_boardsAt_43 : decode cX11_boardsAt 43 = .ok (.istore_n 3, 1) := by decide +kernel
theorem dX11_boardsAt_44 : decode cX11_boardsAt 44 = .ok (.iinc 4 1, 3) := by decide +kernel
theorem dX11_boardsAt_47 : decode cX11_boardsAt 47 = .ok (.goto (-42), 3) := by decide +kernel
theorem dX11_boardsAt_50 : decode cX11_boardsAt 50 = .ok (.iload_n 3, 1) := by decide +kernel
theorem dX11_boardsAt_51 : decode cX11_boardsAt 51 = .ok (.ireturn, 1) := by decide +kernel
theorem dX11_whyNot_0 : decode cX11_whyNot 0 = .ok (.iload_n 2, 1) := by decide +kernel
theorem dX11_whyNot_1 : decode cX11_whyNot 1 = .ok (.ifCond .ne 5, 3) := by decide +kernel
theorem dX11_whyNot_4 : decode cX11_whyNot 4 = .ok (.iconst 1, 1) := by decide +kernel
theorem dX11_whyNot_5 : decode cX11_whyNot 5 = .ok (.ireturn, 1) := by decide +kernel
theorem dX11_whyNot_6 : decode cX11_whyNot 6 = .ok (.aload_n 0, 1) := by decide +kernel
theorem dX11_whyNot_7 : decode cX11_whyNot 7 = .ok (.iload_n 1, 1) := by decide +kernel
theorem dX11_whyNot_8 : decode cX11_whyNot 8 = .ok (.iload_n 2, 1) := by decide +kernel
theorem dX11_whyNot_9 : decode cX11_whyNot 9 = .ok (.invokevirtual 138, 3) := by decide +kernel
theorem dX11_whyNot_12 : decode cX11_whyNot 12 = .ok (.ifCond .ne 5, 3) := by decide +kernel
theorem dX11_whyNot_15 : decode cX11_whyNot 15 = .ok (.iconst 2, 1) := by decide +kernel
theorem dX11_whyNot_16 : decode cX11_whyNot 16 = .ok (.ireturn, 1) := by decide +kernel
theorem dX11_whyNot_17 : decode cX11_whyNot 17 = .ok (.aload_n 0, 1) := by decide +kernel
theorem dX11_whyNot_18 : decode cX11_whyNot 18 = .ok (.iload_n 1, 1) := by decide +kernel
theorem dX11_whyNot_19 : decode cX11_whyNot 19 = .ok (.iload_n 2, 1) := by decide +kernel
theorem dX11_whyNot_20 : decode cX11_whyNot 20 = .ok (.invokevirtual 135, 3) := by decide +kernel
theorem dX11_whyNot_23 : decode cX11_whyNot 23 = .ok (.istore_n 3, 1) := by decide +kernel
theorem dX11_whyNot_24 : decode cX11_whyNot 24 = .ok (.iconst 0, 1) := by decide +kernel
theorem dX11_whyNot_25 : decode cX11_whyNot 25 = .ok (.istore 4, 2) := by decide +kernel
theorem dX11_whyNot_27 : decode cX11_whyNot 27 = .ok (.iconst 0, 1) := by decide +kernel
theorem dX11_whyNot_28 : decode cX11_whyNot 28 = .ok (.istore 5, 2) := by decide +kernel
theorem dX11_whyNot_30 : decode cX11_whyNot 30 = .ok (.iload 5, 2) := by decide +kernel
theorem dX11_whyNot_32 : decode cX11_whyNot 32 = .ok (.bipush 10, 2) := by decide +kernel
theorem dX11_whyNot_34 : decode cX11_whyNot 34 = .ok (.if_icmp .ge 43, 3) := by decide +kernel
theorem dX11_whyNot_37 : decode cX11_whyNot 37 = .ok (.aload_n 0, 1) := by decide +kernel
theorem dX11_whyNot_38 : decode cX11_whyNot 38 = .ok (.iload 5, 2) := by decide +kernel
theorem dX11_whyNot_40 : decode cX11_whyNot 40 = .ok (.iload_n 2, 1) := by decide +kernel
theorem dX11_whyNot_41 : decode cX11_whyNot 41 = .ok (.invokevirtual 138, 3) := by decide +kernel
theorem dX11_whyNot_44 : decode cX11_whyNot 44 = .ok (.istore 6, 2) := by decide +kernel
theorem dX11_whyNot_46 : decode cX11_whyNot 46 = .ok (.iload 6, 2) := by decide +kernel
theorem dX11_whyNot_48 : decode cX11_whyNot 48 = .ok (.ifCond .le 14, 3) := by decide +kernel
theorem dX11_whyNot_51 : decode cX11_whyNot 51 = .ok (.iload_n 3, 1) := by decide +kernel
theorem dX11_whyNot_52 : decode cX11_whyNot 52 = .ok (.iload 5, 2) := by decide +kernel
theorem dX11_whyNot_54 : decode cX11_whyNot 54 = .ok (.ishr, 1) := by decide +kernel
theorem dX11_whyNot_55 : decode cX11_whyNot 55 = .ok (.iconst 1, 1) := by decide +kernel
theorem dX11_whyNot_56 : decode cX11_whyNot 56 = .ok (.iand, 1) := by decide +kernel
theorem dX11_whyNot_57 : decode cX11_whyNot 57 = .ok (.ifCond .ne 5, 3) := by decide +kernel
theorem dX11_whyNot_60 : decode cX11_whyNot 60 = .ok (.iconst 3, 1) := by decide +kernel
theorem dX11_whyNot_61 : decode cX11_whyNot 61 = .ok (.ireturn, 1) := by decide +kernel
theorem dX11_whyNot_62 : decode cX11_whyNot 62 = .ok (.iload 4, 2) := by decide +kernel
theorem dX11_whyNot_64 : decode cX11_whyNot 64 = .ok (.iload 6, 2) := by decide +kernel
theorem dX11_whyNot_66 : decode cX11_whyNot 66 = .ok (.iconst 2, 1) := by decide +kernel
theorem dX11_whyNot_67 : decode cX11_whyNot 67 = .ok (.irem, 1) := by decide +kernel
theorem dX11_whyNot_68 : decode cX11_whyNot 68 = .ok (.iadd, 1) := by decide +kernel
theorem dX11_whyNot_69 : decode cX11_whyNot 69 = .ok (.istore 4, 2) := by decide +kernel
theorem dX11_whyNot_71 : decode cX11_whyNot 71 = .ok (.iinc 5 1, 3) := by decide +kernel
theorem dX11_whyNot_74 : decode cX11_whyNot 74 = .ok (.goto (-44), 3) := by decide +kernel
theorem dX11_whyNot_77 : decode cX11_whyNot 77 = .ok (.iload 4, 2) := by decide +kernel
theorem dX11_whyNot_79 : decode cX11_whyNot 79 = .ok (.iconst 2, 1) := by decide +kernel
theorem dX11_whyNot_80 : decode cX11_whyNot 80 = .ok (.if_icmp .le 7, 3) := by decide +kernel
theorem dX11_whyNot_83 : decode cX11_whyNot 83 = .ok (.iconst 4, 1) := by decide +kernel
theorem dX11_whyNot_84 : decode cX11_whyNot 84 = .ok (.goto 25, 3) := by decide +kernel
theorem dX11_whyNot_87 : decode cX11_whyNot 87 = .ok (.iload 4, 2) := by decide +kernel
theorem dX11_whyNot_89 : decode cX11_whyNot 89 = .ok (.iconst 2, 1) := by decide +kernel
theorem dX11_whyNot_90 : decode cX11_whyNot 90 = .ok (.if_icmp .ne 18, 3) := by decide +kernel
theorem dX11_whyNot_93 : decode cX11_whyNot 93 = .ok (.aload_n 0, 1) := by decide +kernel
theorem dX11_whyNot_94 : decode cX11_whyNot 94 = .ok (.iload_n 1, 1) := by decide +kernel
theorem dX11_whyNot_95 : decode cX11_whyNot 95 = .ok (.iload_n 2, 1) := by decide +kernel
theorem dX11_whyNot_96 : decode cX11_whyNot 96 = .ok (.invokevirtual 138, 3) := by decide +kernel
theorem dX11_whyNot_99 : decode cX11_whyNot 99 = .ok (.iconst 2, 1) := by decide +kernel
theorem dX11_whyNot_100 : decode cX11_whyNot 100 = .ok (.irem, 1) := by decide +kernel
theorem dX11_whyNot_101 : decode cX11_whyNot 101 = .ok (.ifCond .ne 7, 3) := by decide +kernel
theorem dX11_whyNot_104 : decode cX11_whyNot 104 = .ok (.iconst 5, 1) := by decide +kernel
theorem dX11_whyNot_105 : decode cX11_whyNot 105 = .ok (.goto 4, 3) := by decide +kernel
theorem dX11_whyNot_108 : decode cX11_whyNot 108 = .ok (.iconst 0, 1) := by decide +kernel
theorem dX11_whyNot_109 : decode cX11_whyNot 109 = .ok (.ireturn, 1) := by decide +kernel
theorem dX11_left_0 : decode cX11_left 0 = .ok (.aload_n 0, 1) := by decide +kernel
theorem dX11_left_1 : decode cX11_left 1 = .ok (.invokevirtual 69, 3) := by decide +kernel
theorem dX11_left_4 : decode cX11_left 4 = .ok (.aload_n 0, 1) := by decide +kernel
theorem dX11_left_5 : decode cX11_left 5 = .ok (.iload_n 1, 1) := by decide +kernel
theorem dX11_left_6 : decode cX11_left 6 = .ok (.iconst 1, 1) := by decide +kernel
theorem dX11_left_7 : decode cX11_left 7 = .ok (.invokevirtual 40, 3) := by decide +kernel
theorem dX11_left_10 : decode cX11_left 10 = .ok (.iconst (-1), 1) := by decide +kernel
theorem dX11_left_11 : decode cX11_left 11 = .ok (.ixor, 1) := by decide +kernel
theorem dX11_left_12 : decode cX11_left 12 = .ok (.iand, 1) := by decide +kernel
theorem dX11_left_13 : decode cX11_left 13 = .ok (.ireturn, 1) := by decide +kernel
theorem dX11_reason_0 : decode cX11_reason 0 = .ok (.iload_n 1, 1) := by decide +kernel
theorem dX11_reason_1 : decode cX11_reason 1 = .ok (.invokestatic 104, 3) := by decide +kernel
theorem dX11_reason_4 : decode cX11_reason 4 = .ok (.ifCond .eq 20, 3) := by decide +kernel
theorem dX11_reason_7 : decode cX11_reason 7 = .ok (.aload_n 0, 1) := by decide +kernel
theorem dX11_reason_8 : decode cX11_reason 8 = .ok (.aload_n 0, 1) := by decide +kernel
theorem dX11_reason_9 : decode cX11_reason 9 = .ok (.iload_n 1, 1) := by decide +kernel
theorem dX11_reason_10 : decode cX11_reason 10 = .ok (.invokevirtual 107, 3) := by decide +kernel
theorem dX11_reason_13 : decode cX11_reason 13 = .ok (.aload_n 0, 1) := by decide +kernel
theorem dX11_reason_14 : decode cX11_reason 14 = .ok (.iload_n 1, 1) := by decide +kernel
theorem dX11_reason_15 : decode cX11_reason 15 = .ok (.invokevirtual 141, 3) := by decide +kernel
theorem dX11_reason_18 : decode cX11_reason 18 = .ok (.invokevirtual 144, 3) := by decide +kernel
theorem dX11_reason_21 : decode cX11_reason 21 = .ok (.goto 4, 3) := by decide +kernel
theorem dX11_reason_24 : decode cX11_reason 24 = .ok (.iconst (-1), 1) := by decide +kernel
theorem dX11_reason_25 : decode cX11_reason 25 = .ok (.ireturn, 1) := by decide +kernel
theorem dX11_trail_0 : decode cX11_trail 0 = .ok (.iload_n 1, 1) := by decide +kernel
theorem dX11_trail_1 : decode cX11_trail 1 = .ok (.invokestatic 104, 3) := by decide +kernel
theorem dX11_trail_4 : decode cX11_trail 4 = .ok (.ifCond .eq 7, 3) := by decide +kernel
theorem dX11_trail_7 : decode cX11_trail 7 = .ok (.iload_n 2, 1) := by decide +kernel
theorem dX11_trail_8 : decode cX11_trail 8 = .ok (.ifCond .ge 5, 3) := by decide +kernel
theorem dX11_trail_11 : decode cX11_trail 11 = .ok (.iconst (-1), 1) := by decide +kernel
theorem dX11_trail_12 : decode cX11_trail 12 = .ok (.ireturn, 1) := by decide +kernel
theorem dX11_trail_13 : decode cX11_trail 13 = .ok (.aload_n 0, 1) := by decide +kernel
theorem dX11_trail_14 : decode cX11_trail 14 = .ok (.iload_n 1, 1) := by decide +kernel
theorem dX11_trail_15 : decode cX11_trail 15 = .ok (.invokevirtual 141, 3) := by decide +kernel
theorem dX11_trail_18 : decode cX11_trail 18 = .ok (.istore_n 3, 1) := by decide +kernel
theorem dX11_trail_19 : decode cX11_trail 19 = .ok (.aload_n 0, 1) := by decide +kernel
theorem dX11_trail_20 : decode cX11_trail 20 = .ok (.iload_n 1, 1) := by decide +kernel
theorem dX11_trail_21 : decode cX11_trail 21 = .ok (.invokevirtual 107, 3) := by decide +kernel
theorem dX11_trail_24 : decode cX11_trail 24 = .ok (.istore 4, 2) := by decide +kernel
theorem dX11_trail_26 : decode cX11_trail 26 = .ok (.aload_n 0, 1) := by decide +kernel
theorem dX11_trail_27 : decode cX11_trail 27 = .ok (.iload 4, 2) := by decide +kernel
theorem dX11_trail_29 : decode cX11_trail 29 = .ok (.iload_n 3, 1) := by decide +kernel
theorem dX11_trail_30 : decode cX11_trail 30 = .ok (.invokevirtual 144, 3) := by decide +kernel
theorem dX11_trail_33 : decode cX11_trail 33 = .ok (.ifCond .eq 6, 3) := by decide +kernel
theorem dX11_trail_36 : decode cX11_trail 36 = .ok (.bipush (-5), 2) := by decide +kernel
theorem dX11_trail_38 : decode cX11_trail 38 = .ok (.ireturn, 1) := by decide +kernel
theorem dX11_trail_39 : decode cX11_trail 39 = .ok (.bipush (-6), 2) := by decide +kernel
theorem dX11_trail_41 : decode cX11_trail 41 = .ok (.istore 5, 2) := by decide +kernel
theorem dX11_trail_43 : decode cX11_trail 43 = .ok (.iconst 0, 1) := by decide +kernel
theorem dX11_trail_44 : decode cX11_trail 44 = .ok (.istore 6, 2) := by decide +kernel
theorem dX11_trail_46 : decode cX11_trail 46 = .ok (.iload 6, 2) := by decide +kernel
theorem dX11_trail_48 : decode cX11_trail 48 = .ok (.iload_n 2, 1) := by decide +kernel
theorem dX11_trail_49 : decode cX11_trail 49 = .ok (.if_icmp .gt 138, 3) := by decide +kernel
theorem dX11_trail_52 : decode cX11_trail 52 = .ok (.iload_n 3, 1) := by decide +kernel
theorem dX11_trail_53 : decode cX11_trail 53 = .ok (.ifCond .eq 134, 3) := by decide +kernel
theorem dX11_trail_56 : decode cX11_trail 56 = .ok (.bipush (-6), 2) := by decide +kernel
theorem dX11_trail_58 : decode cX11_trail 58 = .ok (.istore 5, 2) := by decide +kernel
theorem dX11_trail_60 : decode cX11_trail 60 = .ok (.aload_n 0, 1) := by decide +kernel
theorem dX11_trail_61 : decode cX11_trail 61 = .ok (.getfield 7, 3) := by decide +kernel
theorem dX11_trail_64 : decode cX11_trail 64 = .ok (.iconst 4, 1) := by decide +kernel
theorem dX11_trail_65 : decode cX11_trail 65 = .ok (.iaload, 1) := by decide +kernel
theorem dX11_trail_66 : decode cX11_trail 66 = .ok (.iconst 1, 1) := by decide +kernel
theorem dX11_trail_67 : decode cX11_trail 67 = .ok (.isub, 1) := by decide +kernel
theorem dX11_trail_68 : decode cX11_trail 68 = .ok (.istore 7, 2) := by decide +kernel
theorem dX11_trail_70 : decode cX11_trail 70 = .ok (.iload 7, 2) := by decide +kernel
theorem dX11_trail_72 : decode cX11_trail 72 = .ok (.ifCond .lt 75, 3) := by decide +kernel
theorem dX11_trail_75 : decode cX11_trail 75 = .ok (.iload_n 3, 1) := by decide +kernel
theorem dX11_trail_76 : decode cX11_trail 76 = .ok (.iload 7, 2) := by decide +kernel
theorem dX11_trail_78 : decode cX11_trail 78 = .ok (.ishr, 1) := by decide +kernel
theorem dX11_trail_79 : decode cX11_trail 79 = .ok (.iconst 1, 1) := by decide +kernel
theorem dX11_trail_80 : decode cX11_trail 80 = .ok (.iand, 1) := by decide +kernel
theorem dX11_trail_81 : decode cX11_trail 81 = .ok (.iconst 1, 1) := by decide +kernel
theorem dX11_trail_82 : decode cX11_trail 82 = .ok (.if_icmp .ne 18, 3) := by decide +kernel
theorem dX11_trail_85 : decode cX11_trail 85 = .ok (.aload_n 0, 1) := by decide +kernel
theorem dX11_trail_86 : decode cX11_trail 86 = .ok (.iload 7, 2) := by decide +kernel
theorem dX11_trail_88 : decode cX11_trail 88 = .ok (.iload 4, 2) := by decide +kernel
theorem dX11_trail_90 : decode cX11_trail 90 = .ok (.invokevirtual 116, 3) := by decide +kernel
theorem dX11_trail_93 : decode cX11_trail 93 = .ok (.ifCond .eq 7, 3) := by decide +kernel
theorem dX11_trail_96 : decode cX11_trail 96 = .ok (.iconst 1, 1) := by decide +kernel
theorem dX11_trail_97 : decode cX11_trail 97 = .ok (.goto 4, 3) := by decide +kernel
theorem dX11_trail_100 : decode cX11_trail 100 = .ok (.iconst 0, 1) := by decide +kernel
theorem dX11_trail_101 : decode cX11_trail 101 = .ok (.istore 8, 2) := by decide +kernel
theorem dX11_trail_103 : decode cX11_trail 103 = .ok (.iload 8, 2) := by decide +kernel
theorem dX11_trail_105 : decode cX11_trail 105 = .ok (.ifCond .eq 32, 3) := by decide +kernel
theorem dX11_trail_108 : decode cX11_trail 108 = .ok (.aload_n 0, 1) := by decide +kernel
theorem dX11_trail_109 : decode cX11_trail 109 = .ok (.aload_n 0, 1) := by decide +kernel
theorem dX11_trail_110 : decode cX11_trail 110 = .ok (.iload 7, 2) := by decide +kernel
theorem dX11_trail_112 : decode cX11_trail 112 = .ok (.iload 4, 2) := by decide +kernel
theorem dX11_trail_114 : decode cX11_trail 114 = .ok (.invokevirtual 110, 3) := by decide +kernel
theorem dX11_trail_117 : decode cX11_trail 117 = .ok (.iload_n 3, 1) := by decide +kernel
theorem dX11_trail_118 : decode cX11_trail 118 = .ok (.iconst 1, 1) := by decide +kernel
theorem dX11_trail_119 : decode cX11_trail 119 = .ok (.iload 7, 2) := by decide +kernel
theorem dX11_trail_121 : decode cX11_trail 121 = .ok (.ishl, 1) := by decide +kernel
theorem dX11_trail_122 : decode cX11_trail 122 = .ok (.iconst (-1), 1) := by decide +kernel
theorem dX11_trail_123 : decode cX11_trail 123 = .ok (.ixor, 1) := by decide +kernel
theorem dX11_trail_124 : decode cX11_trail 124 = .ok (.iand, 1) := by decide +kernel
theorem dX11_trail_125 : decode cX11_trail 125 = .ok (.invokevirtual 144, 3) := by decide +kernel
theorem dX11_trail_128 : decode cX11_trail 128 = .ok (.iconst 2, 1) := by decide +kernel
theorem dX11_trail_129 : decode cX11_trail 129 = .ok (.if_icmp .ge 8, 3) := by decide +kernel
theorem dX11_trail_132 : decode cX11_trail 132 = .ok (.iload 7, 2) := by decide +kernel
theorem dX11_trail_134 : decode cX11_trail 134 = .ok (.goto 5, 3) := by decide +kernel
theorem dX11_trail_137 : decode cX11_trail 137 = .ok (.iload 5, 2) := by decide +kernel
theorem dX11_trail_139 : decode cX11_trail 139 = .ok (.istore 5, 2) := by decide +kernel
theorem dX11_trail_141 : decode cX11_trail 141 = .ok (.iinc 7 (-1), 3) := by decide +kernel
theorem dX11_trail_144 : decode cX11_trail 144 = .ok (.goto (-74), 3) := by decide +kernel
theorem dX11_trail_147 : decode cX11_trail 147 = .ok (.iload_n 3, 1) := by decide +kernel
theorem dX11_trail_148 : decode cX11_trail 148 = .ok (.iconst 1, 1) := by decide +kernel
theorem dX11_trail_149 : decode cX11_trail 149 = .ok (.iload 5, 2) := by decide +kernel
theorem dX11_trail_151 : decode cX11_trail 151 = .ok (.ishl, 1) := by decide +kernel
theorem dX11_trail_152 : decode cX11_trail 152 = .ok (.iconst (-1), 1) := by decide +kernel
theorem dX11_trail_153 : decode cX11_trail 153 = .ok (.ixor, 1) := by decide +kernel
theorem dX11_trail_154 : decode cX11_trail 154 = .ok (.iand, 1) := by decide +kernel
theorem dX11_trail_155 : decode cX11_trail 155 = .ok (.istore_n 3, 1) := by decide +kernel
theorem dX11_trail_156 : decode cX11_trail 156 = .ok (.aload_n 0, 1) := by decide +kernel
theorem dX11_trail_157 : decode cX11_trail 157 = .ok (.iload 5, 2) := by decide +kernel
theorem dX11_trail_159 : decode cX11_trail 159 = .ok (.iload 4, 2) := by decide +kernel
theorem dX11_trail_161 : decode cX11_trail 161 = .ok (.invokevirtual 110, 3) := by decide +kernel
theorem dX11_trail_164 : decode cX11_trail 164 = .ok (.istore 4, 2) := by decide +kernel
theorem dX11_trail_166 : decode cX11_trail 166 = .ok (.iload 6, 2) := by decide +kernel
theorem dX11_trail_168 : decode cX11_trail 168 = .ok (.iload_n 2, 1) := by decide +kernel
theorem dX11_trail_169 : decode cX11_trail 169 = .ok (.if_icmp .ne 8, 3) := by decide +kernel
theorem dX11_trail_172 : decode cX11_trail 172 = .ok (.iload 5, 2) := by decide +kernel
theorem dX11_trail_174 : decode cX11_trail 174 = .ok (.goto 5, 3) := by decide +kernel
theorem dX11_trail_177 : decode cX11_trail 177 = .ok (.bipush (-6), 2) := by decide +kernel
theorem dX11_trail_179 : decode cX11_trail 179 = .ok (.istore 5, 2) := by decide +kernel
theorem dX11_trail_181 : decode cX11_trail 181 = .ok (.iinc 6 1, 3) := by decide +kernel
theorem dX11_trail_184 : decode cX11_trail 184 = .ok (.goto (-138), 3) := by decide +kernel
theorem dX11_trail_187 : decode cX11_trail 187 = .ok (.iload 5, 2) := by decide +kernel
theorem dX11_trail_189 : decode cX11_trail 189 = .ok (.ireturn, 1) := by decide +kernel
theorem dX11_pairs_0 : decode cX11_pairs 0 = .ok (.iconst 0, 1) := by decide +kernel
theorem dX11_pairs_1 : decode cX11_pairs 1 = .ok (.istore_n 2, 1) := by decide +kernel
theorem dX11_pairs_2 : decode cX11_pairs 2 = .ok (.iconst 0, 1) := by decide +kernel
theorem dX11_pairs_3 : decode cX11_pairs 3 = .ok (.istore_n 3, 1) := by decide +kernel
theorem dX11_pairs_4 : decode cX11_pairs 4 = .ok (.iload_n 3, 1) := by decide +kernel
theorem dX11_pairs_5 : decode cX11_pairs 5 = .ok (.bipush 10, 2) := by decide +kernel
theorem dX11_pairs_7 : decode cX11_pairs 7 = .ok (.if_icmp .ge 45, 3) := by decide +kernel
theorem dX11_pairs_10 : decode cX11_pairs 10 = .ok (.aload_n 0, 1) := by decide +kernel
theorem dX11_pairs_11 : decode cX11_pairs 11 = .ok (.iload_n 3, 1) := by decide +kernel
theorem dX11_pairs_12 : decode cX11_pairs 12 = .ok (.iload_n 1, 1) := by decide +kernel
theorem dX11_pairs_13 : decode cX11_pairs 13 = .ok (.invokevirtual 135, 3) := by decide +kernel
theorem dX11_pairs_16 : decode cX11_pairs 16 = .ok (.istore 4, 2) := by decide +kernel
theorem dX11_pairs_18 : decode cX11_pairs 18 = .ok (.iload_n 3, 1) := by decide +kernel
theorem dX11_pairs_19 : decode cX11_pairs 19 = .ok (.iconst 1, 1) := by decide +kernel
theorem dX11_pairs_20 : decode cX11_pairs 20 = .ok (.iadd, 1) := by decide +kernel
theorem dX11_pairs_21 : decode cX11_pairs 21 = .ok (.istore 5, 2) := by decide +kernel
theorem dX11_pairs_23 : decode cX11_pairs 23 = .ok (.iload 5, 2) := by decide +kernel
theorem dX11_pairs_25 : decode cX11_pairs 25 = .ok (.bipush 10, 2) := by decide +kernel
theorem dX11_pairs_27 : decode cX11_pairs 27 = .ok (.if_icmp .ge 19, 3) := by decide +kernel
theorem dX11_pairs_30 : decode cX11_pairs 30 = .ok (.iload_n 2, 1) := by decide +kernel
theorem dX11_pairs_31 : decode cX11_pairs 31 = .ok (.iload 4, 2) := by decide +kernel
theorem dX11_pairs_33 : decode cX11_pairs 33 = .ok (.iload 5, 2) := by decide +kernel
theorem dX11_pairs_35 : decode cX11_pairs 35 = .ok (.ishr, 1) := by decide +kernel
theorem dX11_pairs_36 : decode cX11_pairs 36 = .ok (.iconst 1, 1) := by decide +kernel
theorem dX11_pairs_37 : decode cX11_pairs 37 = .ok (.iand, 1) := by decide +kernel
theorem dX11_pairs_38 : decode cX11_pairs 38 = .ok (.iadd, 1) := by decide +kernel
theorem dX11_pairs_39 : decode cX11_pairs 39 = .ok (.istore_n 2, 1) := by decide +kernel
theorem dX11_pairs_40 : decode cX11_pairs 40 = .ok (.iinc 5 1, 3) := by decide +kernel
theorem dX11_pairs_43 : decode cX11_pairs 43 = .ok (.goto (-20), 3) := by decide +kernel
theorem dX11_pairs_46 : decode cX11_pairs 46 = .ok (.iinc 3 1, 3) := by decide +kernel
theorem dX11_pairs_49 : decode cX11_pairs 49 = .ok (.goto (-45), 3) := by decide +kernel
theorem dX11_pairs_52 : decode cX11_pairs 52 = .ok (.iload_n 2, 1) := by decide +kernel
theorem dX11_pairs_53 : decode cX11_pairs 53 = .ok (.ireturn, 1) := by decide +kernel
theorem dX11_worstGap_0 : decode cX11_worstGap 0 = .ok (.iload_n 1, 1) := by decide +kernel
theorem dX11_worstGap_1 : decode cX11_worstGap 1 = .ok (.iconst 0, 1) := by decide +kernel
theorem dX11_worstGap_2 : decode cX11_worstGap 2 = .ok (.iconst 1, 1) := by decide +kernel
theorem dX11_worstGap_3 : decode cX11_worstGap 3 = .ok (.invokestatic 36, 3) := by decide +kernel
theorem dX11_worstGap_6 : decode cX11_worstGap 6 = .ok (.ifCond .ne 6, 3) := by decide +kernel
theorem dX11_worstGap_9 : decode cX11_worstGap 9 = .ok (.bipush (-2), 2) := by decide +kernel
theorem dX11_worstGap_11 : decode cX11_worstGap 11 = .ok (.ireturn, 1) := by decide +kernel
theorem dX11_worstGap_12 : decode cX11_worstGap 12 = .ok (.aload_n 0, 1) := by decide +kernel
theorem dX11_worstGap_13 : decode cX11_worstGap 13 = .ok (.aload_n 0, 1) := by decide +kernel
theorem dX11_worstGap_14 : decode cX11_worstGap 14 = .ok (.invokevirtual 69, 3) := by decide +kernel
theorem dX11_worstGap_17 : decode cX11_worstGap 17 = .ok (.invokevirtual 147, 3) := by decide +kernel
theorem dX11_worstGap_20 : decode cX11_worstGap 20 = .ok (.istore_n 2, 1) := by decide +kernel
theorem dX11_worstGap_21 : decode cX11_worstGap 21 = .ok (.bipush (-6), 2) := by decide +kernel
theorem dX11_worstGap_23 : decode cX11_worstGap 23 = .ok (.istore_n 3, 1) := by decide +kernel
theorem dX11_worstGap_24 : decode cX11_worstGap 24 = .ok (.iconst 0, 1) := by decide +kernel
theorem dX11_worstGap_25 : decode cX11_worstGap 25 = .ok (.istore 4, 2) := by decide +kernel
theorem dX11_worstGap_27 : decode cX11_worstGap 27 = .ok (.iconst 0, 1) := by decide +kernel
theorem dX11_worstGap_28 : decode cX11_worstGap 28 = .ok (.istore 5, 2) := by decide +kernel
theorem dX11_worstGap_30 : decode cX11_worstGap 30 = .ok (.iload 5, 2) := by decide +kernel
theorem dX11_worstGap_32 : decode cX11_worstGap 32 = .ok (.aload_n 0, 1) := by decide +kernel
theorem dX11_worstGap_33 : decode cX11_worstGap 33 = .ok (.getfield 7, 3) := by decide +kernel
theorem dX11_worstGap_36 : decode cX11_worstGap 36 = .ok (.iconst 4, 1) := by decide +kernel
theorem dX11_worstGap_37 : decode cX11_worstGap 37 = .ok (.iaload, 1) := by decide +kernel
theorem dX11_worstGap_38 : decode cX11_worstGap 38 = .ok (.if_icmp .ge 58, 3) := by decide +kernel
theorem dX11_worstGap_41 : decode cX11_worstGap 41 = .ok (.iload_n 2, 1) := by decide +kernel
theorem dX11_worstGap_42 : decode cX11_worstGap 42 = .ok (.aload_n 0, 1) := by decide +kernel
theorem dX11_worstGap_43 : decode cX11_worstGap 43 = .ok (.aload_n 0, 1) := by decide +kernel
theorem dX11_worstGap_44 : decode cX11_worstGap 44 = .ok (.invokevirtual 69, 3) := by decide +kernel
theorem dX11_worstGap_47 : decode cX11_worstGap 47 = .ok (.iconst 1, 1) := by decide +kernel
theorem dX11_worstGap_48 : decode cX11_worstGap 48 = .ok (.iload 5, 2) := by decide +kernel
theorem dX11_worstGap_50 : decode cX11_worstGap 50 = .ok (.ishl, 1) := by decide +kernel
theorem dX11_worstGap_51 : decode cX11_worstGap 51 = .ok (.iconst (-1), 1) := by decide +kernel
theorem dX11_worstGap_52 : decode cX11_worstGap 52 = .ok (.ixor, 1) := by decide +kernel
theorem dX11_worstGap_53 : decode cX11_worstGap 53 = .ok (.iand, 1) := by decide +kernel
theorem dX11_worstGap_54 : decode cX11_worstGap 54 = .ok (.invokevirtual 147, 3) := by decide +kernel
theorem dX11_worstGap_57 : decode cX11_worstGap 57 = .ok (.isub, 1) := by decide +kernel
theorem dX11_worstGap_58 : decode cX11_worstGap 58 = .ok (.istore 6, 2) := by decide +kernel
theorem dX11_worstGap_60 : decode cX11_worstGap 60 = .ok (.iload 6, 2) := by decide +kernel
theorem dX11_worstGap_62 : decode cX11_worstGap 62 = .ok (.iload 4, 2) := by decide +kernel
theorem dX11_worstGap_64 : decode cX11_worstGap 64 = .ok (.if_icmp .le 8, 3) := by decide +kernel
theorem dX11_worstGap_67 : decode cX11_worstGap 67 = .ok (.iload 5, 2) := by decide +kernel
theorem dX11_worstGap_69 : decode cX11_worstGap 69 = .ok (.goto 4, 3) := by decide +kernel
theorem dX11_worstGap_72 : decode cX11_worstGap 72 = .ok (.iload_n 3, 1) := by decide +kernel
theorem dX11_worstGap_73 : decode cX11_worstGap 73 = .ok (.istore_n 3, 1) := by decide +kernel
theorem dX11_worstGap_74 : decode cX11_worstGap 74 = .ok (.iload 6, 2) := by decide +kernel
theorem dX11_worstGap_76 : decode cX11_worstGap 76 = .ok (.iload 4, 2) := by decide +kernel
theorem dX11_worstGap_78 : decode cX11_worstGap 78 = .ok (.if_icmp .le 8, 3) := by decide +kernel
theorem dX11_worstGap_81 : decode cX11_worstGap 81 = .ok (.iload 6, 2) := by decide +kernel
theorem dX11_worstGap_83 : decode cX11_worstGap 83 = .ok (.goto 5, 3) := by decide +kernel
theorem dX11_worstGap_86 : decode cX11_worstGap 86 = .ok (.iload 4, 2) := by decide +kernel
theorem dX11_worstGap_88 : decode cX11_worstGap 88 = .ok (.istore 4, 2) := by decide +kernel
theorem dX11_worstGap_90 : decode cX11_worstGap 90 = .ok (.iinc 5 1, 3) := by decide +kernel
theorem dX11_worstGap_93 : decode cX11_worstGap 93 = .ok (.goto (-63), 3) := by decide +kernel
theorem dX11_worstGap_96 : decode cX11_worstGap 96 = .ok (.iload_n 3, 1) := by decide +kernel
theorem dX11_worstGap_97 : decode cX11_worstGap 97 = .ok (.bipush (-6), 2) := by decide +kernel
theorem dX11_worstGap_99 : decode cX11_worstGap 99 = .ok (.if_icmp .ne 8, 3) := by decide +kernel
theorem dX11_worstGap_102 : decode cX11_worstGap 102 = .ok (.bipush (-6), 2) := by decide +kernel
theorem dX11_worstGap_104 : decode cX11_worstGap 104 = .ok (.goto 13, 3) := by decide +kernel
theorem dX11_worstGap_107 : decode cX11_worstGap 107 = .ok (.iload_n 1, 1) := by decide +kernel
theorem dX11_worstGap_108 : decode cX11_worstGap 108 = .ok (.ifCond .ne 7, 3) := by decide +kernel
theorem dX11_worstGap_111 : decode cX11_worstGap 111 = .ok (.iload_n 3, 1) := by decide +kernel
theorem dX11_worstGap_112 : decode cX11_worstGap 112 = .ok (.goto 5, 3) := by decide +kernel
theorem dX11_worstGap_115 : decode cX11_worstGap 115 = .ok (.iload 4, 2) := by decide +kernel
theorem dX11_worstGap_117 : decode cX11_worstGap 117 = .ok (.ireturn, 1) := by decide +kernel
theorem dX11_crossers_0 : decode cX11_crossers 0 = .ok (.iconst 0, 1) := by decide +kernel
theorem dX11_crossers_1 : decode cX11_crossers 1 = .ok (.istore_n 3, 1) := by decide +kernel
theorem dX11_crossers_2 : decode cX11_crossers 2 = .ok (.iconst 0, 1) := by decide +kernel
theorem dX11_crossers_3 : decode cX11_crossers 3 = .ok (.istore 4, 2) := by decide +kernel
theorem dX11_crossers_5 : decode cX11_crossers 5 = .ok (.iload 4, 2) := by decide +kernel
theorem dX11_crossers_7 : decode cX11_crossers 7 = .ok (.iconst 4, 1) := by decide +kernel
theorem dX11_crossers_8 : decode cX11_crossers 8 = .ok (.if_icmp .ge 47, 3) := by decide +kernel
theorem dX11_crossers_11 : decode cX11_crossers 11 = .ok (.iload_n 3, 1) := by decide +kernel
theorem dX11_crossers_12 : decode cX11_crossers 12 = .ok (.iload_n 2, 1) := by decide +kernel
theorem dX11_crossers_13 : decode cX11_crossers 13 = .ok (.ifCond .eq 16, 3) := by decide +kernel
theorem dX11_crossers_16 : decode cX11_crossers 16 = .ok (.aload_n 0, 1) := by decide +kernel
theorem dX11_crossers_17 : decode cX11_crossers 17 = .ok (.iload 4, 2) := by decide +kernel
theorem dX11_crossers_19 : decode cX11_crossers 19 = .ok (.iload_n 1, 1) := by decide +kernel
theorem dX11_crossers_20 : decode cX11_crossers 20 = .ok (.invokevirtual 96, 3) := by decide +kernel
theorem dX11_crossers_23 : decode cX11_crossers 23 = .ok (.ifCond .eq 23, 3) := by decide +kernel
theorem dX11_crossers_26 : decode cX11_crossers 26 = .ok (.goto 13, 3) := by decide +kernel
theorem dX11_crossers_29 : decode cX11_crossers 29 = .ok (.aload_n 0, 1) := by decide +kernel
theorem dX11_crossers_30 : decode cX11_crossers 30 = .ok (.iload 4, 2) := by decide +kernel
theorem dX11_crossers_32 : decode cX11_crossers 32 = .ok (.iload_n 1, 1) := by decide +kernel
theorem dX11_crossers_33 : decode cX11_crossers 33 = .ok (.invokevirtual 92, 3) := by decide +kernel
theorem dX11_crossers_36 : decode cX11_crossers 36 = .ok (.ifCond .eq 10, 3) := by decide +kernel
theorem dX11_crossers_39 : decode cX11_crossers 39 = .ok (.iconst 1, 1) := by decide +kernel
theorem dX11_crossers_40 : decode cX11_crossers 40 = .ok (.iload 4, 2) := by decide +kernel
theorem dX11_crossers_42 : decode cX11_crossers 42 = .ok (.ishl, 1) := by decide +kernel
theorem dX11_crossers_43 : decode cX11_crossers 43 = .ok (.goto 4, 3) := by decide +kernel
theorem dX11_crossers_46 : decode cX11_crossers 46 = .ok (.iconst 0, 1) := by decide +kernel
theorem dX11_crossers_47 : decode cX11_crossers 47 = .ok (.ior, 1) := by decide +kernel
theorem dX11_crossers_48 : decode cX11_crossers 48 = .ok (.istore_n 3, 1) := by decide +kernel
theorem dX11_crossers_49 : decode cX11_crossers 49 = .ok (.iinc 4 1, 3) := by decide +kernel
theorem dX11_crossers_52 : decode cX11_crossers 52 = .ok (.goto (-47), 3) := by decide +kernel
theorem dX11_crossers_55 : decode cX11_crossers 55 = .ok (.iload_n 3, 1) := by decide +kernel
theorem dX11_crossers_56 : decode cX11_crossers 56 = .ok (.ireturn, 1) := by decide +kernel
theorem dX11_board_0 : decode cX11_board 0 = .ok (.aload_n 0, 1) := by decide +kernel
theorem dX11_board_1 : decode cX11_board 1 = .ok (.iload_n 1, 1) := by decide +kernel
theorem dX11_board_2 : decode cX11_board 2 = .ok (.invokevirtual 62, 3) := by decide +kernel
theorem dX11_board_5 : decode cX11_board 5 = .ok (.ifCond .ne 5, 3) := by decide +kernel
theorem dX11_board_8 : decode cX11_board 8 = .ok (.iconst (-1), 1) := by decide +kernel
theorem dX11_board_9 : decode cX11_board 9 = .ok (.ireturn, 1) := by decide +kernel
theorem dX11_board_10 : decode cX11_board 10 = .ok (.iload_n 2, 1) := by decide +kernel
theorem dX11_board_11 : decode cX11_board 11 = .ok (.tableswitch 71 0 6 #[41, 41, 41, 41, 48, 48, 64], 41) := by decide +kernel
theorem dX11_board_52 : decode cX11_board 52 = .ok (.aload_n 0, 1) := by decide +kernel
theorem dX11_board_53 : decode cX11_board 53 = .ok (.iload_n 1, 1) := by decide +kernel
theorem dX11_board_54 : decode cX11_board 54 = .ok (.iload_n 2, 1) := by decide +kernel
theorem dX11_board_55 : decode cX11_board 55 = .ok (.invokevirtual 65, 3) := by decide +kernel
theorem dX11_board_58 : decode cX11_board 58 = .ok (.ireturn, 1) := by decide +kernel
theorem dX11_board_59 : decode cX11_board 59 = .ok (.aload_n 0, 1) := by decide +kernel
theorem dX11_board_60 : decode cX11_board 60 = .ok (.iload_n 1, 1) := by decide +kernel
theorem dX11_board_61 : decode cX11_board 61 = .ok (.iload_n 2, 1) := by decide +kernel
theorem dX11_board_62 : decode cX11_board 62 = .ok (.iconst 5, 1) := by decide +kernel
theorem dX11_board_63 : decode cX11_board 63 = .ok (.if_icmp .ne 7, 3) := by decide +kernel
theorem dX11_board_66 : decode cX11_board 66 = .ok (.iconst 1, 1) := by decide +kernel
theorem dX11_board_67 : decode cX11_board 67 = .ok (.goto 4, 3) := by decide +kernel
theorem dX11_board_70 : decode cX11_board 70 = .ok (.iconst 0, 1) := by decide +kernel
theorem dX11_board_71 : decode cX11_board 71 = .ok (.invokevirtual 150, 3) := by decide +kernel
theorem dX11_board_74 : decode cX11_board 74 = .ok (.ireturn, 1) := by decide +kernel
theorem dX11_board_75 : decode cX11_board 75 = .ok (.aload_n 0, 1) := by decide +kernel
theorem dX11_board_76 : decode cX11_board 76 = .ok (.iload_n 1, 1) := by decide +kernel
theorem dX11_board_77 : decode cX11_board 77 = .ok (.iconst 4, 1) := by decide +kernel
theorem dX11_board_78 : decode cX11_board 78 = .ok (.invokevirtual 65, 3) := by decide +kernel
theorem dX11_board_81 : decode cX11_board 81 = .ok (.ireturn, 1) := by decide +kernel
theorem dX11_board_82 : decode cX11_board 82 = .ok (.bipush (-2), 2) := by decide +kernel
theorem dX11_board_84 : decode cX11_board 84 = .ok (.ireturn, 1) := by decide +kernel
theorem dX11_ghost_0 : decode cX11_ghost 0 = .ok (.iload_n 1, 1) := by decide +kernel
theorem dX11_ghost_1 : decode cX11_ghost 1 = .ok (.invokestatic 104, 3) := by decide +kernel
theorem dX11_ghost_4 : decode cX11_ghost 4 = .ok (.ifCond .ne 5, 3) := by decide +kernel
theorem dX11_ghost_7 : decode cX11_ghost 7 = .ok (.iconst (-1), 1) := by decide +kernel
theorem dX11_ghost_8 : decode cX11_ghost 8 = .ok (.ireturn, 1) := by decide +kernel
theorem dX11_ghost_9 : decode cX11_ghost 9 = .ok (.iload_n 2, 1) := by decide +kernel
theorem dX11_ghost_10 : decode cX11_ghost 10 = .ok (.tableswitch 122 0 4 #[34, 34, 41, 100, 115], 34) := by decide +kernel
theorem dX11_ghost_44 : decode cX11_ghost 44 = .ok (.aload_n 0, 1) := by decide +kernel
theorem dX11_ghost_45 : decode cX11_ghost 45 = .ok (.iload_n 1, 1) := by decide +kernel
theorem dX11_ghost_46 : decode cX11_ghost 46 = .ok (.iload_n 2, 1) := by decide +kernel
theorem dX11_ghost_47 : decode cX11_ghost 47 = .ok (.invokevirtual 40, 3) := by decide +kernel
theorem dX11_ghost_50 : decode cX11_ghost 50 = .ok (.ireturn, 1) := by decide +kernel
theorem dX11_ghost_51 : decode cX11_ghost 51 = .ok (.iconst 0, 1) := by decide +kernel
theorem dX11_ghost_52 : decode cX11_ghost 52 = .ok (.istore_n 3, 1) := by decide +kernel
theorem dX11_ghost_53 : decode cX11_ghost 53 = .ok (.iconst 0, 1) := by decide +kernel
theorem dX11_ghost_54 : decode cX11_ghost 54 = .ok (.istore 4, 2) := by decide +kernel
theorem dX11_ghost_56 : decode cX11_ghost 56 = .ok (.iload 4, 2) := by decide +kernel
theorem dX11_ghost_58 : decode cX11_ghost 58 = .ok (.aload_n 0, 1) := by decide +kernel
theorem dX11_ghost_59 : decode cX11_ghost 59 = .ok (.getfield 7, 3) := by decide +kernel
theorem dX11_ghost_62 : decode cX11_ghost 62 = .ok (.iconst 4, 1) := by decide +kernel
theorem dX11_ghost_63 : decode cX11_ghost 63 = .ok (.iaload, 1) := by decide +kernel
theorem dX11_ghost_64 : decode cX11_ghost 64 = .ok (.if_icmp .ge 44, 3) := by decide +kernel
theorem dX11_ghost_67 : decode cX11_ghost 67 = .ok (.iload_n 3, 1) := by decide +kernel
theorem dX11_ghost_68 : decode cX11_ghost 68 = .ok (.aload_n 0, 1) := by decide +kernel
theorem dX11_ghost_69 : decode cX11_ghost 69 = .ok (.iload 4, 2) := by decide +kernel
theorem dX11_ghost_71 : decode cX11_ghost 71 = .ok (.aload_n 0, 1) := by decide +kernel
theorem dX11_ghost_72 : decode cX11_ghost 72 = .ok (.iload_n 1, 1) := by decide +kernel
theorem dX11_ghost_73 : decode cX11_ghost 73 = .ok (.invokevirtual 107, 3) := by decide +kernel
theorem dX11_ghost_76 : decode cX11_ghost 76 = .ok (.invokevirtual 116, 3) := by decide +kernel
theorem dX11_ghost_79 : decode cX11_ghost 79 = .ok (.ifCond .eq 20, 3) := by decide +kernel
theorem dX11_ghost_82 : decode cX11_ghost 82 = .ok (.aload_n 0, 1) := by decide +kernel
theorem dX11_ghost_83 : decode cX11_ghost 83 = .ok (.iload_n 1, 1) := by decide +kernel
theorem dX11_ghost_84 : decode cX11_ghost 84 = .ok (.iload 4, 2) := by decide +kernel
theorem dX11_ghost_86 : decode cX11_ghost 86 = .ok (.invokevirtual 96, 3) := by decide +kernel
theorem dX11_ghost_89 : decode cX11_ghost 89 = .ok (.ifCond .eq 10, 3) := by decide +kernel
theorem dX11_ghost_92 : decode cX11_ghost 92 = .ok (.iconst 1, 1) := by decide +kernel
theorem dX11_ghost_93 : decode cX11_ghost 93 = .ok (.iload 4, 2) := by decide +kernel
theorem dX11_ghost_95 : decode cX11_ghost 95 = .ok (.ishl, 1) := by decide +kernel
theorem dX11_ghost_96 : decode cX11_ghost 96 = .ok (.goto 4, 3) := by decide +kernel
theorem dX11_ghost_99 : decode cX11_ghost 99 = .ok (.iconst 0, 1) := by decide +kernel
theorem dX11_ghost_100 : decode cX11_ghost 100 = .ok (.ior, 1) := by decide +kernel
theorem dX11_ghost_101 : decode cX11_ghost 101 = .ok (.istore_n 3, 1) := by decide +kernel
theorem dX11_ghost_102 : decode cX11_ghost 102 = .ok (.iinc 4 1, 3) := by decide +kernel
theorem dX11_ghost_105 : decode cX11_ghost 105 = .ok (.goto (-49), 3) := by decide +kernel
theorem dX11_ghost_108 : decode cX11_ghost 108 = .ok (.iload_n 3, 1) := by decide +kernel
theorem dX11_ghost_109 : decode cX11_ghost 109 = .ok (.ireturn, 1) := by decide +kernel
theorem dX11_ghost_110 : decode cX11_ghost 110 = .ok (.aload_n 0, 1) := by decide +kernel
theorem dX11_ghost_111 : decode cX11_ghost 111 = .ok (.aload_n 0, 1) := by decide +kernel
theorem dX11_ghost_112 : decode cX11_ghost 112 = .ok (.iload_n 1, 1) := by decide +kernel
theorem dX11_ghost_113 : decode cX11_ghost 113 = .ok (.invokevirtual 107, 3) := by decide +kernel
theorem dX11_ghost_116 : decode cX11_ghost 116 = .ok (.aload_n 0, 1) := by decide +kernel
theorem dX11_ghost_117 : decode cX11_ghost 117 = .ok (.iload_n 1, 1) := by decide +kernel
theorem dX11_ghost_118 : decode cX11_ghost 118 = .ok (.invokevirtual 122, 3) := by decide +kernel
theorem dX11_ghost_121 : decode cX11_ghost 121 = .ok (.invokevirtual 135, 3) := by decide +kernel
theorem dX11_ghost_124 : decode cX11_ghost 124 = .ok (.ireturn, 1) := by decide +kernel
theorem dX11_ghost_125 : decode cX11_ghost 125 = .ok (.aload_n 0, 1) := by decide +kernel
theorem dX11_ghost_126 : decode cX11_ghost 126 = .ok (.iload_n 1, 1) := by decide +kernel
theorem dX11_ghost_127 : decode cX11_ghost 127 = .ok (.iconst 2, 1) := by decide +kernel
theorem dX11_ghost_128 : decode cX11_ghost 128 = .ok (.invokevirtual 40, 3) := by decide +kernel
theorem dX11_ghost_131 : decode cX11_ghost 131 = .ok (.ireturn, 1) := by decide +kernel
theorem dX11_ghost_132 : decode cX11_ghost 132 = .ok (.bipush (-2), 2) := by decide +kernel
theorem dX11_ghost_134 : decode cX11_ghost 134 = .ok (.ireturn, 1) := by decide +kernel
theorem dX11_sleeperOf_0 : decode cX11_sleeperOf 0 = .ok (.aload_n 0, 1) := by decide +kernel
theorem dX11_sleeperOf_1 : decode cX11_sleeperOf 1 = .ok (.iload_n 1, 1) := by decide +kernel
theorem dX11_sleeperOf_2 : decode cX11_sleeperOf 2 = .ok (.invokevirtual 83, 3) := by decide +kernel
theorem dX11_sleeperOf_5 : decode cX11_sleeperOf 5 = .ok (.ifCond .ne 5, 3) := by decide +kernel
theorem dX11_sleeperOf_8 : decode cX11_sleeperOf 8 = .ok (.iconst (-1), 1) := by decide +kernel
theorem dX11_sleeperOf_9 : decode cX11_sleeperOf 9 = .ok (.ireturn, 1) := by decide +kernel
theorem dX11_sleeperOf_10 : decode cX11_sleeperOf 10 = .ok (.iload_n 2, 1) := by decide +kernel
theorem dX11_sleeperOf_11 : decode cX11_sleeperOf 11 = .ok (.iconst 0, 1) := by decide +kernel
theorem dX11_sleeperOf_12 : decode cX11_sleeperOf 12 = .ok (.iconst 3, 1) := by decide +kernel
theorem dX11_sleeperOf_13 : decode cX11_sleeperOf 13 = .ok (.invokestatic 36, 3) := by decide +kernel
theorem dX11_sleeperOf_16 : decode cX11_sleeperOf 16 = .ok (.ifCond .eq 10, 3) := by decide +kernel
theorem dX11_sleeperOf_19 : decode cX11_sleeperOf 19 = .ok (.aload_n 0, 1) := by decide +kernel
theorem dX11_sleeperOf_20 : decode cX11_sleeperOf 20 = .ok (.iload_n 1, 1) := by decide +kernel
theorem dX11_sleeperOf_21 : decode cX11_sleeperOf 21 = .ok (.iload_n 2, 1) := by decide +kernel
theorem dX11_sleeperOf_22 : decode cX11_sleeperOf 22 = .ok (.invokevirtual 80, 3) := by decide +kernel
theorem dX11_sleeperOf_25 : decode cX11_sleeperOf 25 = .ok (.ireturn, 1) := by decide +kernel
theorem dX11_sleeperOf_26 : decode cX11_sleeperOf 26 = .ok (.iload_n 2, 1) := by decide +kernel
theorem dX11_sleeperOf_27 : decode cX11_sleeperOf 27 = .ok (.iconst 4, 1) := by decide +kernel
theorem dX11_sleeperOf_28 : decode cX11_sleeperOf 28 = .ok (.if_icmp .eq 6, 3) := by decide +kernel
theorem dX11_sleeperOf_31 : decode cX11_sleeperOf 31 = .ok (.bipush (-2), 2) := by decide +kernel
theorem dX11_sleeperOf_33 : decode cX11_sleeperOf 33 = .ok (.ireturn, 1) := by decide +kernel
theorem dX11_sleeperOf_34 : decode cX11_sleeperOf 34 = .ok (.iconst 0, 1) := by decide +kernel
theorem dX11_sleeperOf_35 : decode cX11_sleeperOf 35 = .ok (.istore_n 3, 1) := by decide +kernel
theorem dX11_sleeperOf_36 : decode cX11_sleeperOf 36 = .ok (.iconst 0, 1) := by decide +kernel
theorem dX11_sleeperOf_37 : decode cX11_sleeperOf 37 = .ok (.istore 4, 2) := by decide +kernel
theorem dX11_sleeperOf_39 : decode cX11_sleeperOf 39 = .ok (.iload 4, 2) := by decide +kernel
theorem dX11_sleeperOf_41 : decode cX11_sleeperOf 41 = .ok (.aload_n 0, 1) := by decide +kernel
theorem dX11_sleeperOf_42 : decode cX11_sleeperOf 42 = .ok (.getfield 7, 3) := by decide +kernel
theorem dX11_sleeperOf_45 : decode cX11_sleeperOf 45 = .ok (.iconst 4, 1) := by decide +kernel
theorem dX11_sleeperOf_46 : decode cX11_sleeperOf 46 = .ok (.iaload, 1) := by decide +kernel
theorem dX11_sleeperOf_47 : decode cX11_sleeperOf 47 = .ok (.if_icmp .ge 36, 3) := by decide +kernel
theorem dX11_sleeperOf_50 : decode cX11_sleeperOf 50 = .ok (.iload_n 3, 1) := by decide +kernel
theorem dX11_sleeperOf_51 : decode cX11_sleeperOf 51 = .ok (.aload_n 0, 1) := by decide +kernel
theorem dX11_sleeperOf_52 : decode cX11_sleeperOf 52 = .ok (.iload 4, 2) := by decide +kernel
theorem dX11_sleeperOf_54 : decode cX11_sleeperOf 54 = .ok (.iload_n 1, 1) := by decide +kernel
theorem dX11_sleeperOf_55 : decode cX11_sleeperOf 55 = .ok (.invokevirtual 86, 3) := by decide +kernel
theorem dX11_sleeperOf_58 : decode cX11_sleeperOf 58 = .ok (.aload_n 0, 1) := by decide +kernel
theorem dX11_sleeperOf_59 : decode cX11_sleeperOf 59 = .ok (.iload_n 1, 1) := by decide +kernel
theorem dX11_sleeperOf_60 : decode cX11_sleeperOf 60 = .ok (.iconst 1, 1) := by decide +kernel
theorem dX11_sleeperOf_61 : decode cX11_sleeperOf 61 = .ok (.invokevirtual 80, 3) := by decide +kernel
theorem dX11_sleeperOf_64 : decode cX11_sleeperOf 64 = .ok (.if_icmp .lt 10, 3) := by decide +kernel
theorem dX11_sleeperOf_67 : decode cX11_sleeperOf 67 = .ok (.iconst 1, 1) := by decide +kernel
theorem dX11_sleeperOf_68 : decode cX11_sleeperOf 68 = .ok (.iload 4, 2) := by decide +kernel
theorem dX11_sleeperOf_70 : decode cX11_sleeperOf 70 = .ok (.ishl, 1) := by decide +kernel
theorem dX11_sleeperOf_71 : decode cX11_sleeperOf 71 = .ok (.goto 4, 3) := by decide +kernel
theorem dX11_sleeperOf_74 : decode cX11_sleeperOf 74 = .ok (.iconst 0, 1) := by decide +kernel
theorem dX11_sleeperOf_75 : decode cX11_sleeperOf 75 = .ok (.ior, 1) := by decide +kernel
theorem dX11_sleeperOf_76 : decode cX11_sleeperOf 76 = .ok (.istore_n 3, 1) := by decide +kernel
theorem dX11_sleeperOf_77 : decode cX11_sleeperOf 77 = .ok (.iinc 4 1, 3) := by decide +kernel
theorem dX11_sleeperOf_80 : decode cX11_sleeperOf 80 = .ok (.goto (-41), 3) := by decide +kernel
theorem dX11_sleeperOf_83 : decode cX11_sleeperOf 83 = .ok (.iload_n 3, 1) := by decide +kernel
theorem dX11_sleeperOf_84 : decode cX11_sleeperOf 84 = .ok (.ireturn, 1) := by decide +kernel
theorem dX11_awake_0 : decode cX11_awake 0 = .ok (.iconst 0, 1) := by decide +kernel
theorem dX11_awake_1 : decode cX11_awake 1 = .ok (.istore_n 1, 1) := by decide +kernel
theorem dX11_awake_2 : decode cX11_awake 2 = .ok (.iconst 0, 1) := by decide +kernel
theorem dX11_awake_3 : decode cX11_awake 3 = .ok (.istore_n 2, 1) := by decide +kernel
theorem dX11_awake_4 : decode cX11_awake 4 = .ok (.iload_n 2, 1) := by decide +kernel
theorem dX11_awake_5 : decode cX11_awake 5 = .ok (.aload_n 0, 1) := by decide +kernel
theorem dX11_awake_6 : decode cX11_awake 6 = .ok (.getfield 7, 3) := by decide +kernel
theorem dX11_awake_9 : decode cX11_awake 9 = .ok (.iconst 5, 1) := by decide +kernel
theorem dX11_awake_10 : decode cX11_awake 10 = .ok (.iaload, 1) := by decide +kernel
theorem dX11_awake_11 : decode cX11_awake 11 = .ok (.if_icmp .ge 28, 3) := by decide +kernel
theorem dX11_awake_14 : decode cX11_awake 14 = .ok (.iload_n 1, 1) := by decide +kernel
theorem dX11_awake_15 : decode cX11_awake 15 = .ok (.aload_n 0, 1) := by decide +kernel
theorem dX11_awake_16 : decode cX11_awake 16 = .ok (.iload_n 2, 1) := by decide +kernel
theorem dX11_awake_17 : decode cX11_awake 17 = .ok (.iconst 2, 1) := by decide +kernel
theorem dX11_awake_18 : decode cX11_awake 18 = .ok (.invokevirtual 80, 3) := by decide +kernel
theorem dX11_awake_21 : decode cX11_awake 21 = .ok (.ifCond .le 9, 3) := by decide +kernel
theorem dX11_awake_24 : decode cX11_awake 24 = .ok (.iconst 1, 1) := by decide +kernel
theorem dX11_awake_25 : decode cX11_awake 25 = .ok (.iload_n 2, 1) := by decide +kernel
theorem dX11_awake_26 : decode cX11_awake 26 = .ok (.ishl, 1) := by decide +kernel
theorem dX11_awake_27 : decode cX11_awake 27 = .ok (.goto 4, 3) := by decide +kernel
theorem dX11_awake_30 : decode cX11_awake 30 = .ok (.iconst 0, 1) := by decide +kernel
theorem dX11_awake_31 : decode cX11_awake 31 = .ok (.ior, 1) := by decide +kernel
theorem dX11_awake_32 : decode cX11_awake 32 = .ok (.istore_n 1, 1) := by decide +kernel
theorem dX11_awake_33 : decode cX11_awake 33 = .ok (.iinc 2 1, 3) := by decide +kernel
theorem dX11_awake_36 : decode cX11_awake 36 = .ok (.goto (-32), 3) := by decide +kernel
theorem dX11_awake_39 : decode cX11_awake 39 = .ok (.iload_n 1, 1) := by decide +kernel
theorem dX11_awake_40 : decode cX11_awake 40 = .ok (.ireturn, 1) := by decide +kernel
theorem dX11_count_0 : decode cX11_count 0 = .ok (.iload_n 1, 1) := by decide +kernel
theorem dX11_count_1 : decode cX11_count 1 = .ok (.tableswitch 128 0 10 #[59, 59, 59, 66, 73, 80, 85, 90, 97, 118, 123], 59) := by decide +kernel
theorem dX11_count_60 : decode cX11_count 60 = .ok (.aload_n 0, 1) := by decide +kernel
theorem dX11_count_61 : decode cX11_count 61 = .ok (.getfield 7, 3) := by decide +kernel
theorem dX11_count_64 : decode cX11_count 64 = .ok (.iload_n 1, 1) := by decide +kernel
theorem dX11_count_65 : decode cX11_count 65 = .ok (.iaload, 1) := by decide +kernel
theorem dX11_count_66 : decode cX11_count 66 = .ok (.ireturn, 1) := by decide +kernel
theorem dX11_count_67 : decode cX11_count 67 = .ok (.aload_n 0, 1) := by decide +kernel
theorem dX11_count_68 : decode cX11_count 68 = .ok (.getfield 7, 3) := by decide +kernel
theorem dX11_count_71 : decode cX11_count 71 = .ok (.iconst 4, 1) := by decide +kernel
theorem dX11_count_72 : decode cX11_count 72 = .ok (.iaload, 1) := by decide +kernel
theorem dX11_count_73 : decode cX11_count 73 = .ok (.ireturn, 1) := by decide +kernel
theorem dX11_count_74 : decode cX11_count 74 = .ok (.aload_n 0, 1) := by decide +kernel
theorem dX11_count_75 : decode cX11_count 75 = .ok (.getfield 7, 3) := by decide +kernel
theorem dX11_count_78 : decode cX11_count 78 = .ok (.iconst 5, 1) := by decide +kernel
theorem dX11_count_79 : decode cX11_count 79 = .ok (.iaload, 1) := by decide +kernel
theorem dX11_count_80 : decode cX11_count 80 = .ok (.ireturn, 1) := by decide +kernel
theorem dX11_count_81 : decode cX11_count 81 = .ok (.aload_n 0, 1) := by decide +kernel
theorem dX11_count_82 : decode cX11_count 82 = .ok (.invokevirtual 154, 3) := by decide +kernel
theorem dX11_count_85 : decode cX11_count 85 = .ok (.ireturn, 1) := by decide +kernel
theorem dX11_count_86 : decode cX11_count 86 = .ok (.aload_n 0, 1) := by decide +kernel
theorem dX11_count_87 : decode cX11_count 87 = .ok (.invokevirtual 89, 3) := by decide +kernel
theorem dX11_count_90 : decode cX11_count 90 = .ok (.ireturn, 1) := by decide +kernel
theorem dX11_count_91 : decode cX11_count 91 = .ok (.aload_n 0, 1) := by decide +kernel
theorem dX11_count_92 : decode cX11_count 92 = .ok (.getfield 7, 3) := by decide +kernel
theorem dX11_count_95 : decode cX11_count 95 = .ok (.iconst 3, 1) := by decide +kernel
theorem dX11_count_96 : decode cX11_count 96 = .ok (.iaload, 1) := by decide +kernel
theorem dX11_count_97 : decode cX11_count 97 = .ok (.ireturn, 1) := by decide +kernel
theorem dX11_count_98 : decode cX11_count 98 = .ok (.aload_n 0, 1) := by decide +kernel
theorem dX11_count_99 : decode cX11_count 99 = .ok (.getfield 7, 3) := by decide +kernel
theorem dX11_count_102 : decode cX11_count 102 = .ok (.iconst 0, 1) := by decide +kernel
theorem dX11_count_103 : decode cX11_count 103 = .ok (.iaload, 1) := by decide +kernel
theorem dX11_count_104 : decode cX11_count 104 = .ok (.aload_n 0, 1) := by decide +kernel
theorem dX11_count_105 : decode cX11_count 105 = .ok (.getfield 7, 3) := by decide +kernel
theorem dX11_count_108 : decode cX11_count 108 = .ok (.iconst 2, 1) := by decide +kernel
theorem dX11_count_109 : decode cX11_count 109 = .ok (.iaload, 1) := by decide +kernel
theorem dX11_count_110 : decode cX11_count 110 = .ok (.aload_n 0, 1) := by decide +kernel
theorem dX11_count_111 : decode cX11_count 111 = .ok (.getfield 7, 3) := by decide +kernel
theorem dX11_count_114 : decode cX11_count 114 = .ok (.iconst 0, 1) := by decide +kernel
theorem dX11_count_115 : decode cX11_count 115 = .ok (.iaload, 1) := by decide +kernel
theorem dX11_count_116 : decode cX11_count 116 = .ok (.irem, 1) := by decide +kernel
theorem dX11_count_117 : decode cX11_count 117 = .ok (.isub, 1) := by decide +kernel
theorem dX11_count_118 : decode cX11_count 118 = .ok (.ireturn, 1) := by decide +kernel
theorem dX11_count_119 : decode cX11_count 119 = .ok (.aload_n 0, 1) := by decide +kernel
theorem dX11_count_120 : decode cX11_count 120 = .ok (.getfield 157, 3) := by decide +kernel
theorem dX11_count_123 : decode cX11_count 123 = .ok (.ireturn, 1) := by decide +kernel
theorem dX11_count_124 : decode cX11_count 124 = .ok (.aload_n 0, 1) := by decide +kernel
theorem dX11_count_125 : decode cX11_count 125 = .ok (.getfield 44, 3) := by decide +kernel
theorem dX11_count_128 : decode cX11_count 128 = .ok (.ireturn, 1) := by decide +kernel
theorem dX11_count_129 : decode cX11_count 129 = .ok (.bipush (-2), 2) := by decide +kernel
theorem dX11_count_131 : decode cX11_count 131 = .ok (.ireturn, 1) := by decide +kernel
theorem dX11_letter_0 : decode cX11_letter 0 = .ok (.aload_n 0, 1) := by decide +kernel
theorem dX11_letter_1 : decode cX11_letter 1 = .ok (.getfield 160, 3) := by decide +kernel
theorem dX11_letter_4 : decode cX11_letter 4 = .ok (.aload_n 0, 1) := by decide +kernel
theorem dX11_letter_5 : decode cX11_letter 5 = .ok (.getfield 157, 3) := by decide +kernel
theorem dX11_letter_8 : decode cX11_letter 8 = .ok (.if_icmp .ge 15, 3) := by decide +kernel
theorem dX11_letter_11 : decode cX11_letter 11 = .ok (.aload_n 0, 1) := by decide +kernel
theorem dX11_letter_12 : decode cX11_letter 12 = .ok (.getfield 23, 3) := by decide +kernel
theorem dX11_letter_15 : decode cX11_letter 15 = .ok (.aload_n 0, 1) := by decide +kernel
theorem dX11_letter_16 : decode cX11_letter 16 = .ok (.getfield 160, 3) := by decide +kernel
theorem dX11_letter_19 : decode cX11_letter 19 = .ok (.caload, 1) := by decide +kernel
theorem dX11_letter_20 : decode cX11_letter 20 = .ok (.goto 5, 3) := by decide +kernel
theorem dX11_letter_23 : decode cX11_letter 23 = .ok (.bipush (-6), 2) := by decide +kernel
theorem dX11_letter_25 : decode cX11_letter 25 = .ok (.ireturn, 1) := by decide +kernel
theorem dX11_wants_0 : decode cX11_wants 0 = .ok (.aload_n 0, 1) := by decide +kernel
theorem dX11_wants_1 : decode cX11_wants 1 = .ok (.getfield 163, 3) := by decide +kernel
theorem dX11_wants_4 : decode cX11_wants 4 = .ok (.bipush (-6), 2) := by decide +kernel
theorem dX11_wants_6 : decode cX11_wants 6 = .ok (.if_icmp .ne 30, 3) := by decide +kernel
theorem dX11_wants_9 : decode cX11_wants 9 = .ok (.aload_n 0, 1) := by decide +kernel
theorem dX11_wants_10 : decode cX11_wants 10 = .ok (.iload_n 1, 1) := by decide +kernel
theorem dX11_wants_11 : decode cX11_wants 11 = .ok (.ifCond .eq 8, 3) := by decide +kernel
theorem dX11_wants_14 : decode cX11_wants 14 = .ok (.bipush (-6), 2) := by decide +kernel
theorem dX11_wants_16 : decode cX11_wants 16 = .ok (.goto 7, 3) := by decide +kernel
theorem dX11_wants_19 : decode cX11_wants 19 = .ok (.aload_n 0, 1) := by decide +kernel
theorem dX11_wants_20 : decode cX11_wants 20 = .ok (.getfield 160, 3) := by decide +kernel
theorem dX11_wants_23 : decode cX11_wants 23 = .ok (.putfield 163, 3) := by decide +kernel
theorem dX11_wants_26 : decode cX11_wants 26 = .ok (.aload_n 0, 1) := by decide +kernel
theorem dX11_wants_27 : decode cX11_wants 27 = .ok (.dup, 1) := by decide +kernel
theorem dX11_wants_28 : decode cX11_wants 28 = .ok (.getfield 160, 3) := by decide +kernel
theorem dX11_wants_31 : decode cX11_wants 31 = .ok (.iconst 1, 1) := by decide +kernel
theorem dX11_wants_32 : decode cX11_wants 32 = .ok (.iadd, 1) := by decide +kernel
theorem dX11_wants_33 : decode cX11_wants 33 = .ok (.putfield 160, 3) := by decide +kernel
theorem dX11_wants_36 : decode cX11_wants 36 = .ok (.return_, 1) := by decide +kernel
theorem dX11_roomRead_0 : decode cX11_roomRead 0 = .ok (.aload_n 0, 1) := by decide +kernel
theorem dX11_roomRead_1 : decode cX11_roomRead 1 = .ok (.invokevirtual 166, 3) := by decide +kernel
theorem dX11_roomRead_4 : decode cX11_roomRead 4 = .ok (.bipush 97, 2) := by decide +kernel
theorem dX11_roomRead_6 : decode cX11_roomRead 6 = .ok (.isub, 1) := by decide +kernel
theorem dX11_roomRead_7 : decode cX11_roomRead 7 = .ok (.istore_n 2, 1) := by decide +kernel
theorem dX11_roomRead_8 : decode cX11_roomRead 8 = .ok (.aload_n 0, 1) := by decide +kernel
theorem dX11_roomRead_9 : decode cX11_roomRead 9 = .ok (.iload_n 2, 1) := by decide +kernel
theorem dX11_roomRead_10 : decode cX11_roomRead 10 = .ok (.invokestatic 51, 3) := by decide +kernel
theorem dX11_roomRead_13 : decode cX11_roomRead 13 = .ok (.ifCond .eq 12, 3) := by decide +kernel
theorem dX11_roomRead_16 : decode cX11_roomRead 16 = .ok (.iload_n 2, 1) := by decide +kernel
theorem dX11_roomRead_17 : decode cX11_roomRead 17 = .ok (.iload_n 1, 1) := by decide +kernel
theorem dX11_roomRead_18 : decode cX11_roomRead 18 = .ok (.if_icmp .eq 7, 3) := by decide +kernel
theorem dX11_roomRead_21 : decode cX11_roomRead 21 = .ok (.iconst 1, 1) := by decide +kernel
theorem dX11_roomRead_22 : decode cX11_roomRead 22 = .ok (.goto 4, 3) := by decide +kernel
theorem dX11_roomRead_25 : decode cX11_roomRead 25 = .ok (.iconst 0, 1) := by decide +kernel
theorem dX11_roomRead_26 : decode cX11_roomRead 26 = .ok (.invokevirtual 169, 3) := by decide +kernel
theorem dX11_roomRead_29 : decode cX11_roomRead 29 = .ok (.iload_n 2, 1) := by decide +kernel
theorem dX11_roomRead_30 : decode cX11_roomRead 30 = .ok (.ireturn, 1) := by decide +kernel
theorem dX11_digit_0 : decode cX11_digit 0 = .ok (.aload_n 0, 1) := by decide +kernel
theorem dX11_digit_1 : decode cX11_digit 1 = .ok (.invokevirtual 166, 3) := by decide +kernel
theorem dX11_digit_4 : decode cX11_digit 4 = .ok (.bipush 48, 2) := by decide +kernel
theorem dX11_digit_6 : decode cX11_digit 6 = .ok (.isub, 1) := by decide +kernel
theorem dX11_digit_7 : decode cX11_digit 7 = .ok (.istore_n 1, 1) := by decide +kernel
theorem dX11_digit_8 : decode cX11_digit 8 = .ok (.aload_n 0, 1) := by decide +kernel
theorem dX11_digit_9 : decode cX11_digit 9 = .ok (.iload_n 1, 1) := by decide +kernel
theorem dX11_digit_10 : decode cX11_digit 10 = .ok (.iconst 1, 1) := by decide +kernel
theorem dX11_digit_11 : decode cX11_digit 11 = .ok (.bipush 9, 2) := by decide +kernel
theorem dX11_digit_13 : decode cX11_digit 13 = .ok (.invokestatic 36, 3) := by decide +kernel
theorem dX11_digit_16 : decode cX11_digit 16 = .ok (.invokevirtual 169, 3) := by decide +kernel
theorem dX11_digit_19 : decode cX11_digit 19 = .ok (.iload_n 1, 1) := by decide +kernel
theorem dX11_digit_20 : decode cX11_digit 20 = .ok (.ireturn, 1) := by decide +kernel
theorem dX11_readPad_0 : decode cX11_readPad 0 = .ok (.aload_n 0, 1) := by decide +kernel
theorem dX11_readPad_1 : decode cX11_readPad 1 = .ok (.iconst 0, 1) := by decide +kernel
theorem dX11_readPad_2 : decode cX11_readPad 2 = .ok (.putfield 173, 3) := by decide +kernel
theorem dX11_readPad_5 : decode cX11_readPad 5 = .ok (.aload_n 0, 1) := by decide +kernel
theorem dX11_readPad_6 : decode cX11_readPad 6 = .ok (.iconst 0, 1) := by decide +kernel
theorem dX11_readPad_7 : decode cX11_readPad 7 = .ok (.putfield 160, 3) := by decide +kernel
theorem dX11_readPad_10 : decode cX11_readPad 10 = .ok (.aload_n 0, 1) := by decide +kernel
theorem dX11_readPad_11 : decode cX11_readPad 11 = .ok (.bipush (-6), 2) := by decide +kernel
theorem dX11_readPad_13 : decode cX11_readPad 13 = .ok (.putfield 163, 3) := by decide +kernel
theorem dX11_readPad_16 : decode cX11_readPad 16 = .ok (.iconst 1, 1) := by decide +kernel
theorem dX11_readPad_17 : decode cX11_readPad 17 = .ok (.istore_n 1, 1) := by decide +kernel
theorem dX11_readPad_18 : decode cX11_readPad 18 = .ok (.iload_n 1, 1) := by decide +kernel
theorem dX11_readPad_19 : decode cX11_readPad 19 = .ok (.ifCond .eq 140, 3) := by decide +kernel
theorem dX11_readPad_22 : decode cX11_readPad 22 = .ok (.iconst 4, 1) := by decide +kernel
theorem dX11_readPad_23 : decode cX11_readPad 23 = .ok (.aload_n 0, 1) := by decide +kernel
theorem dX11_readPad_24 : decode cX11_readPad 24 = .ok (.getfield 173, 3) := by decide +kernel
theorem dX11_readPad_27 : decode cX11_readPad 27 = .ok (.imul, 1) := by decide +kernel
theorem dX11_readPad_28 : decode cX11_readPad 28 = .ok (.istore_n 2, 1) := by decide +kernel
theorem dX11_readPad_29 : decode cX11_readPad 29 = .ok (.aload_n 0, 1) := by decide +kernel
theorem dX11_readPad_30 : decode cX11_readPad 30 = .ok (.getfield 33, 3) := by decide +kernel
theorem dX11_readPad_33 : decode cX11_readPad 33 = .ok (.iload_n 2, 1) := by decide +kernel
theorem dX11_readPad_34 : decode cX11_readPad 34 = .ok (.aload_n 0, 1) := by decide +kernel
theorem dX11_readPad_35 : decode cX11_readPad 35 = .ok (.bipush (-6), 2) := by decide +kernel
theorem dX11_readPad_37 : decode cX11_readPad 37 = .ok (.invokevirtual 176, 3) := by decide +kernel
theorem dX11_readPad_40 : decode cX11_readPad 40 = .ok (.iastore, 1) := by decide +kernel
theorem dX11_readPad_41 : decode cX11_readPad 41 = .ok (.aload_n 0, 1) := by decide +kernel
theorem dX11_readPad_42 : decode cX11_readPad 42 = .ok (.getfield 33, 3) := by decide +kernel
theorem dX11_readPad_45 : decode cX11_readPad 45 = .ok (.iload_n 2, 1) := by decide +kernel
theorem dX11_readPad_46 : decode cX11_readPad 46 = .ok (.iconst 1, 1) := by decide +kernel
theorem dX11_readPad_47 : decode cX11_readPad 47 = .ok (.iadd, 1) := by decide +kernel
theorem dX11_readPad_48 : decode cX11_readPad 48 = .ok (.aload_n 0, 1) := by decide +kernel
theorem dX11_readPad_49 : decode cX11_readPad 49 = .ok (.aload_n 0, 1) := by decide +kernel
theorem dX11_readPad_50 : decode cX11_readPad 50 = .ok (.getfield 33, 3) := by decide +kernel
theorem dX11_readPad_53 : decode cX11_readPad 53 = .ok (.iload_n 2, 1) := by decide +kernel
theorem dX11_readPad_54 : decode cX11_readPad 54 = .ok (.iaload, 1) := by decide +kernel
theorem dX11_readPad_55 : decode cX11_readPad 55 = .ok (.invokevirtual 176, 3) := by decide +kernel
theorem dX11_readPad_58 : decode cX11_readPad 58 = .ok (.iastore, 1) := by decide +kernel
theorem dX11_readPad_59 : decode cX11_readPad 59 = .ok (.aload_n 0, 1) := by decide +kernel
theorem dX11_readPad_60 : decode cX11_readPad 60 = .ok (.getfield 33, 3) := by decide +kernel
theorem dX11_readPad_63 : decode cX11_readPad 63 = .ok (.iload_n 2, 1) := by decide +kernel
theorem dX11_readPad_64 : decode cX11_readPad 64 = .ok (.iconst 2, 1) := by decide +kernel
theorem dX11_readPad_65 : decode cX11_readPad 65 = .ok (.iadd, 1) := by decide +kernel
theorem dX11_readPad_66 : decode cX11_readPad 66 = .ok (.aload_n 0, 1) := by decide +kernel
theorem dX11_readPad_67 : decode cX11_readPad 67 = .ok (.invokevirtual 179, 3) := by decide +kernel
theorem dX11_readPad_70 : decode cX11_readPad 70 = .ok (.iastore, 1) := by decide +kernel
theorem dX11_readPad_71 : decode cX11_readPad 71 = .ok (.aload_n 0, 1) := by decide +kernel
theorem dX11_readPad_72 : decode cX11_readPad 72 = .ok (.getfield 33, 3) := by decide +kernel
theorem dX11_readPad_75 : decode cX11_readPad 75 = .ok (.iload_n 2, 1) := by decide +kernel
theorem dX11_readPad_76 : decode cX11_readPad 76 = .ok (.iconst 3, 1) := by decide +kernel
theorem dX11_readPad_77 : decode cX11_readPad 77 = .ok (.iadd, 1) := by decide +kernel
theorem dX11_readPad_78 : decode cX11_readPad 78 = .ok (.aload_n 0, 1) := by decide +kernel
theorem dX11_readPad_79 : decode cX11_readPad 79 = .ok (.invokevirtual 179, 3) := by decide +kernel
theorem dX11_readPad_82 : decode cX11_readPad 82 = .ok (.iastore, 1) := by decide +kernel
theorem dX11_readPad_83 : decode cX11_readPad 83 = .ok (.aload_n 0, 1) := by decide +kernel
theorem dX11_readPad_84 : decode cX11_readPad 84 = .ok (.dup, 1) := by decide +kernel
theorem dX11_readPad_85 : decode cX11_readPad 85 = .ok (.getfield 173, 3) := by decide +kernel
theorem dX11_readPad_88 : decode cX11_readPad 88 = .ok (.iconst 1, 1) := by decide +kernel
theorem dX11_readPad_89 : decode cX11_readPad 89 = .ok (.iadd, 1) := by decide +kernel
theorem dX11_readPad_90 : decode cX11_readPad 90 = .ok (.putfield 173, 3) := by decide +kernel
theorem dX11_readPad_93 : decode cX11_readPad 93 = .ok (.aload_n 0, 1) := by decide +kernel
theorem dX11_readPad_94 : decode cX11_readPad 94 = .ok (.getfield 163, 3) := by decide +kernel
theorem dX11_readPad_97 : decode cX11_readPad 97 = .ok (.bipush (-6), 2) := by decide +kernel
theorem dX11_readPad_99 : decode cX11_readPad 99 = .ok (.if_icmp .ne 18, 3) := by decide +kernel
theorem dX11_readPad_102 : decode cX11_readPad 102 = .ok (.aload_n 0, 1) := by decide +kernel
theorem dX11_readPad_103 : decode cX11_readPad 103 = .ok (.getfield 160, 3) := by decide +kernel
theorem dX11_readPad_106 : decode cX11_readPad 106 = .ok (.aload_n 0, 1) := by decide +kernel
theorem dX11_readPad_107 : decode cX11_readPad 107 = .ok (.getfield 157, 3) := by decide +kernel
theorem dX11_readPad_110 : decode cX11_readPad 110 = .ok (.if_icmp .ge 7, 3) := by decide +kernel
theorem dX11_readPad_113 : decode cX11_readPad 113 = .ok (.iconst 1, 1) := by decide +kernel
theorem dX11_readPad_114 : decode cX11_readPad 114 = .ok (.goto 4, 3) := by decide +kernel
theorem dX11_readPad_117 : decode cX11_readPad 117 = .ok (.iconst 0, 1) := by decide +kernel
theorem dX11_readPad_118 : decode cX11_readPad 118 = .ok (.istore_n 1, 1) := by decide +kernel
theorem dX11_readPad_119 : decode cX11_readPad 119 = .ok (.iload_n 1, 1) := by decide +kernel
theorem dX11_readPad_120 : decode cX11_readPad 120 = .ok (.ifCond .eq 36, 3) := by decide +kernel
theorem dX11_readPad_123 : decode cX11_readPad 123 = .ok (.aload_n 0, 1) := by decide +kernel
theorem dX11_readPad_124 : decode cX11_readPad 124 = .ok (.aload_n 0, 1) := by decide +kernel
theorem dX11_readPad_125 : decode cX11_readPad 125 = .ok (.invokevirtual 166, 3) := by decide +kernel
theorem dX11_readPad_128 : decode cX11_readPad 128 = .ok (.bipush 59, 2) := by decide +kernel
theorem dX11_readPad_130 : decode cX11_readPad 130 = .ok (.if_icmp .ne 7, 3) := by decide +kernel
theorem dX11_readPad_133 : decode cX11_readPad 133 = .ok (.iconst 1, 1) := by decide +kernel
theorem dX11_readPad_134 : decode cX11_readPad 134 = .ok (.goto 4, 3) := by decide +kernel
theorem dX11_readPad_137 : decode cX11_readPad 137 = .ok (.iconst 0, 1) := by decide +kernel
theorem dX11_readPad_138 : decode cX11_readPad 138 = .ok (.invokevirtual 169, 3) := by decide +kernel
theorem dX11_readPad_141 : decode cX11_readPad 141 = .ok (.aload_n 0, 1) := by decide +kernel
theorem dX11_readPad_142 : decode cX11_readPad 142 = .ok (.getfield 163, 3) := by decide +kernel
theorem dX11_readPad_145 : decode cX11_readPad 145 = .ok (.bipush (-6), 2) := by decide +kernel
theorem dX11_readPad_147 : decode cX11_readPad 147 = .ok (.if_icmp .ne 7, 3) := by decide +kernel
theorem dX11_readPad_150 : decode cX11_readPad 150 = .ok (.iconst 1, 1) := by decide +kernel
theorem dX11_readPad_151 : decode cX11_readPad 151 = .ok (.goto 4, 3) := by decide +kernel
theorem dX11_readPad_154 : decode cX11_readPad 154 = .ok (.iconst 0, 1) := by decide +kernel
theorem dX11_readPad_155 : decode cX11_readPad 155 = .ok (.istore_n 1, 1) := by decide +kernel
theorem dX11_readPad_156 : decode cX11_readPad 156 = .ok (.goto (-138), 3) := by decide +kernel
theorem dX11_readPad_159 : decode cX11_readPad 159 = .ok (.aload_n 0, 1) := by decide +kernel
theorem dX11_readPad_160 : decode cX11_readPad 160 = .ok (.getfield 163, 3) := by decide +kernel
theorem dX11_readPad_163 : decode cX11_readPad 163 = .ok (.ireturn, 1) := by decide +kernel
theorem dX11_fault_0 : decode cX11_fault 0 = .ok (.aload_n 0, 1) := by decide +kernel
theorem dX11_fault_1 : decode cX11_fault 1 = .ok (.invokevirtual 182, 3) := by decide +kernel
theorem dX11_fault_4 : decode cX11_fault 4 = .ok (.ireturn, 1) := by decide +kernel
theorem dX11_read_0 : decode cX11_read 0 = .ok (.aload_n 0, 1) := by decide +kernel
theorem dX11_read_1 : decode cX11_read 1 = .ok (.invokevirtual 182, 3) := by decide +kernel
theorem dX11_read_4 : decode cX11_read 4 = .ok (.bipush (-6), 2) := by decide +kernel
theorem dX11_read_6 : decode cX11_read 6 = .ok (.if_icmp .eq 6, 3) := by decide +kernel
theorem dX11_read_9 : decode cX11_read 9 = .ok (.bipush (-3), 2) := by decide +kernel
theorem dX11_read_11 : decode cX11_read 11 = .ok (.ireturn, 1) := by decide +kernel
theorem dX11_read_12 : decode cX11_read 12 = .ok (.aload_n 0, 1) := by decide +kernel
theorem dX11_read_13 : decode cX11_read 13 = .ok (.getfield 7, 3) := by decide +kernel
theorem dX11_read_16 : decode cX11_read 16 = .ok (.iconst 4, 1) := by decide +kernel
theorem dX11_read_17 : decode cX11_read 17 = .ok (.iaload, 1) := by decide +kernel
theorem dX11_read_18 : decode cX11_read 18 = .ok (.aload_n 0, 1) := by decide +kernel
theorem dX11_read_19 : decode cX11_read 19 = .ok (.getfield 173, 3) := by decide +kernel
theorem dX11_read_22 : decode cX11_read 22 = .ok (.iadd, 1) := by decide +kernel
theorem dX11_read_23 : decode cX11_read 23 = .ok (.bipush 20, 2) := by decide +kernel
theorem dX11_read_25 : decode cX11_read 25 = .ok (.if_icmp .le 6, 3) := by decide +kernel
theorem dX11_read_28 : decode cX11_read 28 = .ok (.bipush (-4), 2) := by decide +kernel
theorem dX11_read_30 : decode cX11_read 30 = .ok (.ireturn, 1) := by decide +kernel
theorem dX11_read_31 : decode cX11_read 31 = .ok (.aload_n 0, 1) := by decide +kernel
theorem dX11_read_32 : decode cX11_read 32 = .ok (.invokevirtual 48, 3) := by decide +kernel
theorem dX11_read_35 : decode cX11_read 35 = .ok (.iconst 0, 1) := by decide +kernel
theorem dX11_read_36 : decode cX11_read 36 = .ok (.istore_n 1, 1) := by decide +kernel
theorem dX11_read_37 : decode cX11_read 37 = .ok (.iload_n 1, 1) := by decide +kernel
theorem dX11_read_38 : decode cX11_read 38 = .ok (.iconst 4, 1) := by decide +kernel
theorem dX11_read_39 : decode cX11_read 39 = .ok (.aload_n 0, 1) := by decide +kernel
theorem dX11_read_40 : decode cX11_read 40 = .ok (.getfield 173, 3) := by decide +kernel
theorem dX11_read_43 : decode cX11_read 43 = .ok (.imul, 1) := by decide +kernel
theorem dX11_read_44 : decode cX11_read 44 = .ok (.if_icmp .ge 44, 3) := by decide +kernel
theorem dX11_read_47 : decode cX11_read 47 = .ok (.aload_n 0, 1) := by decide +kernel
theorem dX11_read_48 : decode cX11_read 48 = .ok (.aload_n 0, 1) := by decide +kernel
theorem dX11_read_49 : decode cX11_read 49 = .ok (.getfield 33, 3) := by decide +kernel
theorem dX11_read_52 : decode cX11_read 52 = .ok (.iload_n 1, 1) := by decide +kernel
theorem dX11_read_53 : decode cX11_read 53 = .ok (.iaload, 1) := by decide +kernel
theorem dX11_read_54 : decode cX11_read 54 = .ok (.aload_n 0, 1) := by decide +kernel
theorem dX11_read_55 : decode cX11_read 55 = .ok (.getfield 33, 3) := by decide +kernel
theorem dX11_read_58 : decode cX11_read 58 = .ok (.iload_n 1, 1) := by decide +kernel
theorem dX11_read_59 : decode cX11_read 59 = .ok (.iconst 1, 1) := by decide +kernel
theorem dX11_read_60 : decode cX11_read 60 = .ok (.iadd, 1) := by decide +kernel
theorem dX11_read_61 : decode cX11_read 61 = .ok (.iaload, 1) := by decide +kernel
theorem dX11_read_62 : decode cX11_read 62 = .ok (.aload_n 0, 1) := by decide +kernel
theorem dX11_read_63 : decode cX11_read 63 = .ok (.getfield 33, 3) := by decide +kernel
theorem dX11_read_66 : decode cX11_read 66 = .ok (.iload_n 1, 1) := by decide +kernel
theorem dX11_read_67 : decode cX11_read 67 = .ok (.iconst 2, 1) := by decide +kernel
theorem dX11_read_68 : decode cX11_read 68 = .ok (.iadd, 1) := by decide +kernel
theorem dX11_read_69 : decode cX11_read 69 = .ok (.iaload, 1) := by decide +kernel
theorem dX11_read_70 : decode cX11_read 70 = .ok (.aload_n 0, 1) := by decide +kernel
theorem dX11_read_71 : decode cX11_read 71 = .ok (.getfield 33, 3) := by decide +kernel
theorem dX11_read_74 : decode cX11_read 74 = .ok (.iload_n 1, 1) := by decide +kernel
theorem dX11_read_75 : decode cX11_read 75 = .ok (.iconst 3, 1) := by decide +kernel
theorem dX11_read_76 : decode cX11_read 76 = .ok (.iadd, 1) := by decide +kernel
theorem dX11_read_77 : decode cX11_read 77 = .ok (.iaload, 1) := by decide +kernel
theorem dX11_read_78 : decode cX11_read 78 = .ok (.invokevirtual 59, 3) := by decide +kernel
theorem dX11_read_81 : decode cX11_read 81 = .ok (.pop, 1) := by decide +kernel
theorem dX11_read_82 : decode cX11_read 82 = .ok (.iinc 1 4, 3) := by decide +kernel
theorem dX11_read_85 : decode cX11_read 85 = .ok (.goto (-48), 3) := by decide +kernel
theorem dX11_read_88 : decode cX11_read 88 = .ok (.aload_n 0, 1) := by decide +kernel
theorem dX11_read_89 : decode cX11_read 89 = .ok (.iconst 0, 1) := by decide +kernel
theorem dX11_read_90 : decode cX11_read 90 = .ok (.putfield 157, 3) := by decide +kernel
theorem dX11_read_93 : decode cX11_read 93 = .ok (.aload_n 0, 1) := by decide +kernel
theorem dX11_read_94 : decode cX11_read 94 = .ok (.getfield 7, 3) := by decide +kernel
theorem dX11_read_97 : decode cX11_read 97 = .ok (.iconst 4, 1) := by decide +kernel
theorem dX11_read_98 : decode cX11_read 98 = .ok (.iaload, 1) := by decide +kernel
theorem dX11_read_99 : decode cX11_read 99 = .ok (.ireturn, 1) := by decide +kernel
theorem dX11_write_0 : decode cX11_write 0 = .ok (.iconst 0, 1) := by decide +kernel
theorem dX11_write_1 : decode cX11_write 1 = .ok (.istore_n 3, 1) := by decide +kernel
theorem dX11_write_2 : decode cX11_write 2 = .ok (.lload_n 1, 1) := by decide +kernel
theorem dX11_write_3 : decode cX11_write 3 = .ok (.lstore 4, 2) := by decide +kernel
theorem dX11_write_5 : decode cX11_write 5 = .ok (.iconst 1, 1) := by decide +kernel
theorem dX11_write_6 : decode cX11_write 6 = .ok (.istore 6, 2) := by decide +kernel
theorem dX11_write_8 : decode cX11_write 8 = .ok (.lload 4, 2) := by decide +kernel
theorem dX11_write_10 : decode cX11_write 10 = .ok (.lconst 0, 1) := by decide +kernel
theorem dX11_write_11 : decode cX11_write 11 = .ok (.lcmp, 1) := by decide +kernel
theorem dX11_write_12 : decode cX11_write 12 = .ok (.ifCond .eq 37, 3) := by decide +kernel
theorem dX11_write_15 : decode cX11_write 15 = .ok (.iload 6, 2) := by decide +kernel
theorem dX11_write_17 : decode cX11_write 17 = .ok (.ifCond .eq 32, 3) := by decide +kernel
theorem dX11_write_20 : decode cX11_write 20 = .ok (.lload 4, 2) := by decide +kernel
theorem dX11_write_22 : decode cX11_write 22 = .ok (.ldc2_w 185, 3) := by decide +kernel
theorem dX11_write_25 : decode cX11_write 25 = .ok (.land, 1) := by decide +kernel
theorem dX11_write_26 : decode cX11_write 26 = .ok (.l2i, 1) := by decide +kernel
theorem dX11_write_27 : decode cX11_write 27 = .ok (.bipush 33, 2) := by decide +kernel
theorem dX11_write_29 : decode cX11_write 29 = .ok (.bipush 126, 2) := by decide +kernel
theorem dX11_write_31 : decode cX11_write 31 = .ok (.invokestatic 36, 3) := by decide +kernel
theorem dX11_write_34 : decode cX11_write 34 = .ok (.istore 6, 2) := by decide +kernel
theorem dX11_write_36 : decode cX11_write 36 = .ok (.lload 4, 2) := by decide +kernel
theorem dX11_write_38 : decode cX11_write 38 = .ok (.bipush 8, 2) := by decide +kernel
theorem dX11_write_40 : decode cX11_write 40 = .ok (.lushr, 1) := by decide +kernel
theorem dX11_write_41 : decode cX11_write 41 = .ok (.lstore 4, 2) := by decide +kernel
theorem dX11_write_43 : decode cX11_write 43 = .ok (.iinc 3 1, 3) := by decide +kernel
theorem dX11_write_46 : decode cX11_write 46 = .ok (.goto (-38), 3) := by decide +kernel
theorem dX11_write_49 : decode cX11_write 49 = .ok (.iload_n 3, 1) := by decide +kernel
theorem dX11_write_50 : decode cX11_write 50 = .ok (.ifCond .eq 8, 3) := by decide +kernel
theorem dX11_write_53 : decode cX11_write 53 = .ok (.iload 6, 2) := by decide +kernel
theorem dX11_write_55 : decode cX11_write 55 = .ok (.ifCond .ne 6, 3) := by decide +kernel
theorem dX11_write_58 : decode cX11_write 58 = .ok (.bipush (-2), 2) := by decide +kernel
theorem dX11_write_60 : decode cX11_write 60 = .ok (.ireturn, 1) := by decide +kernel
theorem dX11_write_61 : decode cX11_write 61 = .ok (.aload_n 0, 1) := by decide +kernel
theorem dX11_write_62 : decode cX11_write 62 = .ok (.getfield 157, 3) := by decide +kernel
theorem dX11_write_65 : decode cX11_write 65 = .ok (.iload_n 3, 1) := by decide +kernel
theorem dX11_write_66 : decode cX11_write 66 = .ok (.iadd, 1) := by decide +kernel
theorem dX11_write_67 : decode cX11_write 67 = .ok (.bipush 60, 2) := by decide +kernel
theorem dX11_write_69 : decode cX11_write 69 = .ok (.if_icmp .le 6, 3) := by decide +kernel
theorem dX11_write_72 : decode cX11_write 72 = .ok (.bipush (-4), 2) := by decide +kernel
theorem dX11_write_74 : decode cX11_write 74 = .ok (.ireturn, 1) := by decide +kernel
theorem dX11_write_75 : decode cX11_write 75 = .ok (.iload_n 3, 1) := by decide +kernel
theorem dX11_write_76 : decode cX11_write 76 = .ok (.iconst 1, 1) := by decide +kernel
theorem dX11_write_77 : decode cX11_write 77 = .ok (.isub, 1) := by decide +kernel
theorem dX11_write_78 : decode cX11_write 78 = .ok (.istore 7, 2) := by decide +kernel
theorem dX11_write_80 : decode cX11_write 80 = .ok (.iload 7, 2) := by decide +kernel
theorem dX11_write_82 : decode cX11_write 82 = .ok (.ifCond .lt 41, 3) := by decide +kernel
theorem dX11_write_85 : decode cX11_write 85 = .ok (.aload_n 0, 1) := by decide +kernel
theorem dX11_write_86 : decode cX11_write 86 = .ok (.getfield 23, 3) := by decide +kernel
theorem dX11_write_89 : decode cX11_write 89 = .ok (.aload_n 0, 1) := by decide +kernel
theorem dX11_write_90 : decode cX11_write 90 = .ok (.getfield 157, 3) := by decide +kernel
theorem dX11_write_93 : decode cX11_write 93 = .ok (.lload_n 1, 1) := by decide +kernel
theorem dX11_write_94 : decode cX11_write 94 = .ok (.bipush 8, 2) := by decide +kernel
theorem dX11_write_96 : decode cX11_write 96 = .ok (.iload 7, 2) := by decide +kernel
theorem dX11_write_98 : decode cX11_write 98 = .ok (.imul, 1) := by decide +kernel
theorem dX11_write_99 : decode cX11_write 99 = .ok (.lushr, 1) := by decide +kernel
theorem dX11_write_100 : decode cX11_write 100 = .ok (.ldc2_w 185, 3) := by decide +kernel
theorem dX11_write_103 : decode cX11_write 103 = .ok (.land, 1) := by decide +kernel
theorem dX11_write_104 : decode cX11_write 104 = .ok (.l2i, 1) := by decide +kernel
theorem dX11_write_105 : decode cX11_write 105 = .ok (.i2c, 1) := by decide +kernel
theorem dX11_write_106 : decode cX11_write 106 = .ok (.castore, 1) := by decide +kernel
theorem dX11_write_107 : decode cX11_write 107 = .ok (.aload_n 0, 1) := by decide +kernel
theorem dX11_write_108 : decode cX11_write 108 = .ok (.dup, 1) := by decide +kernel
theorem dX11_write_109 : decode cX11_write 109 = .ok (.getfield 157, 3) := by decide +kernel
theorem dX11_write_112 : decode cX11_write 112 = .ok (.iconst 1, 1) := by decide +kernel
theorem dX11_write_113 : decode cX11_write 113 = .ok (.iadd, 1) := by decide +kernel
theorem dX11_write_114 : decode cX11_write 114 = .ok (.putfield 157, 3) := by decide +kernel
theorem dX11_write_117 : decode cX11_write 117 = .ok (.iinc 7 (-1), 3) := by decide +kernel
theorem dX11_write_120 : decode cX11_write 120 = .ok (.goto (-40), 3) := by decide +kernel
theorem dX11_write_123 : decode cX11_write 123 = .ok (.aload_n 0, 1) := by decide +kernel
theorem dX11_write_124 : decode cX11_write 124 = .ok (.getfield 157, 3) := by decide +kernel
theorem dX11_write_127 : decode cX11_write 127 = .ok (.ireturn, 1) := by decide +kernel
theorem dX11_wipe_0 : decode cX11_wipe 0 = .ok (.aload_n 0, 1) := by decide +kernel
theorem dX11_wipe_1 : decode cX11_wipe 1 = .ok (.getfield 157, 3) := by decide +kernel
theorem dX11_wipe_4 : decode cX11_wipe 4 = .ok (.istore_n 1, 1) := by decide +kernel
theorem dX11_wipe_5 : decode cX11_wipe 5 = .ok (.aload_n 0, 1) := by decide +kernel
theorem dX11_wipe_6 : decode cX11_wipe 6 = .ok (.iconst 0, 1) := by decide +kernel
theorem dX11_wipe_7 : decode cX11_wipe 7 = .ok (.putfield 157, 3) := by decide +kernel
theorem dX11_wipe_10 : decode cX11_wipe 10 = .ok (.iload_n 1, 1) := by decide +kernel
theorem dX11_wipe_11 : decode cX11_wipe 11 = .ok (.ireturn, 1) := by decide +kernel
