theorem dX0_init_0 : decode cX0_init 0 = .ok (.aload_n 0, 1) := by decide +kernel
theorem dX0_init_1 : decode cX0_init 1 = .ok (.invokespecial 3, 3) := by decide +kernel
theorem dX0_init_4 : decode cX0_init 4 = .ok (.aload_n 0, 1) := by decide +kernel
theorem dX0_init_5 : decode cX0_init 5 = .ok (.new 9, 3) := by decide +kernel
theorem dX0_init_8 : decode cX0_init 8 = .ok (.dup, 1) := by decide +kernel
theorem dX0_init_9 : decode cX0_init 9 = .ok (.iconst 2, 1) := by decide +kernel
theorem dX0_init_10 : decode cX0_init 10 = .ok (.invokespecial 11, 3) := by decide +kernel
theorem dX0_init_13 : decode cX0_init 13 = .ok (.putfield 14, 3) := by decide +kernel
theorem dX0_init_16 : decode cX0_init 16 = .ok (.aload_n 0, 1) := by decide +kernel
theorem dX0_init_17 : decode cX0_init 17 = .ok (.new 20, 3) := by decide +kernel
theorem dX0_init_20 : decode cX0_init 20 = .ok (.dup, 1) := by decide +kernel
theorem dX0_init_21 : decode cX0_init 21 = .ok (.invokespecial 22, 3) := by decide +kernel
theorem dX0_init_24 : decode cX0_init 24 = .ok (.putfield 23, 3) := by decide +kernel
theorem dX0_init_27 : decode cX0_init 27 = .ok (.aload_n 0, 1) := by decide +kernel
theorem dX0_init_28 : decode cX0_init 28 = .ok (.new 27, 3) := by decide +kernel
theorem dX0_init_31 : decode cX0_init 31 = .ok (.dup, 1) := by decide +kernel
theorem dX0_init_32 : decode cX0_init 32 = .ok (.invokespecial 29, 3) := by decide +kernel
theorem dX0_init_35 : decode cX0_init 35 = .ok (.putfield 30, 3) := by decide +kernel
theorem dX0_init_38 : decode cX0_init 38 = .ok (.aload_n 0, 1) := by decide +kernel
theorem dX0_init_39 : decode cX0_init 39 = .ok (.new 34, 3) := by decide +kernel
theorem dX0_init_42 : decode cX0_init 42 = .ok (.dup, 1) := by decide +kernel
theorem dX0_init_43 : decode cX0_init 43 = .ok (.invokespecial 36, 3) := by decide +kernel
theorem dX0_init_46 : decode cX0_init 46 = .ok (.putfield 37, 3) := by decide +kernel
theorem dX0_init_49 : decode cX0_init 49 = .ok (.aload_n 0, 1) := by decide +kernel
theorem dX0_init_50 : decode cX0_init 50 = .ok (.getfield 14, 3) := by decide +kernel
theorem dX0_init_53 : decode cX0_init 53 = .ok (.iconst 0, 1) := by decide +kernel
theorem dX0_init_54 : decode cX0_init 54 = .ok (.bipush 60, 2) := by decide +kernel
theorem dX0_init_56 : decode cX0_init 56 = .ok (.invokevirtual 41, 3) := by decide +kernel
theorem dX0_init_59 : decode cX0_init 59 = .ok (.aload_n 0, 1) := by decide +kernel
theorem dX0_init_60 : decode cX0_init 60 = .ok (.getfield 14, 3) := by decide +kernel
theorem dX0_init_63 : decode cX0_init 63 = .ok (.iconst 1, 1) := by decide +kernel
theorem dX0_init_64 : decode cX0_init 64 = .ok (.bipush 10, 2) := by decide +kernel
theorem dX0_init_66 : decode cX0_init 66 = .ok (.invokevirtual 41, 3) := by decide +kernel
theorem dX0_init_69 : decode cX0_init 69 = .ok (.return_, 1) := by decide +kernel
theorem dX0_copyFrom_0 : decode cX0_copyFrom 0 = .ok (.aload_n 0, 1) := by decide +kernel
theorem dX0_copyFrom_1 : decode cX0_copyFrom 1 = .ok (.aload_n 1, 1) := by decide +kernel
theorem dX0_copyFrom_2 : decode cX0_copyFrom 2 = .ok (.getfield 45, 3) := by decide +kernel
theorem dX0_copyFrom_5 : decode cX0_copyFrom 5 = .ok (.putfield 45, 3) := by decide +kernel
theorem dX0_copyFrom_8 : decode cX0_copyFrom 8 = .ok (.aload_n 0, 1) := by decide +kernel
theorem dX0_copyFrom_9 : decode cX0_copyFrom 9 = .ok (.aload_n 1, 1) := by decide +kernel
theorem dX0_copyFrom_10 : decode cX0_copyFrom 10 = .ok (.getfield 49, 3) := by decide +kernel
theorem dX0_copyFrom_13 : decode cX0_copyFrom 13 = .ok (.putfield 49, 3) := by decide +kernel
theorem dX0_copyFrom_16 : decode cX0_copyFrom 16 = .ok (.aload_n 0, 1) := by decide +kernel
theorem dX0_copyFrom_17 : decode cX0_copyFrom 17 = .ok (.getfield 14, 3) := by decide +kernel
theorem dX0_copyFrom_20 : decode cX0_copyFrom 20 = .ok (.aload_n 1, 1) := by decide +kernel
theorem dX0_copyFrom_21 : decode cX0_copyFrom 21 = .ok (.getfield 14, 3) := by decide +kernel
theorem dX0_copyFrom_24 : decode cX0_copyFrom 24 = .ok (.invokevirtual 52, 3) := by decide +kernel
theorem dX0_copyFrom_27 : decode cX0_copyFrom 27 = .ok (.aload_n 0, 1) := by decide +kernel
theorem dX0_copyFrom_28 : decode cX0_copyFrom 28 = .ok (.getfield 23, 3) := by decide +kernel
theorem dX0_copyFrom_31 : decode cX0_copyFrom 31 = .ok (.aload_n 1, 1) := by decide +kernel
theorem dX0_copyFrom_32 : decode cX0_copyFrom 32 = .ok (.getfield 23, 3) := by decide +kernel
theorem dX0_copyFrom_35 : decode cX0_copyFrom 35 = .ok (.invokevirtual 56, 3) := by decide +kernel
theorem dX0_copyFrom_38 : decode cX0_copyFrom 38 = .ok (.aload_n 0, 1) := by decide +kernel
theorem dX0_copyFrom_39 : decode cX0_copyFrom 39 = .ok (.getfield 30, 3) := by decide +kernel
theorem dX0_copyFrom_42 : decode cX0_copyFrom 42 = .ok (.aload_n 1, 1) := by decide +kernel
theorem dX0_copyFrom_43 : decode cX0_copyFrom 43 = .ok (.getfield 30, 3) := by decide +kernel
theorem dX0_copyFrom_46 : decode cX0_copyFrom 46 = .ok (.invokevirtual 59, 3) := by decide +kernel
theorem dX0_copyFrom_49 : decode cX0_copyFrom 49 = .ok (.aload_n 0, 1) := by decide +kernel
theorem dX0_copyFrom_50 : decode cX0_copyFrom 50 = .ok (.getfield 37, 3) := by decide +kernel
theorem dX0_copyFrom_53 : decode cX0_copyFrom 53 = .ok (.aload_n 1, 1) := by decide +kernel
theorem dX0_copyFrom_54 : decode cX0_copyFrom 54 = .ok (.getfield 37, 3) := by decide +kernel
theorem dX0_copyFrom_57 : decode cX0_copyFrom 57 = .ok (.invokevirtual 62, 3) := by decide +kernel
theorem dX0_copyFrom_60 : decode cX0_copyFrom 60 = .ok (.return_, 1) := by decide +kernel
theorem dX0_minutesBetweenBells_0 : decode cX0_minutesBetweenBells 0 = .ok (.aload_n 0, 1) := by decide +kernel
theorem dX0_minutesBetweenBells_1 : decode cX0_minutesBetweenBells 1 = .ok (.getfield 14, 3) := by decide +kernel
theorem dX0_minutesBetweenBells_4 : decode cX0_minutesBetweenBells 4 = .ok (.iconst 0, 1) := by decide +kernel
theorem dX0_minutesBetweenBells_5 : decode cX0_minutesBetweenBells 5 = .ok (.invokevirtual 65, 3) := by decide +kernel
theorem dX0_minutesBetweenBells_8 : decode cX0_minutesBetweenBells 8 = .ok (.iconst 1, 1) := by decide +kernel
theorem dX0_minutesBetweenBells_9 : decode cX0_minutesBetweenBells 9 = .ok (.invokestatic 69, 3) := by decide +kernel
theorem dX0_minutesBetweenBells_12 : decode cX0_minutesBetweenBells 12 = .ok (.ireturn, 1) := by decide +kernel
theorem dX0_minutesToBell_0 : decode cX0_minutesToBell 0 = .ok (.aload_n 0, 1) := by decide +kernel
theorem dX0_minutesToBell_1 : decode cX0_minutesToBell 1 = .ok (.invokevirtual 75, 3) := by decide +kernel
theorem dX0_minutesToBell_4 : decode cX0_minutesToBell 4 = .ok (.aload_n 0, 1) := by decide +kernel
theorem dX0_minutesToBell_5 : decode cX0_minutesToBell 5 = .ok (.getfield 45, 3) := by decide +kernel
theorem dX0_minutesToBell_8 : decode cX0_minutesToBell 8 = .ok (.aload_n 0, 1) := by decide +kernel
theorem dX0_minutesToBell_9 : decode cX0_minutesToBell 9 = .ok (.invokevirtual 75, 3) := by decide +kernel
theorem dX0_minutesToBell_12 : decode cX0_minutesToBell 12 = .ok (.irem, 1) := by decide +kernel
theorem dX0_minutesToBell_13 : decode cX0_minutesToBell 13 = .ok (.isub, 1) := by decide +kernel
theorem dX0_minutesToBell_14 : decode cX0_minutesToBell 14 = .ok (.ireturn, 1) := by decide +kernel
theorem dX0_leftTo_0 : decode cX0_leftTo 0 = .ok (.aload_n 0, 1) := by decide +kernel
theorem dX0_leftTo_1 : decode cX0_leftTo 1 = .ok (.getfield 23, 3) := by decide +kernel
theorem dX0_leftTo_4 : decode cX0_leftTo 4 = .ok (.invokevirtual 79, 3) := by decide +kernel
theorem dX0_leftTo_7 : decode cX0_leftTo 7 = .ok (.aload_n 0, 1) := by decide +kernel
theorem dX0_leftTo_8 : decode cX0_leftTo 8 = .ok (.getfield 30, 3) := by decide +kernel
theorem dX0_leftTo_11 : decode cX0_leftTo 11 = .ok (.getfield 82, 3) := by decide +kernel
theorem dX0_leftTo_14 : decode cX0_leftTo 14 = .ok (.iload_n 1, 1) := by decide +kernel
theorem dX0_leftTo_15 : decode cX0_leftTo 15 = .ok (.invokevirtual 65, 3) := by decide +kernel
theorem dX0_leftTo_18 : decode cX0_leftTo 18 = .ok (.iconst (-1), 1) := by decide +kernel
theorem dX0_leftTo_19 : decode cX0_leftTo 19 = .ok (.ixor, 1) := by decide +kernel
theorem dX0_leftTo_20 : decode cX0_leftTo 20 = .ok (.iand, 1) := by decide +kernel
theorem dX0_leftTo_21 : decode cX0_leftTo 21 = .ok (.ireturn, 1) := by decide +kernel
theorem dX0_freeTo_0 : decode cX0_freeTo 0 = .ok (.aload_n 0, 1) := by decide +kernel
theorem dX0_freeTo_1 : decode cX0_freeTo 1 = .ok (.iload_n 1, 1) := by decide +kernel
theorem dX0_freeTo_2 : decode cX0_freeTo 2 = .ok (.invokevirtual 85, 3) := by decide +kernel
theorem dX0_freeTo_5 : decode cX0_freeTo 5 = .ok (.aload_n 0, 1) := by decide +kernel
theorem dX0_freeTo_6 : decode cX0_freeTo 6 = .ok (.getfield 23, 3) := by decide +kernel
theorem dX0_freeTo_9 : decode cX0_freeTo 9 = .ok (.aload_n 0, 1) := by decide +kernel
theorem dX0_freeTo_10 : decode cX0_freeTo 10 = .ok (.getfield 37, 3) := by decide +kernel
theorem dX0_freeTo_13 : decode cX0_freeTo 13 = .ok (.invokevirtual 88, 3) := by decide +kernel
theorem dX0_freeTo_16 : decode cX0_freeTo 16 = .ok (.invokevirtual 91, 3) := by decide +kernel
theorem dX0_freeTo_19 : decode cX0_freeTo 19 = .ok (.iconst (-1), 1) := by decide +kernel
theorem dX0_freeTo_20 : decode cX0_freeTo 20 = .ok (.ixor, 1) := by decide +kernel
theorem dX0_freeTo_21 : decode cX0_freeTo 21 = .ok (.iand, 1) := by decide +kernel
theorem dX0_freeTo_22 : decode cX0_freeTo 22 = .ok (.ireturn, 1) := by decide +kernel
theorem dX0_freeAtRoomOf_0 : decode cX0_freeAtRoomOf 0 = .ok (.aload_n 0, 1) := by decide +kernel
theorem dX0_freeAtRoomOf_1 : decode cX0_freeAtRoomOf 1 = .ok (.iload_n 1, 1) := by decide +kernel
theorem dX0_freeAtRoomOf_2 : decode cX0_freeAtRoomOf 2 = .ok (.invokevirtual 94, 3) := by decide +kernel
theorem dX0_freeAtRoomOf_5 : decode cX0_freeAtRoomOf 5 = .ok (.aload_n 0, 1) := by decide +kernel
theorem dX0_freeAtRoomOf_6 : decode cX0_freeAtRoomOf 6 = .ok (.getfield 23, 3) := by decide +kernel
theorem dX0_freeAtRoomOf_9 : decode cX0_freeAtRoomOf 9 = .ok (.iconst 1, 1) := by decide +kernel
theorem dX0_freeAtRoomOf_10 : decode cX0_freeAtRoomOf 10 = .ok (.aload_n 0, 1) := by decide +kernel
theorem dX0_freeAtRoomOf_11 : decode cX0_freeAtRoomOf 11 = .ok (.getfield 30, 3) := by decide +kernel
theorem dX0_freeAtRoomOf_14 : decode cX0_freeAtRoomOf 14 = .ok (.getfield 97, 3) := by decide +kernel
theorem dX0_freeAtRoomOf_17 : decode cX0_freeAtRoomOf 17 = .ok (.iload_n 1, 1) := by decide +kernel
theorem dX0_freeAtRoomOf_18 : decode cX0_freeAtRoomOf 18 = .ok (.invokevirtual 65, 3) := by decide +kernel
theorem dX0_freeAtRoomOf_21 : decode cX0_freeAtRoomOf 21 = .ok (.ishl, 1) := by decide +kernel
theorem dX0_freeAtRoomOf_22 : decode cX0_freeAtRoomOf 22 = .ok (.invokevirtual 91, 3) := by decide +kernel
theorem dX0_freeAtRoomOf_25 : decode cX0_freeAtRoomOf 25 = .ok (.iand, 1) := by decide +kernel
theorem dX0_freeAtRoomOf_26 : decode cX0_freeAtRoomOf 26 = .ok (.ireturn, 1) := by decide +kernel
theorem dX0_ghostsFreeFor_0 : decode cX0_ghostsFreeFor 0 = .ok (.iconst 0, 1) := by decide +kernel
theorem dX0_ghostsFreeFor_1 : decode cX0_ghostsFreeFor 1 = .ok (.istore_n 2, 1) := by decide +kernel
theorem dX0_ghostsFreeFor_2 : decode cX0_ghostsFreeFor 2 = .ok (.iconst 0, 1) := by decide +kernel
theorem dX0_ghostsFreeFor_3 : decode cX0_ghostsFreeFor 3 = .ok (.istore_n 3, 1) := by decide +kernel
theorem dX0_ghostsFreeFor_4 : decode cX0_ghostsFreeFor 4 = .ok (.iload_n 3, 1) := by decide +kernel
theorem dX0_ghostsFreeFor_5 : decode cX0_ghostsFreeFor 5 = .ok (.iconst 4, 1) := by decide +kernel
theorem dX0_ghostsFreeFor_6 : decode cX0_ghostsFreeFor 6 = .ok (.if_icmp .ge 27, 3) := by decide +kernel
theorem dX0_ghostsFreeFor_9 : decode cX0_ghostsFreeFor 9 = .ok (.aload_n 0, 1) := by decide +kernel
theorem dX0_ghostsFreeFor_10 : decode cX0_ghostsFreeFor 10 = .ok (.iload_n 3, 1) := by decide +kernel
theorem dX0_ghostsFreeFor_11 : decode cX0_ghostsFreeFor 11 = .ok (.invokevirtual 94, 3) := by decide +kernel
theorem dX0_ghostsFreeFor_14 : decode cX0_ghostsFreeFor 14 = .ok (.iload_n 1, 1) := by decide +kernel
theorem dX0_ghostsFreeFor_15 : decode cX0_ghostsFreeFor 15 = .ok (.invokestatic 100, 3) := by decide +kernel
theorem dX0_ghostsFreeFor_18 : decode cX0_ghostsFreeFor 18 = .ok (.ifCond .eq 9, 3) := by decide +kernel
theorem dX0_ghostsFreeFor_21 : decode cX0_ghostsFreeFor 21 = .ok (.iload_n 2, 1) := by decide +kernel
theorem dX0_ghostsFreeFor_22 : decode cX0_ghostsFreeFor 22 = .ok (.iconst 1, 1) := by decide +kernel
theorem dX0_ghostsFreeFor_23 : decode cX0_ghostsFreeFor 23 = .ok (.iload_n 3, 1) := by decide +kernel
theorem dX0_ghostsFreeFor_24 : decode cX0_ghostsFreeFor 24 = .ok (.ishl, 1) := by decide +kernel
theorem dX0_ghostsFreeFor_25 : decode cX0_ghostsFreeFor 25 = .ok (.ior, 1) := by decide +kernel
theorem dX0_ghostsFreeFor_26 : decode cX0_ghostsFreeFor 26 = .ok (.istore_n 2, 1) := by decide +kernel
theorem dX0_ghostsFreeFor_27 : decode cX0_ghostsFreeFor 27 = .ok (.iinc 3 1, 3) := by decide +kernel
theorem dX0_ghostsFreeFor_30 : decode cX0_ghostsFreeFor 30 = .ok (.goto (-26), 3) := by decide +kernel
theorem dX0_ghostsFreeFor_33 : decode cX0_ghostsFreeFor 33 = .ok (.iload_n 2, 1) := by decide +kernel
theorem dX0_ghostsFreeFor_34 : decode cX0_ghostsFreeFor 34 = .ok (.ireturn, 1) := by decide +kernel
theorem dX0_boardsThatWake_0 : decode cX0_boardsThatWake 0 = .ok (.iconst 0, 1) := by decide +kernel
theorem dX0_boardsThatWake_1 : decode cX0_boardsThatWake 1 = .ok (.istore_n 2, 1) := by decide +kernel
theorem dX0_boardsThatWake_2 : decode cX0_boardsThatWake 2 = .ok (.aload_n 0, 1) := by decide +kernel
theorem dX0_boardsThatWake_3 : decode cX0_boardsThatWake 3 = .ok (.getfield 37, 3) := by decide +kernel
theorem dX0_boardsThatWake_6 : decode cX0_boardsThatWake 6 = .ok (.getfield 104, 3) := by decide +kernel
theorem dX0_boardsThatWake_9 : decode cX0_boardsThatWake 9 = .ok (.iload_n 1, 1) := by decide +kernel
theorem dX0_boardsThatWake_10 : decode cX0_boardsThatWake 10 = .ok (.invokevirtual 65, 3) := by decide +kernel
theorem dX0_boardsThatWake_13 : decode cX0_boardsThatWake 13 = .ok (.istore_n 3, 1) := by decide +kernel
theorem dX0_boardsThatWake_14 : decode cX0_boardsThatWake 14 = .ok (.iconst 0, 1) := by decide +kernel
theorem dX0_boardsThatWake_15 : decode cX0_boardsThatWake 15 = .ok (.istore 4, 2) := by decide +kernel
theorem dX0_boardsThatWake_17 : decode cX0_boardsThatWake 17 = .ok (.iload 4, 2) := by decide +kernel
theorem dX0_boardsThatWake_19 : decode cX0_boardsThatWake 19 = .ok (.aload_n 0, 1) := by decide +kernel
theorem dX0_boardsThatWake_20 : decode cX0_boardsThatWake 20 = .ok (.getfield 23, 3) := by decide +kernel
theorem dX0_boardsThatWake_23 : decode cX0_boardsThatWake 23 = .ok (.getfield 105, 3) := by decide +kernel
theorem dX0_boardsThatWake_26 : decode cX0_boardsThatWake 26 = .ok (.if_icmp .ge 40, 3) := by decide +kernel
theorem dX0_boardsThatWake_29 : decode cX0_boardsThatWake 29 = .ok (.aload_n 0, 1) := by decide +kernel
theorem dX0_boardsThatWake_30 : decode cX0_boardsThatWake 30 = .ok (.getfield 23, 3) := by decide +kernel
theorem dX0_boardsThatWake_33 : decode cX0_boardsThatWake 33 = .ok (.iload_n 3, 1) := by decide +kernel
theorem dX0_boardsThatWake_34 : decode cX0_boardsThatWake 34 = .ok (.iload 4, 2) := by decide +kernel
theorem dX0_boardsThatWake_36 : decode cX0_boardsThatWake 36 = .ok (.invokevirtual 108, 3) := by decide +kernel
theorem dX0_boardsThatWake_39 : decode cX0_boardsThatWake 39 = .ok (.aload_n 0, 1) := by decide +kernel
theorem dX0_boardsThatWake_40 : decode cX0_boardsThatWake 40 = .ok (.getfield 37, 3) := by decide +kernel
theorem dX0_boardsThatWake_43 : decode cX0_boardsThatWake 43 = .ok (.getfield 111, 3) := by decide +kernel
theorem dX0_boardsThatWake_46 : decode cX0_boardsThatWake 46 = .ok (.iload_n 1, 1) := by decide +kernel
theorem dX0_boardsThatWake_47 : decode cX0_boardsThatWake 47 = .ok (.invokevirtual 65, 3) := by decide +kernel
theorem dX0_boardsThatWake_50 : decode cX0_boardsThatWake 50 = .ok (.if_icmp .lt 10, 3) := by decide +kernel
theorem dX0_boardsThatWake_53 : decode cX0_boardsThatWake 53 = .ok (.iload_n 2, 1) := by decide +kernel
theorem dX0_boardsThatWake_54 : decode cX0_boardsThatWake 54 = .ok (.iconst 1, 1) := by decide +kernel
theorem dX0_boardsThatWake_55 : decode cX0_boardsThatWake 55 = .ok (.iload 4, 2) := by decide +kernel
theorem dX0_boardsThatWake_57 : decode cX0_boardsThatWake 57 = .ok (.ishl, 1) := by decide +kernel
theorem dX0_boardsThatWake_58 : decode cX0_boardsThatWake 58 = .ok (.ior, 1) := by decide +kernel
theorem dX0_boardsThatWake_59 : decode cX0_boardsThatWake 59 = .ok (.istore_n 2, 1) := by decide +kernel
theorem dX0_boardsThatWake_60 : decode cX0_boardsThatWake 60 = .ok (.iinc 4 1, 3) := by decide +kernel
theorem dX0_boardsThatWake_63 : decode cX0_boardsThatWake 63 = .ok (.goto (-46), 3) := by decide +kernel
theorem dX0_boardsThatWake_66 : decode cX0_boardsThatWake 66 = .ok (.iload_n 2, 1) := by decide +kernel
theorem dX0_boardsThatWake_67 : decode cX0_boardsThatWake 67 = .ok (.ireturn, 1) := by decide +kernel
theorem dX0_letCreak_0 : decode cX0_letCreak 0 = .ok (.aload_n 0, 1) := by decide +kernel
theorem dX0_letCreak_1 : decode cX0_letCreak 1 = .ok (.getfield 23, 3) := by decide +kernel
theorem dX0_letCreak_4 : decode cX0_letCreak 4 = .ok (.getfield 114, 3) := by decide +kernel
theorem dX0_letCreak_7 : decode cX0_letCreak 7 = .ok (.iload_n 1, 1) := by decide +kernel
theorem dX0_letCreak_8 : decode cX0_letCreak 8 = .ok (.invokevirtual 117, 3) := by decide +kernel
theorem dX0_letCreak_11 : decode cX0_letCreak 11 = .ok (.iconst 0, 1) := by decide +kernel
theorem dX0_letCreak_12 : decode cX0_letCreak 12 = .ok (.istore_n 2, 1) := by decide +kernel
theorem dX0_letCreak_13 : decode cX0_letCreak 13 = .ok (.iconst 0, 1) := by decide +kernel
theorem dX0_letCreak_14 : decode cX0_letCreak 14 = .ok (.istore_n 3, 1) := by decide +kernel
theorem dX0_letCreak_15 : decode cX0_letCreak 15 = .ok (.iload_n 3, 1) := by decide +kernel
theorem dX0_letCreak_16 : decode cX0_letCreak 16 = .ok (.aload_n 0, 1) := by decide +kernel
theorem dX0_letCreak_17 : decode cX0_letCreak 17 = .ok (.getfield 37, 3) := by decide +kernel
theorem dX0_letCreak_20 : decode cX0_letCreak 20 = .ok (.getfield 120, 3) := by decide +kernel
theorem dX0_letCreak_23 : decode cX0_letCreak 23 = .ok (.if_icmp .ge 68, 3) := by decide +kernel
theorem dX0_letCreak_26 : decode cX0_letCreak 26 = .ok (.aload_n 0, 1) := by decide +kernel
theorem dX0_letCreak_27 : decode cX0_letCreak 27 = .ok (.getfield 23, 3) := by decide +kernel
theorem dX0_letCreak_30 : decode cX0_letCreak 30 = .ok (.aload_n 0, 1) := by decide +kernel
theorem dX0_letCreak_31 : decode cX0_letCreak 31 = .ok (.getfield 37, 3) := by decide +kernel
theorem dX0_letCreak_34 : decode cX0_letCreak 34 = .ok (.getfield 104, 3) := by decide +kernel
theorem dX0_letCreak_37 : decode cX0_letCreak 37 = .ok (.iload_n 3, 1) := by decide +kernel
theorem dX0_letCreak_38 : decode cX0_letCreak 38 = .ok (.invokevirtual 65, 3) := by decide +kernel
theorem dX0_letCreak_41 : decode cX0_letCreak 41 = .ok (.iload_n 1, 1) := by decide +kernel
theorem dX0_letCreak_42 : decode cX0_letCreak 42 = .ok (.invokevirtual 108, 3) := by decide +kernel
theorem dX0_letCreak_45 : decode cX0_letCreak 45 = .ok (.istore 4, 2) := by decide +kernel
theorem dX0_letCreak_47 : decode cX0_letCreak 47 = .ok (.iload 4, 2) := by decide +kernel
theorem dX0_letCreak_49 : decode cX0_letCreak 49 = .ok (.aload_n 0, 1) := by decide +kernel
theorem dX0_letCreak_50 : decode cX0_letCreak 50 = .ok (.getfield 37, 3) := by decide +kernel
theorem dX0_letCreak_53 : decode cX0_letCreak 53 = .ok (.getfield 111, 3) := by decide +kernel
theorem dX0_letCreak_56 : decode cX0_letCreak 56 = .ok (.iload_n 3, 1) := by decide +kernel
theorem dX0_letCreak_57 : decode cX0_letCreak 57 = .ok (.invokevirtual 65, 3) := by decide +kernel
theorem dX0_letCreak_60 : decode cX0_letCreak 60 = .ok (.if_icmp .lt 25, 3) := by decide +kernel
theorem dX0_letCreak_63 : decode cX0_letCreak 63 = .ok (.aload_n 0, 1) := by decide +kernel
theorem dX0_letCreak_64 : decode cX0_letCreak 64 = .ok (.getfield 37, 3) := by decide +kernel
theorem dX0_letCreak_67 : decode cX0_letCreak 67 = .ok (.iload_n 3, 1) := by decide +kernel
theorem dX0_letCreak_68 : decode cX0_letCreak 68 = .ok (.aload_n 0, 1) := by decide +kernel
theorem dX0_letCreak_69 : decode cX0_letCreak 69 = .ok (.getfield 14, 3) := by decide +kernel
theorem dX0_letCreak_72 : decode cX0_letCreak 72 = .ok (.iconst 1, 1) := by decide +kernel
theorem dX0_letCreak_73 : decode cX0_letCreak 73 = .ok (.invokevirtual 65, 3) := by decide +kernel
theorem dX0_letCreak_76 : decode cX0_letCreak 76 = .ok (.invokevirtual 123, 3) := by decide +kernel
theorem dX0_letCreak_79 : decode cX0_letCreak 79 = .ok (.iload_n 2, 1) := by decide +kernel
theorem dX0_letCreak_80 : decode cX0_letCreak 80 = .ok (.iconst 1, 1) := by decide +kernel
theorem dX0_letCreak_81 : decode cX0_letCreak 81 = .ok (.iload_n 3, 1) := by decide +kernel
theorem dX0_letCreak_82 : decode cX0_letCreak 82 = .ok (.ishl, 1) := by decide +kernel
theorem dX0_letCreak_83 : decode cX0_letCreak 83 = .ok (.ior, 1) := by decide +kernel
theorem dX0_letCreak_84 : decode cX0_letCreak 84 = .ok (.istore_n 2, 1) := by decide +kernel
theorem dX0_letCreak_85 : decode cX0_letCreak 85 = .ok (.iinc 3 1, 3) := by decide +kernel
theorem dX0_letCreak_88 : decode cX0_letCreak 88 = .ok (.goto (-73), 3) := by decide +kernel
theorem dX0_letCreak_91 : decode cX0_letCreak 91 = .ok (.iload_n 2, 1) := by decide +kernel
theorem dX0_letCreak_92 : decode cX0_letCreak 92 = .ok (.ireturn, 1) := by decide +kernel
theorem dX0_letPass_0 : decode cX0_letPass 0 = .ok (.aload_n 0, 1) := by decide +kernel
theorem dX0_letPass_1 : decode cX0_letPass 1 = .ok (.getfield 45, 3) := by decide +kernel
theorem dX0_letPass_4 : decode cX0_letPass 4 = .ok (.iload_n 1, 1) := by decide +kernel
theorem dX0_letPass_5 : decode cX0_letPass 5 = .ok (.iadd, 1) := by decide +kernel
theorem dX0_letPass_6 : decode cX0_letPass 6 = .ok (.aload_n 0, 1) := by decide +kernel
theorem dX0_letPass_7 : decode cX0_letPass 7 = .ok (.invokevirtual 75, 3) := by decide +kernel
theorem dX0_letPass_10 : decode cX0_letPass 10 = .ok (.idiv, 1) := by decide +kernel
theorem dX0_letPass_11 : decode cX0_letPass 11 = .ok (.aload_n 0, 1) := by decide +kernel
theorem dX0_letPass_12 : decode cX0_letPass 12 = .ok (.getfield 45, 3) := by decide +kernel
theorem dX0_letPass_15 : decode cX0_letPass 15 = .ok (.aload_n 0, 1) := by decide +kernel
theorem dX0_letPass_16 : decode cX0_letPass 16 = .ok (.invokevirtual 75, 3) := by decide +kernel
theorem dX0_letPass_19 : decode cX0_letPass 19 = .ok (.idiv, 1) := by decide +kernel
theorem dX0_letPass_20 : decode cX0_letPass 20 = .ok (.isub, 1) := by decide +kernel
theorem dX0_letPass_21 : decode cX0_letPass 21 = .ok (.istore_n 2, 1) := by decide +kernel
theorem dX0_letPass_22 : decode cX0_letPass 22 = .ok (.aload_n 0, 1) := by decide +kernel
theorem dX0_letPass_23 : decode cX0_letPass 23 = .ok (.dup, 1) := by decide +kernel
theorem dX0_letPass_24 : decode cX0_letPass 24 = .ok (.getfield 45, 3) := by decide +kernel
theorem dX0_letPass_27 : decode cX0_letPass 27 = .ok (.iload_n 1, 1) := by decide +kernel
theorem dX0_letPass_28 : decode cX0_letPass 28 = .ok (.iadd, 1) := by decide +kernel
theorem dX0_letPass_29 : decode cX0_letPass 29 = .ok (.putfield 45, 3) := by decide +kernel
theorem dX0_letPass_32 : decode cX0_letPass 32 = .ok (.aload_n 0, 1) := by decide +kernel
theorem dX0_letPass_33 : decode cX0_letPass 33 = .ok (.dup, 1) := by decide +kernel
theorem dX0_letPass_34 : decode cX0_letPass 34 = .ok (.getfield 49, 3) := by decide +kernel
theorem dX0_letPass_37 : decode cX0_letPass 37 = .ok (.iload_n 2, 1) := by decide +kernel
theorem dX0_letPass_38 : decode cX0_letPass 38 = .ok (.iadd, 1) := by decide +kernel
theorem dX0_letPass_39 : decode cX0_letPass 39 = .ok (.putfield 49, 3) := by decide +kernel
theorem dX0_letPass_42 : decode cX0_letPass 42 = .ok (.aload_n 0, 1) := by decide +kernel
theorem dX0_letPass_43 : decode cX0_letPass 43 = .ok (.getfield 37, 3) := by decide +kernel
theorem dX0_letPass_46 : decode cX0_letPass 46 = .ok (.iload_n 1, 1) := by decide +kernel
theorem dX0_letPass_47 : decode cX0_letPass 47 = .ok (.invokevirtual 126, 3) := by decide +kernel
theorem dX0_letPass_50 : decode cX0_letPass 50 = .ok (.iload_n 2, 1) := by decide +kernel
theorem dX0_letPass_51 : decode cX0_letPass 51 = .ok (.ifCond .le 14, 3) := by decide +kernel
theorem dX0_letPass_54 : decode cX0_letPass 54 = .ok (.aload_n 0, 1) := by decide +kernel
theorem dX0_letPass_55 : decode cX0_letPass 55 = .ok (.getfield 30, 3) := by decide +kernel
theorem dX0_letPass_58 : decode cX0_letPass 58 = .ok (.getfield 82, 3) := by decide +kernel
theorem dX0_letPass_61 : decode cX0_letPass 61 = .ok (.iconst 0, 1) := by decide +kernel
theorem dX0_letPass_62 : decode cX0_letPass 62 = .ok (.invokevirtual 129, 3) := by decide +kernel
theorem dX0_letPass_65 : decode cX0_letPass 65 = .ok (.iload_n 2, 1) := by decide +kernel
theorem dX0_letPass_66 : decode cX0_letPass 66 = .ok (.ireturn, 1) := by decide +kernel
theorem dX0_letGlide_0 : decode cX0_letGlide 0 = .ok (.aload_n 0, 1) := by decide +kernel
theorem dX0_letGlide_1 : decode cX0_letGlide 1 = .ok (.iload_n 2, 1) := by decide +kernel
theorem dX0_letGlide_2 : decode cX0_letGlide 2 = .ok (.invokevirtual 132, 3) := by decide +kernel
theorem dX0_letGlide_5 : decode cX0_letGlide 5 = .ok (.istore_n 3, 1) := by decide +kernel
theorem dX0_letGlide_6 : decode cX0_letGlide 6 = .ok (.aload_n 0, 1) := by decide +kernel
theorem dX0_letGlide_7 : decode cX0_letGlide 7 = .ok (.aload_n 0, 1) := by decide +kernel
theorem dX0_letGlide_8 : decode cX0_letGlide 8 = .ok (.getfield 23, 3) := by decide +kernel
theorem dX0_letGlide_11 : decode cX0_letGlide 11 = .ok (.getfield 135, 3) := by decide +kernel
theorem dX0_letGlide_14 : decode cX0_letGlide 14 = .ok (.iload_n 2, 1) := by decide +kernel
theorem dX0_letGlide_15 : decode cX0_letGlide 15 = .ok (.invokevirtual 65, 3) := by decide +kernel
theorem dX0_letGlide_18 : decode cX0_letGlide 18 = .ok (.invokevirtual 137, 3) := by decide +kernel
theorem dX0_letGlide_21 : decode cX0_letGlide 21 = .ok (.pop, 1) := by decide +kernel
theorem dX0_letGlide_22 : decode cX0_letGlide 22 = .ok (.aload_n 0, 1) := by decide +kernel
theorem dX0_letGlide_23 : decode cX0_letGlide 23 = .ok (.getfield 30, 3) := by decide +kernel
theorem dX0_letGlide_26 : decode cX0_letGlide 26 = .ok (.iload_n 1, 1) := by decide +kernel
theorem dX0_letGlide_27 : decode cX0_letGlide 27 = .ok (.iload_n 2, 1) := by decide +kernel
theorem dX0_letGlide_28 : decode cX0_letGlide 28 = .ok (.aload_n 0, 1) := by decide +kernel
theorem dX0_letGlide_29 : decode cX0_letGlide 29 = .ok (.getfield 23, 3) := by decide +kernel
theorem dX0_letGlide_32 : decode cX0_letGlide 32 = .ok (.iload_n 2, 1) := by decide +kernel
theorem dX0_letGlide_33 : decode cX0_letGlide 33 = .ok (.aload_n 0, 1) := by decide +kernel
theorem dX0_letGlide_34 : decode cX0_letGlide 34 = .ok (.getfield 30, 3) := by decide +kernel
theorem dX0_letGlide_37 : decode cX0_letGlide 37 = .ok (.getfield 97, 3) := by decide +kernel
theorem dX0_letGlide_40 : decode cX0_letGlide 40 = .ok (.iload_n 1, 1) := by decide +kernel
theorem dX0_letGlide_41 : decode cX0_letGlide 41 = .ok (.invokevirtual 65, 3) := by decide +kernel
theorem dX0_letGlide_44 : decode cX0_letGlide 44 = .ok (.invokevirtual 140, 3) := by decide +kernel
theorem dX0_letGlide_47 : decode cX0_letGlide 47 = .ok (.invokevirtual 143, 3) := by decide +kernel
theorem dX0_letGlide_50 : decode cX0_letGlide 50 = .ok (.iload_n 3, 1) := by decide +kernel
theorem dX0_letGlide_51 : decode cX0_letGlide 51 = .ok (.ireturn, 1) := by decide +kernel
theorem dX1_init_0 : decode cX1_init 0 = .ok (.aload_n 0, 1) := by decide +kernel
theorem dX1_init_1 : decode cX1_init 1 = .ok (.invokespecial 3, 3) := by decide +kernel
theorem dX1_init_4 : decode cX1_init 4 = .ok (.aload_n 0, 1) := by decide +kernel
theorem dX1_init_5 : decode cX1_init 5 = .ok (.new 9, 3) := by decide +kernel
theorem dX1_init_8 : decode cX1_init 8 = .ok (.dup, 1) := by decide +kernel
theorem dX1_init_9 : decode cX1_init 9 = .ok (.bipush 20, 2) := by decide +kernel
theorem dX1_init_11 : decode cX1_init 11 = .ok (.invokespecial 11, 3) := by decide +kernel
theorem dX1_init_14 : decode cX1_init 14 = .ok (.putfield 14, 3) := by decide +kernel
theorem dX1_init_17 : decode cX1_init 17 = .ok (.aload_n 0, 1) := by decide +kernel
theorem dX1_init_18 : decode cX1_init 18 = .ok (.new 9, 3) := by decide +kernel
theorem dX1_init_21 : decode cX1_init 21 = .ok (.dup, 1) := by decide +kernel
theorem dX1_init_22 : decode cX1_init 22 = .ok (.bipush 20, 2) := by decide +kernel
theorem dX1_init_24 : decode cX1_init 24 = .ok (.invokespecial 11, 3) := by decide +kernel
theorem dX1_init_27 : decode cX1_init 27 = .ok (.putfield 20, 3) := by decide +kernel
theorem dX1_init_30 : decode cX1_init 30 = .ok (.aload_n 0, 1) := by decide +kernel
theorem dX1_init_31 : decode cX1_init 31 = .ok (.new 9, 3) := by decide +kernel
theorem dX1_init_34 : decode cX1_init 34 = .ok (.dup, 1) := by decide +kernel
theorem dX1_init_35 : decode cX1_init 35 = .ok (.bipush 20, 2) := by decide +kernel
theorem dX1_init_37 : decode cX1_init 37 = .ok (.invokespecial 11, 3) := by decide +kernel
theorem dX1_init_40 : decode cX1_init 40 = .ok (.putfield 23, 3) := by decide +kernel
theorem dX1_init_43 : decode cX1_init 43 = .ok (.aload_n 0, 1) := by decide +kernel
theorem dX1_init_44 : decode cX1_init 44 = .ok (.new 9, 3) := by decide +kernel
theorem dX1_init_47 : decode cX1_init 47 = .ok (.dup, 1) := by decide +kernel
theorem dX1_init_48 : decode cX1_init 48 = .ok (.bipush 20, 2) := by decide +kernel
theorem dX1_init_50 : decode cX1_init 50 = .ok (.invokespecial 11, 3) := by decide +kernel
theorem dX1_init_53 : decode cX1_init 53 = .ok (.putfield 26, 3) := by decide +kernel
theorem dX1_init_56 : decode cX1_init 56 = .ok (.aload_n 0, 1) := by decide +kernel
theorem dX1_init_57 : decode cX1_init 57 = .ok (.new 9, 3) := by decide +kernel
theorem dX1_init_60 : decode cX1_init 60 = .ok (.dup, 1) := by decide +kernel
theorem dX1_init_61 : decode cX1_init 61 = .ok (.bipush 20, 2) := by decide +kernel
theorem dX1_init_63 : decode cX1_init 63 = .ok (.invokespecial 11, 3) := by decide +kernel
theorem dX1_init_66 : decode cX1_init 66 = .ok (.putfield 29, 3) := by decide +kernel
theorem dX1_init_69 : decode cX1_init 69 = .ok (.aload_n 0, 1) := by decide +kernel
theorem dX1_init_70 : decode cX1_init 70 = .ok (.new 9, 3) := by decide +kernel
theorem dX1_init_73 : decode cX1_init 73 = .ok (.dup, 1) := by decide +kernel
theorem dX1_init_74 : decode cX1_init 74 = .ok (.bipush 20, 2) := by decide +kernel
theorem dX1_init_76 : decode cX1_init 76 = .ok (.invokespecial 11, 3) := by decide +kernel
theorem dX1_init_79 : decode cX1_init 79 = .ok (.putfield 32, 3) := by decide +kernel
theorem dX1_init_82 : decode cX1_init 82 = .ok (.return_, 1) := by decide +kernel
theorem dX1_copyFrom_0 : decode cX1_copyFrom 0 = .ok (.aload_n 0, 1) := by decide +kernel
theorem dX1_copyFrom_1 : decode cX1_copyFrom 1 = .ok (.aload_n 1, 1) := by decide +kernel
theorem dX1_copyFrom_2 : decode cX1_copyFrom 2 = .ok (.getfield 35, 3) := by decide +kernel
theorem dX1_copyFrom_5 : decode cX1_copyFrom 5 = .ok (.putfield 35, 3) := by decide +kernel
theorem dX1_copyFrom_8 : decode cX1_copyFrom 8 = .ok (.aload_n 0, 1) := by decide +kernel
theorem dX1_copyFrom_9 : decode cX1_copyFrom 9 = .ok (.getfield 14, 3) := by decide +kernel
theorem dX1_copyFrom_12 : decode cX1_copyFrom 12 = .ok (.aload_n 1, 1) := by decide +kernel
theorem dX1_copyFrom_13 : decode cX1_copyFrom 13 = .ok (.getfield 14, 3) := by decide +kernel
theorem dX1_copyFrom_16 : decode cX1_copyFrom 16 = .ok (.invokevirtual 39, 3) := by decide +kernel
theorem dX1_copyFrom_19 : decode cX1_copyFrom 19 = .ok (.aload_n 0, 1) := by decide +kernel
theorem dX1_copyFrom_20 : decode cX1_copyFrom 20 = .ok (.getfield 20, 3) := by decide +kernel
theorem dX1_copyFrom_23 : decode cX1_copyFrom 23 = .ok (.aload_n 1, 1) := by decide +kernel
theorem dX1_copyFrom_24 : decode cX1_copyFrom 24 = .ok (.getfield 20, 3) := by decide +kernel
theorem dX1_copyFrom_27 : decode cX1_copyFrom 27 = .ok (.invokevirtual 39, 3) := by decide +kernel
theorem dX1_copyFrom_30 : decode cX1_copyFrom 30 = .ok (.aload_n 0, 1) := by decide +kernel
theorem dX1_copyFrom_31 : decode cX1_copyFrom 31 = .ok (.getfield 23, 3) := by decide +kernel
theorem dX1_copyFrom_34 : decode cX1_copyFrom 34 = .ok (.aload_n 1, 1) := by decide +kernel
theorem dX1_copyFrom_35 : decode cX1_copyFrom 35 = .ok (.getfield 23, 3) := by decide +kernel
theorem dX1_copyFrom_38 : decode cX1_copyFrom 38 = .ok (.invokevirtual 39, 3) := by decide +kernel
theorem dX1_copyFrom_41 : decode cX1_copyFrom 41 = .ok (.aload_n 0, 1) := by decide +kernel
theorem dX1_copyFrom_42 : decode cX1_copyFrom 42 = .ok (.getfield 26, 3) := by decide +kernel
theorem dX1_copyFrom_45 : decode cX1_copyFrom 45 = .ok (.aload_n 1, 1) := by decide +kernel
theorem dX1_copyFrom_46 : decode cX1_copyFrom 46 = .ok (.getfield 26, 3) := by decide +kernel
theorem dX1_copyFrom_49 : decode cX1_copyFrom 49 = .ok (.invokevirtual 39, 3) := by decide +kernel
theorem dX1_copyFrom_52 : decode cX1_copyFrom 52 = .ok (.aload_n 0, 1) := by decide +kernel
theorem dX1_copyFrom_53 : decode cX1_copyFrom 53 = .ok (.getfield 29, 3) := by decide +kernel
theorem dX1_copyFrom_56 : decode cX1_copyFrom 56 = .ok (.aload_n 1, 1) := by decide +kernel
theorem dX1_copyFrom_57 : decode cX1_copyFrom 57 = .ok (.getfield 29, 3) := by decide +kernel
theorem dX1_copyFrom_60 : decode cX1_copyFrom 60 = .ok (.invokevirtual 39, 3) := by decide +kernel
theorem dX1_copyFrom_63 : decode cX1_copyFrom 63 = .ok (.aload_n 0, 1) := by decide +kernel
theorem dX1_copyFrom_64 : decode cX1_copyFrom 64 = .ok (.getfield 32, 3) := by decide +kernel
theorem dX1_copyFrom_67 : decode cX1_copyFrom 67 = .ok (.aload_n 1, 1) := by decide +kernel
theorem dX1_copyFrom_68 : decode cX1_copyFrom 68 = .ok (.getfield 32, 3) := by decide +kernel
theorem dX1_copyFrom_71 : decode cX1_copyFrom 71 = .ok (.invokevirtual 39, 3) := by decide +kernel
theorem dX1_copyFrom_74 : decode cX1_copyFrom 74 = .ok (.return_, 1) := by decide +kernel
theorem dX1_has_0 : decode cX1_has 0 = .ok (.iload_n 1, 1) := by decide +kernel
theorem dX1_has_1 : decode cX1_has 1 = .ok (.iconst 0, 1) := by decide +kernel
theorem dX1_has_2 : decode cX1_has 2 = .ok (.aload_n 0, 1) := by decide +kernel
theorem dX1_has_3 : decode cX1_has 3 = .ok (.getfield 35, 3) := by decide +kernel
theorem dX1_has_6 : decode cX1_has 6 = .ok (.iconst 1, 1) := by decide +kernel
theorem dX1_has_7 : decode cX1_has 7 = .ok (.isub, 1) := by decide +kernel
theorem dX1_has_8 : decode cX1_has 8 = .ok (.invokestatic 43, 3) := by decide +kernel
theorem dX1_has_11 : decode cX1_has 11 = .ok (.ireturn, 1) := by decide +kernel
theorem dX1_append_0 : decode cX1_append 0 = .ok (.aload_n 0, 1) := by decide +kernel
theorem dX1_append_1 : decode cX1_append 1 = .ok (.getfield 35, 3) := by decide +kernel
theorem dX1_append_4 : decode cX1_append 4 = .ok (.bipush 20, 2) := by decide +kernel
theorem dX1_append_6 : decode cX1_append 6 = .ok (.if_icmp .lt 4, 3) := by decide +kernel
theorem dX1_append_9 : decode cX1_append 9 = .ok (.return_, 1) := by decide +kernel
theorem dX1_append_10 : decode cX1_append 10 = .ok (.aload_n 0, 1) := by decide +kernel
theorem dX1_append_11 : decode cX1_append 11 = .ok (.getfield 14, 3) := by decide +kernel
theorem dX1_append_14 : decode cX1_append 14 = .ok (.aload_n 0, 1) := by decide +kernel
theorem dX1_append_15 : decode cX1_append 15 = .ok (.getfield 35, 3) := by decide +kernel
theorem dX1_append_18 : decode cX1_append 18 = .ok (.iload_n 1, 1) := by decide +kernel
theorem dX1_append_19 : decode cX1_append 19 = .ok (.iload_n 2, 1) := by decide +kernel
theorem dX1_append_20 : decode cX1_append 20 = .ok (.invokestatic 47, 3) := by decide +kernel
theorem dX1_append_23 : decode cX1_append 23 = .ok (.invokevirtual 53, 3) := by decide +kernel
theorem dX1_append_26 : decode cX1_append 26 = .ok (.aload_n 0, 1) := by decide +kernel
theorem dX1_append_27 : decode cX1_append 27 = .ok (.getfield 20, 3) := by decide +kernel
theorem dX1_append_30 : decode cX1_append 30 = .ok (.aload_n 0, 1) := by decide +kernel
theorem dX1_append_31 : decode cX1_append 31 = .ok (.getfield 35, 3) := by decide +kernel
theorem dX1_append_34 : decode cX1_append 34 = .ok (.iload_n 1, 1) := by decide +kernel
theorem dX1_append_35 : decode cX1_append 35 = .ok (.iload_n 2, 1) := by decide +kernel
theorem dX1_append_36 : decode cX1_append 36 = .ok (.invokestatic 57, 3) := by decide +kernel
theorem dX1_append_39 : decode cX1_append 39 = .ok (.invokevirtual 53, 3) := by decide +kernel
theorem dX1_append_42 : decode cX1_append 42 = .ok (.aload_n 0, 1) := by decide +kernel
theorem dX1_append_43 : decode cX1_append 43 = .ok (.getfield 23, 3) := by decide +kernel
theorem dX1_append_46 : decode cX1_append 46 = .ok (.aload_n 0, 1) := by decide +kernel
theorem dX1_append_47 : decode cX1_append 47 = .ok (.getfield 35, 3) := by decide +kernel
theorem dX1_append_50 : decode cX1_append 50 = .ok (.iconst 1, 1) := by decide +kernel
theorem dX1_append_51 : decode cX1_append 51 = .ok (.iload_n 1, 1) := by decide +kernel
theorem dX1_append_52 : decode cX1_append 52 = .ok (.ishl, 1) := by decide +kernel
theorem dX1_append_53 : decode cX1_append 53 = .ok (.iconst 1, 1) := by decide +kernel
theorem dX1_append_54 : decode cX1_append 54 = .ok (.iload_n 2, 1) := by decide +kernel
theorem dX1_append_55 : decode cX1_append 55 = .ok (.ishl, 1) := by decide +kernel
theorem dX1_append_56 : decode cX1_append 56 = .ok (.ior, 1) := by decide +kernel
theorem dX1_append_57 : decode cX1_append 57 = .ok (.invokevirtual 53, 3) := by decide +kernel
theorem dX1_append_60 : decode cX1_append 60 = .ok (.aload_n 0, 1) := by decide +kernel
theorem dX1_append_61 : decode cX1_append 61 = .ok (.getfield 26, 3) := by decide +kernel
theorem dX1_append_64 : decode cX1_append 64 = .ok (.aload_n 0, 1) := by decide +kernel
theorem dX1_append_65 : decode cX1_append 65 = .ok (.getfield 35, 3) := by decide +kernel
theorem dX1_append_68 : decode cX1_append 68 = .ok (.iload_n 3, 1) := by decide +kernel
theorem dX1_append_69 : decode cX1_append 69 = .ok (.invokevirtual 53, 3) := by decide +kernel
theorem dX1_append_72 : decode cX1_append 72 = .ok (.aload_n 0, 1) := by decide +kernel
theorem dX1_append_73 : decode cX1_append 73 = .ok (.getfield 29, 3) := by decide +kernel
theorem dX1_append_76 : decode cX1_append 76 = .ok (.aload_n 0, 1) := by decide +kernel
theorem dX1_append_77 : decode cX1_append 77 = .ok (.getfield 35, 3) := by decide +kernel
theorem dX1_append_80 : decode cX1_append 80 = .ok (.iload 4, 2) := by decide +kernel
theorem dX1_append_82 : decode cX1_append 82 = .ok (.invokevirtual 53, 3) := by decide +kernel
theorem dX1_append_85 : decode cX1_append 85 = .ok (.aload_n 0, 1) := by decide +kernel
theorem dX1_append_86 : decode cX1_append 86 = .ok (.getfield 32, 3) := by decide +kernel
theorem dX1_append_89 : decode cX1_append 89 = .ok (.aload_n 0, 1) := by decide +kernel
theorem dX1_append_90 : decode cX1_append 90 = .ok (.getfield 35, 3) := by decide +kernel
theorem dX1_append_93 : decode cX1_append 93 = .ok (.iconst 0, 1) := by decide +kernel
theorem dX1_append_94 : decode cX1_append 94 = .ok (.invokevirtual 53, 3) := by decide +kernel
theorem dX1_append_97 : decode cX1_append 97 = .ok (.aload_n 0, 1) := by decide +kernel
theorem dX1_append_98 : decode cX1_append 98 = .ok (.dup, 1) := by decide +kernel
theorem dX1_append_99 : decode cX1_append 99 = .ok (.getfield 35, 3) := by decide +kernel
theorem dX1_append_102 : decode cX1_append 102 = .ok (.iconst 1, 1) := by decide +kernel
theorem dX1_append_103 : decode cX1_append 103 = .ok (.iadd, 1) := by decide +kernel
theorem dX1_append_104 : decode cX1_append 104 = .ok (.putfield 35, 3) := by decide +kernel
theorem dX1_append_107 : decode cX1_append 107 = .ok (.return_, 1) := by decide +kernel
theorem dX1_remove_0 : decode cX1_remove 0 = .ok (.aload_n 0, 1) := by decide +kernel
theorem dX1_remove_1 : decode cX1_remove 1 = .ok (.iload_n 1, 1) := by decide +kernel
theorem dX1_remove_2 : decode cX1_remove 2 = .ok (.invokevirtual 60, 3) := by decide +kernel
theorem dX1_remove_5 : decode cX1_remove 5 = .ok (.ifCond .ne 4, 3) := by decide +kernel
theorem dX1_remove_8 : decode cX1_remove 8 = .ok (.return_, 1) := by decide +kernel
theorem dX1_remove_9 : decode cX1_remove 9 = .ok (.aload_n 0, 1) := by decide +kernel
theorem dX1_remove_10 : decode cX1_remove 10 = .ok (.getfield 14, 3) := by decide +kernel
theorem dX1_remove_13 : decode cX1_remove 13 = .ok (.iload_n 1, 1) := by decide +kernel
theorem dX1_remove_14 : decode cX1_remove 14 = .ok (.invokevirtual 64, 3) := by decide +kernel
theorem dX1_remove_17 : decode cX1_remove 17 = .ok (.aload_n 0, 1) := by decide +kernel
theorem dX1_remove_18 : decode cX1_remove 18 = .ok (.getfield 20, 3) := by decide +kernel
theorem dX1_remove_21 : decode cX1_remove 21 = .ok (.iload_n 1, 1) := by decide +kernel
theorem dX1_remove_22 : decode cX1_remove 22 = .ok (.invokevirtual 64, 3) := by decide +kernel
theorem dX1_remove_25 : decode cX1_remove 25 = .ok (.aload_n 0, 1) := by decide +kernel
theorem dX1_remove_26 : decode cX1_remove 26 = .ok (.getfield 23, 3) := by decide +kernel
theorem dX1_remove_29 : decode cX1_remove 29 = .ok (.iload_n 1, 1) := by decide +kernel
theorem dX1_remove_30 : decode cX1_remove 30 = .ok (.invokevirtual 64, 3) := by decide +kernel
theorem dX1_remove_33 : decode cX1_remove 33 = .ok (.aload_n 0, 1) := by decide +kernel
theorem dX1_remove_34 : decode cX1_remove 34 = .ok (.getfield 26, 3) := by decide +kernel
theorem dX1_remove_37 : decode cX1_remove 37 = .ok (.iload_n 1, 1) := by decide +kernel
theorem dX1_remove_38 : decode cX1_remove 38 = .ok (.invokevirtual 64, 3) := by decide +kernel
theorem dX1_remove_41 : decode cX1_remove 41 = .ok (.aload_n 0, 1) := by decide +kernel
theorem dX1_remove_42 : decode cX1_remove 42 = .ok (.getfield 29, 3) := by decide +kernel
theorem dX1_remove_45 : decode cX1_remove 45 = .ok (.iload_n 1, 1) := by decide +kernel
theorem dX1_remove_46 : decode cX1_remove 46 = .ok (.invokevirtual 64, 3) := by decide +kernel
theorem dX1_remove_49 : decode cX1_remove 49 = .ok (.aload_n 0, 1) := by decide +kernel
theorem dX1_remove_50 : decode cX1_remove 50 = .ok (.getfield 32, 3) := by decide +kernel
theorem dX1_remove_53 : decode cX1_remove 53 = .ok (.iload_n 1, 1) := by decide +kernel
theorem dX1_remove_54 : decode cX1_remove 54 = .ok (.invokevirtual 64, 3) := by decide +kernel
theorem dX1_remove_57 : decode cX1_remove 57 = .ok (.aload_n 0, 1) := by decide +kernel
theorem dX1_remove_58 : decode cX1_remove 58 = .ok (.dup, 1) := by decide +kernel
theorem dX1_remove_59 : decode cX1_remove 59 = .ok (.getfield 35, 3) := by decide +kernel
theorem dX1_remove_62 : decode cX1_remove 62 = .ok (.iconst 1, 1) := by decide +kernel
theorem dX1_remove_63 : decode cX1_remove 63 = .ok (.isub, 1) := by decide +kernel
theorem dX1_remove_64 : decode cX1_remove 64 = .ok (.putfield 35, 3) := by decide +kernel
theorem dX1_remove_67 : decode cX1_remove 67 = .ok (.return_, 1) := by decide +kernel
theorem dX1_all_0 : decode cX1_all 0 = .ok (.iconst 1, 1) := by decide +kernel
theorem dX1_all_1 : decode cX1_all 1 = .ok (.aload_n 0, 1) := by decide +kernel
theorem dX1_all_2 : decode cX1_all 2 = .ok (.getfield 35, 3) := by decide +kernel
theorem dX1_all_5 : decode cX1_all 5 = .ok (.ishl, 1) := by decide +kernel
theorem dX1_all_6 : decode cX1_all 6 = .ok (.iconst 1, 1) := by decide +kernel
theorem dX1_all_7 : decode cX1_all 7 = .ok (.isub, 1) := by decide +kernel
theorem dX1_all_8 : decode cX1_all 8 = .ok (.ireturn, 1) := by decide +kernel
theorem dX1_beyond_0 : decode cX1_beyond 0 = .ok (.aload_n 0, 1) := by decide +kernel
theorem dX1_beyond_1 : decode cX1_beyond 1 = .ok (.getfield 14, 3) := by decide +kernel
theorem dX1_beyond_4 : decode cX1_beyond 4 = .ok (.iload_n 1, 1) := by decide +kernel
theorem dX1_beyond_5 : decode cX1_beyond 5 = .ok (.invokevirtual 67, 3) := by decide +kernel
theorem dX1_beyond_8 : decode cX1_beyond 8 = .ok (.iload_n 2, 1) := by decide +kernel
theorem dX1_beyond_9 : decode cX1_beyond 9 = .ok (.if_icmp .ne 14, 3) := by decide +kernel
theorem dX1_beyond_12 : decode cX1_beyond 12 = .ok (.aload_n 0, 1) := by decide +kernel
theorem dX1_beyond_13 : decode cX1_beyond 13 = .ok (.getfield 20, 3) := by decide +kernel
theorem dX1_beyond_16 : decode cX1_beyond 16 = .ok (.iload_n 1, 1) := by decide +kernel
theorem dX1_beyond_17 : decode cX1_beyond 17 = .ok (.invokevirtual 67, 3) := by decide +kernel
theorem dX1_beyond_20 : decode cX1_beyond 20 = .ok (.goto 11, 3) := by decide +kernel
theorem dX1_beyond_23 : decode cX1_beyond 23 = .ok (.aload_n 0, 1) := by decide +kernel
theorem dX1_beyond_24 : decode cX1_beyond 24 = .ok (.getfield 14, 3) := by decide +kernel
theorem dX1_beyond_27 : decode cX1_beyond 27 = .ok (.iload_n 1, 1) := by decide +kernel
theorem dX1_beyond_28 : decode cX1_beyond 28 = .ok (.invokevirtual 67, 3) := by decide +kernel
theorem dX1_beyond_31 : decode cX1_beyond 31 = .ok (.ireturn, 1) := by decide +kernel
theorem dX1_touching_0 : decode cX1_touching 0 = .ok (.iconst 0, 1) := by decide +kernel
theorem dX1_touching_1 : decode cX1_touching 1 = .ok (.istore_n 2, 1) := by decide +kernel
theorem dX1_touching_2 : decode cX1_touching 2 = .ok (.iconst 0, 1) := by decide +kernel
theorem dX1_touching_3 : decode cX1_touching 3 = .ok (.istore_n 3, 1) := by decide +kernel
theorem dX1_touching_4 : decode cX1_touching 4 = .ok (.iload_n 3, 1) := by decide +kernel
theorem dX1_touching_5 : decode cX1_touching 5 = .ok (.aload_n 0, 1) := by decide +kernel
theorem dX1_touching_6 : decode cX1_touching 6 = .ok (.getfield 35, 3) := by decide +kernel
theorem dX1_touching_9 : decode cX1_touching 9 = .ok (.if_icmp .ge 28, 3) := by decide +kernel
theorem dX1_touching_12 : decode cX1_touching 12 = .ok (.aload_n 0, 1) := by decide +kernel
theorem dX1_touching_13 : decode cX1_touching 13 = .ok (.getfield 23, 3) := by decide +kernel
theorem dX1_touching_16 : decode cX1_touching 16 = .ok (.iload_n 3, 1) := by decide +kernel
theorem dX1_touching_17 : decode cX1_touching 17 = .ok (.invokevirtual 67, 3) := by decide +kernel
theorem dX1_touching_20 : decode cX1_touching 20 = .ok (.iload_n 1, 1) := by decide +kernel
theorem dX1_touching_21 : decode cX1_touching 21 = .ok (.iand, 1) := by decide +kernel
theorem dX1_touching_22 : decode cX1_touching 22 = .ok (.ifCond .eq 9, 3) := by decide +kernel
theorem dX1_touching_25 : decode cX1_touching 25 = .ok (.iload_n 2, 1) := by decide +kernel
theorem dX1_touching_26 : decode cX1_touching 26 = .ok (.iconst 1, 1) := by decide +kernel
theorem dX1_touching_27 : decode cX1_touching 27 = .ok (.iload_n 3, 1) := by decide +kernel
theorem dX1_touching_28 : decode cX1_touching 28 = .ok (.ishl, 1) := by decide +kernel
theorem dX1_touching_29 : decode cX1_touching 29 = .ok (.ior, 1) := by decide +kernel
theorem dX1_touching_30 : decode cX1_touching 30 = .ok (.istore_n 2, 1) := by decide +kernel
theorem dX1_touching_31 : decode cX1_touching 31 = .ok (.iinc 3 1, 3) := by decide +kernel
theorem dX1_touching_34 : decode cX1_touching 34 = .ok (.goto (-30), 3) := by decide +kernel
theorem dX1_touching_37 : decode cX1_touching 37 = .ok (.iload_n 2, 1) := by decide +kernel
theorem dX1_touching_38 : decode cX1_touching 38 = .ok (.ireturn, 1) := by decide +kernel
theorem dX1_atMostAsLoud_0 : decode cX1_atMostAsLoud 0 = .ok (.iconst 0, 1) := by decide +kernel
theorem dX1_atMostAsLoud_1 : decode cX1_atMostAsLoud 1 = .ok (.istore_n 2, 1) := by decide +kernel
theorem dX1_atMostAsLoud_2 : decode cX1_atMostAsLoud 2 = .ok (.iconst 0, 1) := by decide +kernel
theorem dX1_atMostAsLoud_3 : decode cX1_atMostAsLoud 3 = .ok (.istore_n 3, 1) := by decide +kernel
theorem dX1_atMostAsLoud_4 : decode cX1_atMostAsLoud 4 = .ok (.iload_n 3, 1) := by decide +kernel
theorem dX1_atMostAsLoud_5 : decode cX1_atMostAsLoud 5 = .ok (.aload_n 0, 1) := by decide +kernel
theorem dX1_atMostAsLoud_6 : decode cX1_atMostAsLoud 6 = .ok (.getfield 35, 3) := by decide +kernel
theorem dX1_atMostAsLoud_9 : decode cX1_atMostAsLoud 9 = .ok (.if_icmp .ge 27, 3) := by decide +kernel
theorem dX1_atMostAsLoud_12 : decode cX1_atMostAsLoud 12 = .ok (.aload_n 0, 1) := by decide +kernel
theorem dX1_atMostAsLoud_13 : decode cX1_atMostAsLoud 13 = .ok (.getfield 26, 3) := by decide +kernel
theorem dX1_atMostAsLoud_16 : decode cX1_atMostAsLoud 16 = .ok (.iload_n 3, 1) := by decide +kernel
theorem dX1_atMostAsLoud_17 : decode cX1_atMostAsLoud 17 = .ok (.invokevirtual 67, 3) := by decide +kernel
theorem dX1_atMostAsLoud_20 : decode cX1_atMostAsLoud 20 = .ok (.iload_n 1, 1) := by decide +kernel
theorem dX1_atMostAsLoud_21 : decode cX1_atMostAsLoud 21 = .ok (.if_icmp .gt 9, 3) := by decide +kernel
theorem dX1_atMostAsLoud_24 : decode cX1_atMostAsLoud 24 = .ok (.iload_n 2, 1) := by decide +kernel
theorem dX1_atMostAsLoud_25 : decode cX1_atMostAsLoud 25 = .ok (.iconst 1, 1) := by decide +kernel
theorem dX1_atMostAsLoud_26 : decode cX1_atMostAsLoud 26 = .ok (.iload_n 3, 1) := by decide +kernel
theorem dX1_atMostAsLoud_27 : decode cX1_atMostAsLoud 27 = .ok (.ishl, 1) := by decide +kernel
theorem dX1_atMostAsLoud_28 : decode cX1_atMostAsLoud 28 = .ok (.ior, 1) := by decide +kernel
theorem dX1_atMostAsLoud_29 : decode cX1_atMostAsLoud 29 = .ok (.istore_n 2, 1) := by decide +kernel
theorem dX1_atMostAsLoud_30 : decode cX1_atMostAsLoud 30 = .ok (.iinc 3 1, 3) := by decide +kernel
theorem dX1_atMostAsLoud_33 : decode cX1_atMostAsLoud 33 = .ok (.goto (-29), 3) := by decide +kernel
theorem dX1_atMostAsLoud_36 : decode cX1_atMostAsLoud 36 = .ok (.iload_n 2, 1) := by decide +kernel
theorem dX1_atMostAsLoud_37 : decode cX1_atMostAsLoud 37 = .ok (.ireturn, 1) := by decide +kernel
theorem dX1_widened_0 : decode cX1_widened 0 = .ok (.iload_n 1, 1) := by decide +kernel
theorem dX1_widened_1 : decode cX1_widened 1 = .ok (.istore_n 3, 1) := by decide +kernel
theorem dX1_widened_2 : decode cX1_widened 2 = .ok (.iconst 0, 1) := by decide +kernel
theorem dX1_widened_3 : decode cX1_widened 3 = .ok (.istore 4, 2) := by decide +kernel
theorem dX1_widened_5 : decode cX1_widened 5 = .ok (.iload 4, 2) := by decide +kernel
theorem dX1_widened_7 : decode cX1_widened 7 = .ok (.aload_n 0, 1) := by decide +kernel
theorem dX1_widened_8 : decode cX1_widened 8 = .ok (.getfield 35, 3) := by decide +kernel
theorem dX1_widened_11 : decode cX1_widened 11 = .ok (.if_icmp .ge 44, 3) := by decide +kernel
theorem dX1_widened_14 : decode cX1_widened 14 = .ok (.iload_n 2, 1) := by decide +kernel
theorem dX1_widened_15 : decode cX1_widened 15 = .ok (.iload 4, 2) := by decide +kernel
theorem dX1_widened_17 : decode cX1_widened 17 = .ok (.invokestatic 71, 3) := by decide +kernel
theorem dX1_widened_20 : decode cX1_widened 20 = .ok (.ifCond .eq 29, 3) := by decide +kernel
theorem dX1_widened_23 : decode cX1_widened 23 = .ok (.aload_n 0, 1) := by decide +kernel
theorem dX1_widened_24 : decode cX1_widened 24 = .ok (.getfield 23, 3) := by decide +kernel
theorem dX1_widened_27 : decode cX1_widened 27 = .ok (.iload 4, 2) := by decide +kernel
theorem dX1_widened_29 : decode cX1_widened 29 = .ok (.invokevirtual 67, 3) := by decide +kernel
theorem dX1_widened_32 : decode cX1_widened 32 = .ok (.iload_n 1, 1) := by decide +kernel
theorem dX1_widened_33 : decode cX1_widened 33 = .ok (.iand, 1) := by decide +kernel
theorem dX1_widened_34 : decode cX1_widened 34 = .ok (.ifCond .eq 15, 3) := by decide +kernel
theorem dX1_widened_37 : decode cX1_widened 37 = .ok (.iload_n 3, 1) := by decide +kernel
theorem dX1_widened_38 : decode cX1_widened 38 = .ok (.aload_n 0, 1) := by decide +kernel
theorem dX1_widened_39 : decode cX1_widened 39 = .ok (.getfield 23, 3) := by decide +kernel
theorem dX1_widened_42 : decode cX1_widened 42 = .ok (.iload 4, 2) := by decide +kernel
theorem dX1_widened_44 : decode cX1_widened 44 = .ok (.invokevirtual 67, 3) := by decide +kernel
theorem dX1_widened_47 : decode cX1_widened 47 = .ok (.ior, 1) := by decide +kernel
theorem dX1_widened_48 : decode cX1_widened 48 = .ok (.istore_n 3, 1) := by decide +kernel
theorem dX1_widened_49 : decode cX1_widened 49 = .ok (.iinc 4 1, 3) := by decide +kernel
theorem dX1_widened_52 : decode cX1_widened 52 = .ok (.goto (-47), 3) := by decide +kernel
theorem dX1_widened_55 : decode cX1_widened 55 = .ok (.iload_n 3, 1) := by decide +kernel
theorem dX1_widened_56 : decode cX1_widened 56 = .ok (.ireturn, 1) := by decide +kernel
theorem dX1_roomsFrom_0 : decode cX1_roomsFrom 0 = .ok (.iconst 1, 1) := by decide +kernel
theorem dX1_roomsFrom_1 : decode cX1_roomsFrom 1 = .ok (.iload_n 1, 1) := by decide +kernel
theorem dX1_roomsFrom_2 : decode cX1_roomsFrom 2 = .ok (.ishl, 1) := by decide +kernel
theorem dX1_roomsFrom_3 : decode cX1_roomsFrom 3 = .ok (.istore_n 3, 1) := by decide +kernel
theorem dX1_roomsFrom_4 : decode cX1_roomsFrom 4 = .ok (.iconst 1, 1) := by decide +kernel
theorem dX1_roomsFrom_5 : decode cX1_roomsFrom 5 = .ok (.istore 4, 2) := by decide +kernel
theorem dX1_roomsFrom_7 : decode cX1_roomsFrom 7 = .ok (.iload 4, 2) := by decide +kernel
theorem dX1_roomsFrom_9 : decode cX1_roomsFrom 9 = .ok (.bipush 10, 2) := by decide +kernel
theorem dX1_roomsFrom_11 : decode cX1_roomsFrom 11 = .ok (.if_icmp .ge 29, 3) := by decide +kernel
theorem dX1_roomsFrom_14 : decode cX1_roomsFrom 14 = .ok (.aload_n 0, 1) := by decide +kernel
theorem dX1_roomsFrom_15 : decode cX1_roomsFrom 15 = .ok (.iload_n 3, 1) := by decide +kernel
theorem dX1_roomsFrom_16 : decode cX1_roomsFrom 16 = .ok (.iload_n 2, 1) := by decide +kernel
theorem dX1_roomsFrom_17 : decode cX1_roomsFrom 17 = .ok (.invokevirtual 75, 3) := by decide +kernel
theorem dX1_roomsFrom_20 : decode cX1_roomsFrom 20 = .ok (.istore 5, 2) := by decide +kernel
theorem dX1_roomsFrom_22 : decode cX1_roomsFrom 22 = .ok (.iload 5, 2) := by decide +kernel
theorem dX1_roomsFrom_24 : decode cX1_roomsFrom 24 = .ok (.iload_n 3, 1) := by decide +kernel
theorem dX1_roomsFrom_25 : decode cX1_roomsFrom 25 = .ok (.if_icmp .ne 6, 3) := by decide +kernel
theorem dX1_roomsFrom_28 : decode cX1_roomsFrom 28 = .ok (.goto 12, 3) := by decide +kernel
theorem dX1_roomsFrom_31 : decode cX1_roomsFrom 31 = .ok (.iload 5, 2) := by decide +kernel
theorem dX1_roomsFrom_33 : decode cX1_roomsFrom 33 = .ok (.istore_n 3, 1) := by decide +kernel
theorem dX1_roomsFrom_34 : decode cX1_roomsFrom 34 = .ok (.iinc 4 1, 3) := by decide +kernel
theorem dX1_roomsFrom_37 : decode cX1_roomsFrom 37 = .ok (.goto (-30), 3) := by decide +kernel
theorem dX1_roomsFrom_40 : decode cX1_roomsFrom 40 = .ok (.iload_n 3, 1) := by decide +kernel
theorem dX1_roomsFrom_41 : decode cX1_roomsFrom 41 = .ok (.ireturn, 1) := by decide +kernel
theorem dX1_fewestTo_0 : decode cX1_fewestTo 0 = .ok (.iconst 1, 1) := by decide +kernel
theorem dX1_fewestTo_1 : decode cX1_fewestTo 1 = .ok (.iload_n 1, 1) := by decide +kernel
theorem dX1_fewestTo_2 : decode cX1_fewestTo 2 = .ok (.ishl, 1) := by decide +kernel
theorem dX1_fewestTo_3 : decode cX1_fewestTo 3 = .ok (.istore_n 3, 1) := by decide +kernel
theorem dX1_fewestTo_4 : decode cX1_fewestTo 4 = .ok (.iconst 0, 1) := by decide +kernel
theorem dX1_fewestTo_5 : decode cX1_fewestTo 5 = .ok (.istore 4, 2) := by decide +kernel
theorem dX1_fewestTo_7 : decode cX1_fewestTo 7 = .ok (.iload 4, 2) := by decide +kernel
theorem dX1_fewestTo_9 : decode cX1_fewestTo 9 = .ok (.bipush 10, 2) := by decide +kernel
theorem dX1_fewestTo_11 : decode cX1_fewestTo 11 = .ok (.if_icmp .ge 41, 3) := by decide +kernel
theorem dX1_fewestTo_14 : decode cX1_fewestTo 14 = .ok (.iload_n 3, 1) := by decide +kernel
theorem dX1_fewestTo_15 : decode cX1_fewestTo 15 = .ok (.iload_n 2, 1) := by decide +kernel
theorem dX1_fewestTo_16 : decode cX1_fewestTo 16 = .ok (.iand, 1) := by decide +kernel
theorem dX1_fewestTo_17 : decode cX1_fewestTo 17 = .ok (.ifCond .eq 6, 3) := by decide +kernel
theorem dX1_fewestTo_20 : decode cX1_fewestTo 20 = .ok (.iload 4, 2) := by decide +kernel
theorem dX1_fewestTo_22 : decode cX1_fewestTo 22 = .ok (.ireturn, 1) := by decide +kernel
theorem dX1_fewestTo_23 : decode cX1_fewestTo 23 = .ok (.aload_n 0, 1) := by decide +kernel
theorem dX1_fewestTo_24 : decode cX1_fewestTo 24 = .ok (.iload_n 3, 1) := by decide +kernel
theorem dX1_fewestTo_25 : decode cX1_fewestTo 25 = .ok (.aload_n 0, 1) := by decide +kernel
theorem dX1_fewestTo_26 : decode cX1_fewestTo 26 = .ok (.invokevirtual 78, 3) := by decide +kernel
theorem dX1_fewestTo_29 : decode cX1_fewestTo 29 = .ok (.invokevirtual 75, 3) := by decide +kernel
theorem dX1_fewestTo_32 : decode cX1_fewestTo 32 = .ok (.istore 5, 2) := by decide +kernel
theorem dX1_fewestTo_34 : decode cX1_fewestTo 34 = .ok (.iload 5, 2) := by decide +kernel
theorem dX1_fewestTo_36 : decode cX1_fewestTo 36 = .ok (.iload_n 3, 1) := by decide +kernel
theorem dX1_fewestTo_37 : decode cX1_fewestTo 37 = .ok (.if_icmp .ne 6, 3) := by decide +kernel
theorem dX1_fewestTo_40 : decode cX1_fewestTo 40 = .ok (.goto 12, 3) := by decide +kernel
theorem dX1_fewestTo_43 : decode cX1_fewestTo 43 = .ok (.iload 5, 2) := by decide +kernel
theorem dX1_fewestTo_45 : decode cX1_fewestTo 45 = .ok (.istore_n 3, 1) := by decide +kernel
theorem dX1_fewestTo_46 : decode cX1_fewestTo 46 = .ok (.iinc 4 1, 3) := by decide +kernel
theorem dX1_fewestTo_49 : decode cX1_fewestTo 49 = .ok (.goto (-42), 3) := by decide +kernel
theorem dX1_fewestTo_52 : decode cX1_fewestTo 52 = .ok (.bipush (-6), 2) := by decide +kernel
theorem dX1_fewestTo_54 : decode cX1_fewestTo 54 = .ok (.ireturn, 1) := by decide +kernel
theorem dX1_loudnessIn_0 : decode cX1_loudnessIn 0 = .ok (.aload_n 0, 1) := by decide +kernel
theorem dX1_loudnessIn_1 : decode cX1_loudnessIn 1 = .ok (.iload_n 1, 1) := by decide +kernel
theorem dX1_loudnessIn_2 : decode cX1_loudnessIn 2 = .ok (.aload_n 0, 1) := by decide +kernel
theorem dX1_loudnessIn_3 : decode cX1_loudnessIn 3 = .ok (.getfield 23, 3) := by decide +kernel
theorem dX1_loudnessIn_6 : decode cX1_loudnessIn 6 = .ok (.iload_n 2, 1) := by decide +kernel
theorem dX1_loudnessIn_7 : decode cX1_loudnessIn 7 = .ok (.invokevirtual 67, 3) := by decide +kernel
theorem dX1_loudnessIn_10 : decode cX1_loudnessIn 10 = .ok (.invokevirtual 82, 3) := by decide +kernel
theorem dX1_loudnessIn_13 : decode cX1_loudnessIn 13 = .ok (.istore_n 3, 1) := by decide +kernel
theorem dX1_loudnessIn_14 : decode cX1_loudnessIn 14 = .ok (.iload_n 3, 1) := by decide +kernel
theorem dX1_loudnessIn_15 : decode cX1_loudnessIn 15 = .ok (.bipush (-6), 2) := by decide +kernel
theorem dX1_loudnessIn_17 : decode cX1_loudnessIn 17 = .ok (.if_icmp .ne 7, 3) := by decide +kernel
theorem dX1_loudnessIn_20 : decode cX1_loudnessIn 20 = .ok (.iconst 0, 1) := by decide +kernel
theorem dX1_loudnessIn_21 : decode cX1_loudnessIn 21 = .ok (.goto 17, 3) := by decide +kernel
theorem dX1_loudnessIn_24 : decode cX1_loudnessIn 24 = .ok (.aload_n 0, 1) := by decide +kernel
theorem dX1_loudnessIn_25 : decode cX1_loudnessIn 25 = .ok (.getfield 26, 3) := by decide +kernel
theorem dX1_loudnessIn_28 : decode cX1_loudnessIn 28 = .ok (.iload_n 2, 1) := by decide +kernel
theorem dX1_loudnessIn_29 : decode cX1_loudnessIn 29 = .ok (.invokevirtual 67, 3) := by decide +kernel
theorem dX1_loudnessIn_32 : decode cX1_loudnessIn 32 = .ok (.iload_n 3, 1) := by decide +kernel
theorem dX1_loudnessIn_33 : decode cX1_loudnessIn 33 = .ok (.isub, 1) := by decide +kernel
theorem dX1_loudnessIn_34 : decode cX1_loudnessIn 34 = .ok (.iconst 0, 1) := by decide +kernel
theorem dX1_loudnessIn_35 : decode cX1_loudnessIn 35 = .ok (.invokestatic 57, 3) := by decide +kernel
theorem dX1_loudnessIn_38 : decode cX1_loudnessIn 38 = .ok (.ireturn, 1) := by decide +kernel
theorem dX1_pairsApartWithout_0 : decode cX1_pairsApartWithout 0 = .ok (.aload_n 0, 1) := by decide +kernel
theorem dX1_pairsApartWithout_1 : decode cX1_pairsApartWithout 1 = .ok (.invokevirtual 78, 3) := by decide +kernel
theorem dX1_pairsApartWithout_4 : decode cX1_pairsApartWithout 4 = .ok (.iconst 1, 1) := by decide +kernel
theorem dX1_pairsApartWithout_5 : decode cX1_pairsApartWithout 5 = .ok (.iload_n 1, 1) := by decide +kernel
theorem dX1_pairsApartWithout_6 : decode cX1_pairsApartWithout 6 = .ok (.ishl, 1) := by decide +kernel
theorem dX1_pairsApartWithout_7 : decode cX1_pairsApartWithout 7 = .ok (.iconst (-1), 1) := by decide +kernel
theorem dX1_pairsApartWithout_8 : decode cX1_pairsApartWithout 8 = .ok (.ixor, 1) := by decide +kernel
theorem dX1_pairsApartWithout_9 : decode cX1_pairsApartWithout 9 = .ok (.iand, 1) := by decide +kernel
theorem dX1_pairsApartWithout_10 : decode cX1_pairsApartWithout 10 = .ok (.istore_n 2, 1) := by decide +kernel
theorem dX1_pairsApartWithout_11 : decode cX1_pairsApartWithout 11 = .ok (.aload_n 0, 1) := by decide +kernel
theorem dX1_pairsApartWithout_12 : decode cX1_pairsApartWithout 12 = .ok (.aload_n 0, 1) := by decide +kernel
theorem dX1_pairsApartWithout_13 : decode cX1_pairsApartWithout 13 = .ok (.getfield 14, 3) := by decide +kernel
theorem dX1_pairsApartWithout_16 : decode cX1_pairsApartWithout 16 = .ok (.iload_n 1, 1) := by decide +kernel
theorem dX1_pairsApartWithout_17 : decode cX1_pairsApartWithout 17 = .ok (.invokevirtual 67, 3) := by decide +kernel
theorem dX1_pairsApartWithout_20 : decode cX1_pairsApartWithout 20 = .ok (.iload_n 2, 1) := by decide +kernel
theorem dX1_pairsApartWithout_21 : decode cX1_pairsApartWithout 21 = .ok (.invokevirtual 85, 3) := by decide +kernel
theorem dX1_pairsApartWithout_24 : decode cX1_pairsApartWithout 24 = .ok (.istore_n 3, 1) := by decide +kernel
theorem dX1_pairsApartWithout_25 : decode cX1_pairsApartWithout 25 = .ok (.iload_n 3, 1) := by decide +kernel
theorem dX1_pairsApartWithout_26 : decode cX1_pairsApartWithout 26 = .ok (.aload_n 0, 1) := by decide +kernel
theorem dX1_pairsApartWithout_27 : decode cX1_pairsApartWithout 27 = .ok (.getfield 20, 3) := by decide +kernel
theorem dX1_pairsApartWithout_30 : decode cX1_pairsApartWithout 30 = .ok (.iload_n 1, 1) := by decide +kernel
theorem dX1_pairsApartWithout_31 : decode cX1_pairsApartWithout 31 = .ok (.invokevirtual 67, 3) := by decide +kernel
theorem dX1_pairsApartWithout_34 : decode cX1_pairsApartWithout 34 = .ok (.invokestatic 71, 3) := by decide +kernel
theorem dX1_pairsApartWithout_37 : decode cX1_pairsApartWithout 37 = .ok (.ifCond .eq 5, 3) := by decide +kernel
theorem dX1_pairsApartWithout_40 : decode cX1_pairsApartWithout 40 = .ok (.iconst 0, 1) := by decide +kernel
theorem dX1_pairsApartWithout_41 : decode cX1_pairsApartWithout 41 = .ok (.ireturn, 1) := by decide +kernel
theorem dX1_pairsApartWithout_42 : decode cX1_pairsApartWithout 42 = .ok (.aload_n 0, 1) := by decide +kernel
theorem dX1_pairsApartWithout_43 : decode cX1_pairsApartWithout 43 = .ok (.aload_n 0, 1) := by decide +kernel
theorem dX1_pairsApartWithout_44 : decode cX1_pairsApartWithout 44 = .ok (.getfield 20, 3) := by decide +kernel
theorem dX1_pairsApartWithout_47 : decode cX1_pairsApartWithout 47 = .ok (.iload_n 1, 1) := by decide +kernel
theorem dX1_pairsApartWithout_48 : decode cX1_pairsApartWithout 48 = .ok (.invokevirtual 67, 3) := by decide +kernel
theorem dX1_pairsApartWithout_51 : decode cX1_pairsApartWithout 51 = .ok (.iload_n 2, 1) := by decide +kernel
theorem dX1_pairsApartWithout_52 : decode cX1_pairsApartWithout 52 = .ok (.invokevirtual 85, 3) := by decide +kernel
theorem dX1_pairsApartWithout_55 : decode cX1_pairsApartWithout 55 = .ok (.istore 4, 2) := by decide +kernel
theorem dX1_pairsApartWithout_57 : decode cX1_pairsApartWithout 57 = .ok (.iload_n 3, 1) := by decide +kernel
theorem dX1_pairsApartWithout_58 : decode cX1_pairsApartWithout 58 = .ok (.invokestatic 88, 3) := by decide +kernel
theorem dX1_pairsApartWithout_61 : decode cX1_pairsApartWithout 61 = .ok (.iload 4, 2) := by decide +kernel
theorem dX1_pairsApartWithout_63 : decode cX1_pairsApartWithout 63 = .ok (.invokestatic 88, 3) := by decide +kernel
theorem dX1_pairsApartWithout_66 : decode cX1_pairsApartWithout 66 = .ok (.imul, 1) := by decide +kernel
theorem dX1_pairsApartWithout_67 : decode cX1_pairsApartWithout 67 = .ok (.ireturn, 1) := by decide +kernel
theorem dX2_init_0 : decode cX2_init 0 = .ok (.aload_n 0, 1) := by decide +kernel
theorem dX2_init_1 : decode cX2_init 1 = .ok (.invokespecial 3, 3) := by decide +kernel
theorem dX2_init_4 : decode cX2_init 4 = .ok (.aload_n 0, 1) := by decide +kernel
theorem dX2_init_5 : decode cX2_init 5 = .ok (.new 9, 3) := by decide +kernel
theorem dX2_init_8 : decode cX2_init 8 = .ok (.dup, 1) := by decide +kernel
theorem dX2_init_9 : decode cX2_init 9 = .ok (.iconst 4, 1) := by decide +kernel
theorem dX2_init_10 : decode cX2_init 10 = .ok (.invokespecial 11, 3) := by decide +kernel
theorem dX2_init_13 : decode cX2_init 13 = .ok (.putfield 14, 3) := by decide +kernel
theorem dX2_init_16 : decode cX2_init 16 = .ok (.aload_n 0, 1) := by decide +kernel
theorem dX2_init_17 : decode cX2_init 17 = .ok (.new 9, 3) := by decide +kernel
theorem dX2_init_20 : decode cX2_init 20 = .ok (.dup, 1) := by decide +kernel
theorem dX2_init_21 : decode cX2_init 21 = .ok (.iconst 4, 1) := by decide +kernel
theorem dX2_init_22 : decode cX2_init 22 = .ok (.invokespecial 11, 3) := by decide +kernel
theorem dX2_init_25 : decode cX2_init 25 = .ok (.putfield 20, 3) := by decide +kernel
theorem dX2_init_28 : decode cX2_init 28 = .ok (.aload_n 0, 1) := by decide +kernel
theorem dX2_init_29 : decode cX2_init 29 = .ok (.new 9, 3) := by decide +kernel
theorem dX2_init_32 : decode cX2_init 32 = .ok (.dup, 1) := by decide +kernel
theorem dX2_init_33 : decode cX2_init 33 = .ok (.iconst 4, 1) := by decide +kernel
theorem dX2_init_34 : decode cX2_init 34 = .ok (.invokespecial 11, 3) := by decide +kernel
theorem dX2_init_37 : decode cX2_init 37 = .ok (.putfield 23, 3) := by decide +kernel
theorem dX2_init_40 : decode cX2_init 40 = .ok (.return_, 1) := by decide +kernel
theorem dX2_copyFrom_0 : decode cX2_copyFrom 0 = .ok (.aload_n 0, 1) := by decide +kernel
theorem dX2_copyFrom_1 : decode cX2_copyFrom 1 = .ok (.getfield 14, 3) := by decide +kernel
theorem dX2_copyFrom_4 : decode cX2_copyFrom 4 = .ok (.aload_n 1, 1) := by decide +kernel
theorem dX2_copyFrom_5 : decode cX2_copyFrom 5 = .ok (.getfield 14, 3) := by decide +kernel
theorem dX2_copyFrom_8 : decode cX2_copyFrom 8 = .ok (.invokevirtual 26, 3) := by decide +kernel
theorem dX2_copyFrom_11 : decode cX2_copyFrom 11 = .ok (.aload_n 0, 1) := by decide +kernel
theorem dX2_copyFrom_12 : decode cX2_copyFrom 12 = .ok (.getfield 20, 3) := by decide +kernel
theorem dX2_copyFrom_15 : decode cX2_copyFrom 15 = .ok (.aload_n 1, 1) := by decide +kernel
theorem dX2_copyFrom_16 : decode cX2_copyFrom 16 = .ok (.getfield 20, 3) := by decide +kernel
theorem dX2_copyFrom_19 : decode cX2_copyFrom 19 = .ok (.invokevirtual 26, 3) := by decide +kernel
theorem dX2_copyFrom_22 : decode cX2_copyFrom 22 = .ok (.aload_n 0, 1) := by decide +kernel
theorem dX2_copyFrom_23 : decode cX2_copyFrom 23 = .ok (.getfield 23, 3) := by decide +kernel
theorem dX2_copyFrom_26 : decode cX2_copyFrom 26 = .ok (.aload_n 1, 1) := by decide +kernel
theorem dX2_copyFrom_27 : decode cX2_copyFrom 27 = .ok (.getfield 23, 3) := by decide +kernel
theorem dX2_copyFrom_30 : decode cX2_copyFrom 30 = .ok (.invokevirtual 26, 3) := by decide +kernel
theorem dX2_copyFrom_33 : decode cX2_copyFrom 33 = .ok (.return_, 1) := by decide +kernel
theorem dX2_whoCrossed_0 : decode cX2_whoCrossed 0 = .ok (.iconst 0, 1) := by decide +kernel
theorem dX2_whoCrossed_1 : decode cX2_whoCrossed 1 = .ok (.istore_n 2, 1) := by decide +kernel
theorem dX2_whoCrossed_2 : decode cX2_whoCrossed 2 = .ok (.iconst 0, 1) := by decide +kernel
theorem dX2_whoCrossed_3 : decode cX2_whoCrossed 3 = .ok (.istore_n 3, 1) := by decide +kernel
theorem dX2_whoCrossed_4 : decode cX2_whoCrossed 4 = .ok (.iload_n 3, 1) := by decide +kernel
theorem dX2_whoCrossed_5 : decode cX2_whoCrossed 5 = .ok (.iconst 4, 1) := by decide +kernel
theorem dX2_whoCrossed_6 : decode cX2_whoCrossed 6 = .ok (.if_icmp .ge 30, 3) := by decide +kernel
theorem dX2_whoCrossed_9 : decode cX2_whoCrossed 9 = .ok (.aload_n 0, 1) := by decide +kernel
theorem dX2_whoCrossed_10 : decode cX2_whoCrossed 10 = .ok (.getfield 20, 3) := by decide +kernel
theorem dX2_whoCrossed_13 : decode cX2_whoCrossed 13 = .ok (.iload_n 3, 1) := by decide +kernel
theorem dX2_whoCrossed_14 : decode cX2_whoCrossed 14 = .ok (.invokevirtual 30, 3) := by decide +kernel
theorem dX2_whoCrossed_17 : decode cX2_whoCrossed 17 = .ok (.iload_n 1, 1) := by decide +kernel
theorem dX2_whoCrossed_18 : decode cX2_whoCrossed 18 = .ok (.invokestatic 34, 3) := by decide +kernel
theorem dX2_whoCrossed_21 : decode cX2_whoCrossed 21 = .ok (.ifCond .eq 9, 3) := by decide +kernel
theorem dX2_whoCrossed_24 : decode cX2_whoCrossed 24 = .ok (.iload_n 2, 1) := by decide +kernel
theorem dX2_whoCrossed_25 : decode cX2_whoCrossed 25 = .ok (.iconst 1, 1) := by decide +kernel
theorem dX2_whoCrossed_26 : decode cX2_whoCrossed 26 = .ok (.iload_n 3, 1) := by decide +kernel
theorem dX2_whoCrossed_27 : decode cX2_whoCrossed 27 = .ok (.ishl, 1) := by decide +kernel
theorem dX2_whoCrossed_28 : decode cX2_whoCrossed 28 = .ok (.ior, 1) := by decide +kernel
theorem dX2_whoCrossed_29 : decode cX2_whoCrossed 29 = .ok (.istore_n 2, 1) := by decide +kernel
theorem dX2_whoCrossed_30 : decode cX2_whoCrossed 30 = .ok (.iinc 3 1, 3) := by decide +kernel
theorem dX2_whoCrossed_33 : decode cX2_whoCrossed 33 = .ok (.goto (-29), 3) := by decide +kernel
theorem dX2_whoCrossed_36 : decode cX2_whoCrossed 36 = .ok (.iload_n 2, 1) := by decide +kernel
theorem dX2_whoCrossed_37 : decode cX2_whoCrossed 37 = .ok (.ireturn, 1) := by decide +kernel
theorem dX2_cross_0 : decode cX2_cross 0 = .ok (.aload_n 0, 1) := by decide +kernel
theorem dX2_cross_1 : decode cX2_cross 1 = .ok (.getfield 14, 3) := by decide +kernel
theorem dX2_cross_4 : decode cX2_cross 4 = .ok (.iload_n 1, 1) := by decide +kernel
theorem dX2_cross_5 : decode cX2_cross 5 = .ok (.iload_n 3, 1) := by decide +kernel
theorem dX2_cross_6 : decode cX2_cross 6 = .ok (.invokevirtual 38, 3) := by decide +kernel
theorem dX2_cross_9 : decode cX2_cross 9 = .ok (.aload_n 0, 1) := by decide +kernel
theorem dX2_cross_10 : decode cX2_cross 10 = .ok (.getfield 20, 3) := by decide +kernel
theorem dX2_cross_13 : decode cX2_cross 13 = .ok (.iload_n 1, 1) := by decide +kernel
theorem dX2_cross_14 : decode cX2_cross 14 = .ok (.aload_n 0, 1) := by decide +kernel
theorem dX2_cross_15 : decode cX2_cross 15 = .ok (.getfield 20, 3) := by decide +kernel
theorem dX2_cross_18 : decode cX2_cross 18 = .ok (.iload_n 1, 1) := by decide +kernel
theorem dX2_cross_19 : decode cX2_cross 19 = .ok (.invokevirtual 30, 3) := by decide +kernel
theorem dX2_cross_22 : decode cX2_cross 22 = .ok (.iconst 1, 1) := by decide +kernel
theorem dX2_cross_23 : decode cX2_cross 23 = .ok (.iload_n 2, 1) := by decide +kernel
theorem dX2_cross_24 : decode cX2_cross 24 = .ok (.ishl, 1) := by decide +kernel
theorem dX2_cross_25 : decode cX2_cross 25 = .ok (.ior, 1) := by decide +kernel
theorem dX2_cross_26 : decode cX2_cross 26 = .ok (.invokevirtual 38, 3) := by decide +kernel
theorem dX2_cross_29 : decode cX2_cross 29 = .ok (.aload_n 0, 1) := by decide +kernel
theorem dX2_cross_30 : decode cX2_cross 30 = .ok (.getfield 23, 3) := by decide +kernel
theorem dX2_cross_33 : decode cX2_cross 33 = .ok (.iload_n 1, 1) := by decide +kernel
theorem dX2_cross_34 : decode cX2_cross 34 = .ok (.invokevirtual 42, 3) := by decide +kernel
theorem dX2_cross_37 : decode cX2_cross 37 = .ok (.return_, 1) := by decide +kernel
theorem dX2_forgetBoard_0 : decode cX2_forgetBoard 0 = .ok (.iconst 1, 1) := by decide +kernel
theorem dX2_forgetBoard_1 : decode cX2_forgetBoard 1 = .ok (.iload_n 1, 1) := by decide +kernel
theorem dX2_forgetBoard_2 : decode cX2_forgetBoard 2 = .ok (.ishl, 1) := by decide +kernel
theorem dX2_forgetBoard_3 : decode cX2_forgetBoard 3 = .ok (.iconst 1, 1) := by decide +kernel
theorem dX2_forgetBoard_4 : decode cX2_forgetBoard 4 = .ok (.isub, 1) := by decide +kernel
theorem dX2_forgetBoard_5 : decode cX2_forgetBoard 5 = .ok (.istore_n 2, 1) := by decide +kernel
theorem dX2_forgetBoard_6 : decode cX2_forgetBoard 6 = .ok (.iconst 0, 1) := by decide +kernel
theorem dX2_forgetBoard_7 : decode cX2_forgetBoard 7 = .ok (.istore_n 3, 1) := by decide +kernel
theorem dX2_forgetBoard_8 : decode cX2_forgetBoard 8 = .ok (.iload_n 3, 1) := by decide +kernel
theorem dX2_forgetBoard_9 : decode cX2_forgetBoard 9 = .ok (.iconst 4, 1) := by decide +kernel
theorem dX2_forgetBoard_10 : decode cX2_forgetBoard 10 = .ok (.if_icmp .ge 40, 3) := by decide +kernel
theorem dX2_forgetBoard_13 : decode cX2_forgetBoard 13 = .ok (.aload_n 0, 1) := by decide +kernel
theorem dX2_forgetBoard_14 : decode cX2_forgetBoard 14 = .ok (.getfield 20, 3) := by decide +kernel
theorem dX2_forgetBoard_17 : decode cX2_forgetBoard 17 = .ok (.iload_n 3, 1) := by decide +kernel
theorem dX2_forgetBoard_18 : decode cX2_forgetBoard 18 = .ok (.invokevirtual 30, 3) := by decide +kernel
theorem dX2_forgetBoard_21 : decode cX2_forgetBoard 21 = .ok (.istore 4, 2) := by decide +kernel
theorem dX2_forgetBoard_23 : decode cX2_forgetBoard 23 = .ok (.aload_n 0, 1) := by decide +kernel
theorem dX2_forgetBoard_24 : decode cX2_forgetBoard 24 = .ok (.getfield 20, 3) := by decide +kernel
theorem dX2_forgetBoard_27 : decode cX2_forgetBoard 27 = .ok (.iload_n 3, 1) := by decide +kernel
theorem dX2_forgetBoard_28 : decode cX2_forgetBoard 28 = .ok (.iload 4, 2) := by decide +kernel
theorem dX2_forgetBoard_30 : decode cX2_forgetBoard 30 = .ok (.iload_n 2, 1) := by decide +kernel
theorem dX2_forgetBoard_31 : decode cX2_forgetBoard 31 = .ok (.iand, 1) := by decide +kernel
theorem dX2_forgetBoard_32 : decode cX2_forgetBoard 32 = .ok (.iload 4, 2) := by decide +kernel
theorem dX2_forgetBoard_34 : decode cX2_forgetBoard 34 = .ok (.iconst 1, 1) := by decide +kernel
theorem dX2_forgetBoard_35 : decode cX2_forgetBoard 35 = .ok (.ishr, 1) := by decide +kernel
theorem dX2_forgetBoard_36 : decode cX2_forgetBoard 36 = .ok (.iload_n 2, 1) := by decide +kernel
theorem dX2_forgetBoard_37 : decode cX2_forgetBoard 37 = .ok (.iconst (-1), 1) := by decide +kernel
theorem dX2_forgetBoard_38 : decode cX2_forgetBoard 38 = .ok (.ixor, 1) := by decide +kernel
theorem dX2_forgetBoard_39 : decode cX2_forgetBoard 39 = .ok (.iand, 1) := by decide +kernel
theorem dX2_forgetBoard_40 : decode cX2_forgetBoard 40 = .ok (.ior, 1) := by decide +kernel
theorem dX2_forgetBoard_41 : decode cX2_forgetBoard 41 = .ok (.invokevirtual 38, 3) := by decide +kernel
theorem dX2_forgetBoard_44 : decode cX2_forgetBoard 44 = .ok (.iinc 3 1, 3) := by decide +kernel
theorem dX2_forgetBoard_47 : decode cX2_forgetBoard 47 = .ok (.goto (-39), 3) := by decide +kernel
theorem dX2_forgetBoard_50 : decode cX2_forgetBoard 50 = .ok (.return_, 1) := by decide +kernel
theorem dX3_init_0 : decode cX3_init 0 = .ok (.aload_n 0, 1) := by decide +kernel
theorem dX3_init_1 : decode cX3_init 1 = .ok (.invokespecial 3, 3) := by decide +kernel
theorem dX3_init_4 : decode cX3_init 4 = .ok (.aload_n 0, 1) := by decide +kernel
theorem dX3_init_5 : decode cX3_init 5 = .ok (.new 9, 3) := by decide +kernel
theorem dX3_init_8 : decode cX3_init 8 = .ok (.dup, 1) := by decide +kernel
theorem dX3_init_9 : decode cX3_init 9 = .ok (.bipush 6, 2) := by decide +kernel
theorem dX3_init_11 : decode cX3_init 11 = .ok (.invokespecial 11, 3) := by decide +kernel
theorem dX3_init_14 : decode cX3_init 14 = .ok (.putfield 14, 3) := by decide +kernel
theorem dX3_init_17 : decode cX3_init 17 = .ok (.return_, 1) := by decide +kernel
theorem dX3_remember_0 : decode cX3_remember 0 = .ok (.aload_n 0, 1) := by decide +kernel
theorem dX3_remember_1 : decode cX3_remember 1 = .ok (.getfield 14, 3) := by decide +kernel
theorem dX3_remember_4 : decode cX3_remember 4 = .ok (.aload_n 0, 1) := by decide +kernel
theorem dX3_remember_5 : decode cX3_remember 5 = .ok (.getfield 20, 3) := by decide +kernel
theorem dX3_remember_8 : decode cX3_remember 8 = .ok (.aload_n 1, 1) := by decide +kernel
theorem dX3_remember_9 : decode cX3_remember 9 = .ok (.invokevirtual 24, 3) := by decide +kernel
theorem dX3_remember_12 : decode cX3_remember 12 = .ok (.aload_n 0, 1) := by decide +kernel
theorem dX3_remember_13 : decode cX3_remember 13 = .ok (.aload_n 0, 1) := by decide +kernel
theorem dX3_remember_14 : decode cX3_remember 14 = .ok (.getfield 20, 3) := by decide +kernel
theorem dX3_remember_17 : decode cX3_remember 17 = .ok (.iconst 1, 1) := by decide +kernel
theorem dX3_remember_18 : decode cX3_remember 18 = .ok (.iadd, 1) := by decide +kernel
theorem dX3_remember_19 : decode cX3_remember 19 = .ok (.bipush 6, 2) := by decide +kernel
theorem dX3_remember_21 : decode cX3_remember 21 = .ok (.if_icmp .ge 12, 3) := by decide +kernel
theorem dX3_remember_24 : decode cX3_remember 24 = .ok (.aload_n 0, 1) := by decide +kernel
theorem dX3_remember_25 : decode cX3_remember 25 = .ok (.getfield 20, 3) := by decide +kernel
theorem dX3_remember_28 : decode cX3_remember 28 = .ok (.iconst 1, 1) := by decide +kernel
theorem dX3_remember_29 : decode cX3_remember 29 = .ok (.iadd, 1) := by decide +kernel
theorem dX3_remember_30 : decode cX3_remember 30 = .ok (.goto 4, 3) := by decide +kernel
theorem dX3_remember_33 : decode cX3_remember 33 = .ok (.iconst 0, 1) := by decide +kernel
theorem dX3_remember_34 : decode cX3_remember 34 = .ok (.putfield 20, 3) := by decide +kernel
theorem dX3_remember_37 : decode cX3_remember 37 = .ok (.aload_n 0, 1) := by decide +kernel
theorem dX3_remember_38 : decode cX3_remember 38 = .ok (.aload_n 0, 1) := by decide +kernel
theorem dX3_remember_39 : decode cX3_remember 39 = .ok (.getfield 28, 3) := by decide +kernel
theorem dX3_remember_42 : decode cX3_remember 42 = .ok (.iconst 1, 1) := by decide +kernel
theorem dX3_remember_43 : decode cX3_remember 43 = .ok (.iadd, 1) := by decide +kernel
theorem dX3_remember_44 : decode cX3_remember 44 = .ok (.bipush 6, 2) := by decide +kernel
theorem dX3_remember_46 : decode cX3_remember 46 = .ok (.invokestatic 31, 3) := by decide +kernel
theorem dX3_remember_49 : decode cX3_remember 49 = .ok (.putfield 28, 3) := by decide +kernel
theorem dX3_remember_52 : decode cX3_remember 52 = .ok (.return_, 1) := by decide +kernel
theorem dX4_init_0 : decode cX4_init 0 = .ok (.aload_n 0, 1) := by decide +kernel
theorem dX4_init_1 : decode cX4_init 1 = .ok (.invokespecial 3, 3) := by decide +kernel
theorem dX4_init_4 : decode cX4_init 4 = .ok (.aload_n 0, 1) := by decide +kernel
theorem dX4_init_5 : decode cX4_init 5 = .ok (.new 9, 3) := by decide +kernel
theorem dX4_init_8 : decode cX4_init 8 = .ok (.dup, 1) := by decide +kernel
theorem dX4_init_9 : decode cX4_init 9 = .ok (.bipush 60, 2) := by decide +kernel
theorem dX4_init_11 : decode cX4_init 11 = .ok (.invokespecial 11, 3) := by decide +kernel
theorem dX4_init_14 : decode cX4_init 14 = .ok (.putfield 14, 3) := by decide +kernel
theorem dX4_init_17 : decode cX4_init 17 = .ok (.return_, 1) := by decide +kernel
theorem dX5_init_0 : decode cX5_init 0 = .ok (.aload_n 0, 1) := by decide +kernel
theorem dX5_init_1 : decode cX5_init 1 = .ok (.invokespecial 1, 3) := by decide +kernel
theorem dX5_init_4 : decode cX5_init 4 = .ok (.aload_n 0, 1) := by decide +kernel
theorem dX5_init_5 : decode cX5_init 5 = .ok (.iload_n 1, 1) := by decide +kernel
theorem dX5_init_6 : decode cX5_init 6 = .ok (.iconst 0, 1) := by decide +kernel
theorem dX5_init_7 : decode cX5_init 7 = .ok (.invokestatic 7, 3) := by decide +kernel
theorem dX5_init_10 : decode cX5_init 10 = .ok (.newarray .int, 2) := by decide +kernel
theorem dX5_init_12 : decode cX5_init 12 = .ok (.putfield 13, 3) := by decide +kernel
theorem dX5_init_15 : decode cX5_init 15 = .ok (.return_, 1) := by decide +kernel
theorem dX5_at_0 : decode cX5_at 0 = .ok (.iload_n 1, 1) := by decide +kernel
theorem dX5_at_1 : decode cX5_at 1 = .ok (.ifCond .lt 21, 3) := by decide +kernel
theorem dX5_at_4 : decode cX5_at 4 = .ok (.iload_n 1, 1) := by decide +kernel
theorem dX5_at_5 : decode cX5_at 5 = .ok (.aload_n 0, 1) := by decide +kernel
theorem dX5_at_6 : decode cX5_at 6 = .ok (.getfield 13, 3) := by decide +kernel
theorem dX5_at_9 : decode cX5_at 9 = .ok (.arraylength, 1) := by decide +kernel
theorem dX5_at_10 : decode cX5_at 10 = .ok (.if_icmp .ge 12, 3) := by decide +kernel
theorem dX5_at_13 : decode cX5_at 13 = .ok (.aload_n 0, 1) := by decide +kernel
theorem dX5_at_14 : decode cX5_at 14 = .ok (.getfield 13, 3) := by decide +kernel
theorem dX5_at_17 : decode cX5_at 17 = .ok (.iload_n 1, 1) := by decide +kernel
theorem dX5_at_18 : decode cX5_at 18 = .ok (.iaload, 1) := by decide +kernel
theorem dX5_at_19 : decode cX5_at 19 = .ok (.goto 4, 3) := by decide +kernel
theorem dX5_at_22 : decode cX5_at 22 = .ok (.iconst 0, 1) := by decide +kernel
theorem dX5_at_23 : decode cX5_at 23 = .ok (.ireturn, 1) := by decide +kernel
theorem dX5_store_0 : decode cX5_store 0 = .ok (.iload_n 1, 1) := by decide +kernel
theorem dX5_store_1 : decode cX5_store 1 = .ok (.ifCond .lt 19, 3) := by decide +kernel
theorem dX5_store_4 : decode cX5_store 4 = .ok (.iload_n 1, 1) := by decide +kernel
theorem dX5_store_5 : decode cX5_store 5 = .ok (.aload_n 0, 1) := by decide +kernel
theorem dX5_store_6 : decode cX5_store 6 = .ok (.getfield 13, 3) := by decide +kernel
theorem dX5_store_9 : decode cX5_store 9 = .ok (.arraylength, 1) := by decide +kernel
theorem dX5_store_10 : decode cX5_store 10 = .ok (.if_icmp .ge 10, 3) := by decide +kernel
theorem dX5_store_13 : decode cX5_store 13 = .ok (.aload_n 0, 1) := by decide +kernel
theorem dX5_store_14 : decode cX5_store 14 = .ok (.getfield 13, 3) := by decide +kernel
theorem dX5_store_17 : decode cX5_store 17 = .ok (.iload_n 1, 1) := by decide +kernel
theorem dX5_store_18 : decode cX5_store 18 = .ok (.iload_n 2, 1) := by decide +kernel
theorem dX5_store_19 : decode cX5_store 19 = .ok (.iastore, 1) := by decide +kernel
theorem dX5_store_20 : decode cX5_store 20 = .ok (.return_, 1) := by decide +kernel
theorem dX5_increase_0 : decode cX5_increase 0 = .ok (.aload_n 0, 1) := by decide +kernel
theorem dX5_increase_1 : decode cX5_increase 1 = .ok (.iload_n 1, 1) := by decide +kernel
theorem dX5_increase_2 : decode cX5_increase 2 = .ok (.aload_n 0, 1) := by decide +kernel
theorem dX5_increase_3 : decode cX5_increase 3 = .ok (.iload_n 1, 1) := by decide +kernel
theorem dX5_increase_4 : decode cX5_increase 4 = .ok (.invokevirtual 19, 3) := by decide +kernel
theorem dX5_increase_7 : decode cX5_increase 7 = .ok (.iconst 1, 1) := by decide +kernel
theorem dX5_increase_8 : decode cX5_increase 8 = .ok (.iadd, 1) := by decide +kernel
theorem dX5_increase_9 : decode cX5_increase 9 = .ok (.invokevirtual 23, 3) := by decide +kernel
theorem dX5_increase_12 : decode cX5_increase 12 = .ok (.return_, 1) := by decide +kernel
theorem dX5_fill_0 : decode cX5_fill 0 = .ok (.iconst 0, 1) := by decide +kernel
theorem dX5_fill_1 : decode cX5_fill 1 = .ok (.istore_n 2, 1) := by decide +kernel
theorem dX5_fill_2 : decode cX5_fill 2 = .ok (.iload_n 2, 1) := by decide +kernel
theorem dX5_fill_3 : decode cX5_fill 3 = .ok (.aload_n 0, 1) := by decide +kernel
theorem dX5_fill_4 : decode cX5_fill 4 = .ok (.getfield 13, 3) := by decide +kernel
theorem dX5_fill_7 : decode cX5_fill 7 = .ok (.arraylength, 1) := by decide +kernel
theorem dX5_fill_8 : decode cX5_fill 8 = .ok (.if_icmp .ge 16, 3) := by decide +kernel
theorem dX5_fill_11 : decode cX5_fill 11 = .ok (.aload_n 0, 1) := by decide +kernel
theorem dX5_fill_12 : decode cX5_fill 12 = .ok (.getfield 13, 3) := by decide +kernel
theorem dX5_fill_15 : decode cX5_fill 15 = .ok (.iload_n 2, 1) := by decide +kernel
theorem dX5_fill_16 : decode cX5_fill 16 = .ok (.iload_n 1, 1) := by decide +kernel
theorem dX5_fill_17 : decode cX5_fill 17 = .ok (.iastore, 1) := by decide +kernel
theorem dX5_fill_18 : decode cX5_fill 18 = .ok (.iinc 2 1, 3) := by decide +kernel
theorem dX5_fill_21 : decode cX5_fill 21 = .ok (.goto (-19), 3) := by decide +kernel
theorem dX5_fill_24 : decode cX5_fill 24 = .ok (.return_, 1) := by decide +kernel
theorem dX5_moveUpBehind_0 : decode cX5_moveUpBehind 0 = .ok (.iload_n 1, 1) := by decide +kernel
theorem dX5_moveUpBehind_1 : decode cX5_moveUpBehind 1 = .ok (.iconst 0, 1) := by decide +kernel
theorem dX5_moveUpBehind_2 : decode cX5_moveUpBehind 2 = .ok (.invokestatic 7, 3) := by decide +kernel
theorem dX5_moveUpBehind_5 : decode cX5_moveUpBehind 5 = .ok (.istore_n 2, 1) := by decide +kernel
theorem dX5_moveUpBehind_6 : decode cX5_moveUpBehind 6 = .ok (.iload_n 2, 1) := by decide +kernel
theorem dX5_moveUpBehind_7 : decode cX5_moveUpBehind 7 = .ok (.aload_n 0, 1) := by decide +kernel
theorem dX5_moveUpBehind_8 : decode cX5_moveUpBehind 8 = .ok (.getfield 13, 3) := by decide +kernel
theorem dX5_moveUpBehind_11 : decode cX5_moveUpBehind 11 = .ok (.arraylength, 1) := by decide +kernel
theorem dX5_moveUpBehind_12 : decode cX5_moveUpBehind 12 = .ok (.iconst 1, 1) := by decide +kernel
theorem dX5_moveUpBehind_13 : decode cX5_moveUpBehind 13 = .ok (.isub, 1) := by decide +kernel
theorem dX5_moveUpBehind_14 : decode cX5_moveUpBehind 14 = .ok (.if_icmp .ge 23, 3) := by decide +kernel
theorem dX5_moveUpBehind_17 : decode cX5_moveUpBehind 17 = .ok (.aload_n 0, 1) := by decide +kernel
theorem dX5_moveUpBehind_18 : decode cX5_moveUpBehind 18 = .ok (.getfield 13, 3) := by decide +kernel
theorem dX5_moveUpBehind_21 : decode cX5_moveUpBehind 21 = .ok (.iload_n 2, 1) := by decide +kernel
theorem dX5_moveUpBehind_22 : decode cX5_moveUpBehind 22 = .ok (.aload_n 0, 1) := by decide +kernel
theorem dX5_moveUpBehind_23 : decode cX5_moveUpBehind 23 = .ok (.getfield 13, 3) := by decide +kernel
theorem dX5_moveUpBehind_26 : decode cX5_moveUpBehind 26 = .ok (.iload_n 2, 1) := by decide +kernel
theorem dX5_moveUpBehind_27 : decode cX5_moveUpBehind 27 = .ok (.iconst 1, 1) := by decide +kernel
theorem dX5_moveUpBehind_28 : decode cX5_moveUpBehind 28 = .ok (.iadd, 1) := by decide +kernel
theorem dX5_moveUpBehind_29 : decode cX5_moveUpBehind 29 = .ok (.iaload, 1) := by decide +kernel
theorem dX5_moveUpBehind_30 : decode cX5_moveUpBehind 30 = .ok (.iastore, 1) := by decide +kernel
theorem dX5_moveUpBehind_31 : decode cX5_moveUpBehind 31 = .ok (.iinc 2 1, 3) := by decide +kernel
theorem dX5_moveUpBehind_34 : decode cX5_moveUpBehind 34 = .ok (.goto (-28), 3) := by decide +kernel
theorem dX5_moveUpBehind_37 : decode cX5_moveUpBehind 37 = .ok (.return_, 1) := by decide +kernel
theorem dX5_copyFrom_0 : decode cX5_copyFrom 0 = .ok (.aload_n 1, 1) := by decide +kernel
theorem dX5_copyFrom_1 : decode cX5_copyFrom 1 = .ok (.getfield 13, 3) := by decide +kernel
theorem dX5_copyFrom_4 : decode cX5_copyFrom 4 = .ok (.iconst 0, 1) := by decide +kernel
theorem dX5_copyFrom_5 : decode cX5_copyFrom 5 = .ok (.aload_n 0, 1) := by decide +kernel
theorem dX5_copyFrom_6 : decode cX5_copyFrom 6 = .ok (.getfield 13, 3) := by decide +kernel
theorem dX5_copyFrom_9 : decode cX5_copyFrom 9 = .ok (.iconst 0, 1) := by decide +kernel
theorem dX5_copyFrom_10 : decode cX5_copyFrom 10 = .ok (.aload_n 1, 1) := by decide +kernel
theorem dX5_copyFrom_11 : decode cX5_copyFrom 11 = .ok (.getfield 13, 3) := by decide +kernel
theorem dX5_copyFrom_14 : decode cX5_copyFrom 14 = .ok (.arraylength, 1) := by decide +kernel
theorem dX5_copyFrom_15 : decode cX5_copyFrom 15 = .ok (.aload_n 0, 1) := by decide +kernel
theorem dX5_copyFrom_16 : decode cX5_copyFrom 16 = .ok (.getfield 13, 3) := by decide +kernel
theorem dX5_copyFrom_19 : decode cX5_copyFrom 19 = .ok (.arraylength, 1) := by decide +kernel
theorem dX5_copyFrom_20 : decode cX5_copyFrom 20 = .ok (.invokestatic 27, 3) := by decide +kernel
theorem dX5_copyFrom_23 : decode cX5_copyFrom 23 = .ok (.invokestatic 30, 3) := by decide +kernel
theorem dX5_copyFrom_26 : decode cX5_copyFrom 26 = .ok (.return_, 1) := by decide +kernel
theorem dX6_init_0 : decode cX6_init 0 = .ok (.aload_n 0, 1) := by decide +kernel
theorem dX6_init_1 : decode cX6_init 1 = .ok (.invokespecial 1, 3) := by decide +kernel
theorem dX6_init_4 : decode cX6_init 4 = .ok (.aload_n 0, 1) := by decide +kernel
theorem dX6_init_5 : decode cX6_init 5 = .ok (.iload_n 1, 1) := by decide +kernel
theorem dX6_init_6 : decode cX6_init 6 = .ok (.iconst 0, 1) := by decide +kernel
theorem dX6_init_7 : decode cX6_init 7 = .ok (.invokestatic 7, 3) := by decide +kernel
theorem dX6_init_10 : decode cX6_init 10 = .ok (.anewarray 13, 3) := by decide +kernel
theorem dX6_init_13 : decode cX6_init 13 = .ok (.putfield 15, 3) := by decide +kernel
theorem dX6_init_16 : decode cX6_init 16 = .ok (.iconst 0, 1) := by decide +kernel
theorem dX6_init_17 : decode cX6_init 17 = .ok (.istore_n 2, 1) := by decide +kernel
theorem dX6_init_18 : decode cX6_init 18 = .ok (.iload_n 2, 1) := by decide +kernel
theorem dX6_init_19 : decode cX6_init 19 = .ok (.aload_n 0, 1) := by decide +kernel
theorem dX6_init_20 : decode cX6_init 20 = .ok (.getfield 15, 3) := by decide +kernel
theorem dX6_init_23 : decode cX6_init 23 = .ok (.arraylength, 1) := by decide +kernel
theorem dX6_init_24 : decode cX6_init 24 = .ok (.if_icmp .ge 22, 3) := by decide +kernel
theorem dX6_init_27 : decode cX6_init 27 = .ok (.aload_n 0, 1) := by decide +kernel
theorem dX6_init_28 : decode cX6_init 28 = .ok (.getfield 15, 3) := by decide +kernel
theorem dX6_init_31 : decode cX6_init 31 = .ok (.iload_n 2, 1) := by decide +kernel
theorem dX6_init_32 : decode cX6_init 32 = .ok (.new 13, 3) := by decide +kernel
theorem dX6_init_35 : decode cX6_init 35 = .ok (.dup, 1) := by decide +kernel
theorem dX6_init_36 : decode cX6_init 36 = .ok (.invokespecial 21, 3) := by decide +kernel
theorem dX6_init_39 : decode cX6_init 39 = .ok (.aastore, 1) := by decide +kernel
theorem dX6_init_40 : decode cX6_init 40 = .ok (.iinc 2 1, 3) := by decide +kernel
theorem dX6_init_43 : decode cX6_init 43 = .ok (.goto (-25), 3) := by decide +kernel
theorem dX6_init_46 : decode cX6_init 46 = .ok (.return_, 1) := by decide +kernel
theorem dX6_has_0 : decode cX6_has 0 = .ok (.iload_n 1, 1) := by decide +kernel
theorem dX6_has_1 : decode cX6_has 1 = .ok (.ifCond .lt 25, 3) := by decide +kernel
theorem dX6_has_4 : decode cX6_has 4 = .ok (.iload_n 1, 1) := by decide +kernel
theorem dX6_has_5 : decode cX6_has 5 = .ok (.aload_n 0, 1) := by decide +kernel
theorem dX6_has_6 : decode cX6_has 6 = .ok (.getfield 15, 3) := by decide +kernel
theorem dX6_has_9 : decode cX6_has 9 = .ok (.arraylength, 1) := by decide +kernel
theorem dX6_has_10 : decode cX6_has 10 = .ok (.if_icmp .ge 16, 3) := by decide +kernel
theorem dX6_has_13 : decode cX6_has 13 = .ok (.aload_n 0, 1) := by decide +kernel
theorem dX6_has_14 : decode cX6_has 14 = .ok (.getfield 15, 3) := by decide +kernel
theorem dX6_has_17 : decode cX6_has 17 = .ok (.iload_n 1, 1) := by decide +kernel
theorem dX6_has_18 : decode cX6_has 18 = .ok (.aaload, 1) := by decide +kernel
theorem dX6_has_19 : decode cX6_has 19 = .ok (.ifnull 7, 3) := by decide +kernel
theorem dX6_has_22 : decode cX6_has 22 = .ok (.iconst 1, 1) := by decide +kernel
theorem dX6_has_23 : decode cX6_has 23 = .ok (.goto 4, 3) := by decide +kernel
theorem dX6_has_26 : decode cX6_has 26 = .ok (.iconst 0, 1) := by decide +kernel
theorem dX6_has_27 : decode cX6_has 27 = .ok (.ireturn, 1) := by decide +kernel
theorem dX6_keep_0 : decode cX6_keep 0 = .ok (.aload_n 0, 1) := by decide +kernel
theorem dX6_keep_1 : decode cX6_keep 1 = .ok (.iload_n 1, 1) := by decide +kernel
theorem dX6_keep_2 : decode cX6_keep 2 = .ok (.invokevirtual 22, 3) := by decide +kernel
theorem dX6_keep_5 : decode cX6_keep 5 = .ok (.ifCond .eq 13, 3) := by decide +kernel
theorem dX6_keep_8 : decode cX6_keep 8 = .ok (.aload_n 0, 1) := by decide +kernel
theorem dX6_keep_9 : decode cX6_keep 9 = .ok (.getfield 15, 3) := by decide +kernel
theorem dX6_keep_12 : decode cX6_keep 12 = .ok (.iload_n 1, 1) := by decide +kernel
theorem dX6_keep_13 : decode cX6_keep 13 = .ok (.aaload, 1) := by decide +kernel
theorem dX6_keep_14 : decode cX6_keep 14 = .ok (.aload_n 2, 1) := by decide +kernel
theorem dX6_keep_15 : decode cX6_keep 15 = .ok (.invokevirtual 26, 3) := by decide +kernel
theorem dX6_keep_18 : decode cX6_keep 18 = .ok (.return_, 1) := by decide +kernel
theorem dX7_init_0 : decode cX7_init 0 = .ok (.aload_n 0, 1) := by decide +kernel
theorem dX7_init_1 : decode cX7_init 1 = .ok (.invokespecial 3, 3) := by decide +kernel
theorem dX7_init_4 : decode cX7_init 4 = .ok (.aload_n 0, 1) := by decide +kernel
theorem dX7_init_5 : decode cX7_init 5 = .ok (.new 9, 3) := by decide +kernel
theorem dX7_init_8 : decode cX7_init 8 = .ok (.dup, 1) := by decide +kernel
theorem dX7_init_9 : decode cX7_init 9 = .ok (.iconst 5, 1) := by decide +kernel
theorem dX7_init_10 : decode cX7_init 10 = .ok (.invokespecial 11, 3) := by decide +kernel
theorem dX7_init_13 : decode cX7_init 13 = .ok (.putfield 14, 3) := by decide +kernel
theorem dX7_init_16 : decode cX7_init 16 = .ok (.aload_n 0, 1) := by decide +kernel
theorem dX7_init_17 : decode cX7_init 17 = .ok (.new 9, 3) := by decide +kernel
theorem dX7_init_20 : decode cX7_init 20 = .ok (.dup, 1) := by decide +kernel
theorem dX7_init_21 : decode cX7_init 21 = .ok (.iconst 5, 1) := by decide +kernel
theorem dX7_init_22 : decode cX7_init 22 = .ok (.invokespecial 11, 3) := by decide +kernel
theorem dX7_init_25 : decode cX7_init 25 = .ok (.putfield 20, 3) := by decide +kernel
theorem dX7_init_28 : decode cX7_init 28 = .ok (.aload_n 0, 1) := by decide +kernel
theorem dX7_init_29 : decode cX7_init 29 = .ok (.new 9, 3) := by decide +kernel
theorem dX7_init_32 : decode cX7_init 32 = .ok (.dup, 1) := by decide +kernel
theorem dX7_init_33 : decode cX7_init 33 = .ok (.iconst 5, 1) := by decide +kernel
theorem dX7_init_34 : decode cX7_init 34 = .ok (.invokespecial 11, 3) := by decide +kernel
theorem dX7_init_37 : decode cX7_init 37 = .ok (.putfield 23, 3) := by decide +kernel
theorem dX7_init_40 : decode cX7_init 40 = .ok (.aload_n 0, 1) := by decide +kernel
theorem dX7_init_41 : decode cX7_init 41 = .ok (.new 9, 3) := by decide +kernel
theorem dX7_init_44 : decode cX7_init 44 = .ok (.dup, 1) := by decide +kernel
theorem dX7_init_45 : decode cX7_init 45 = .ok (.iconst 5, 1) := by decide +kernel
theorem dX7_init_46 : decode cX7_init 46 = .ok (.invokespecial 11, 3) := by decide +kernel
theorem dX7_init_49 : decode cX7_init 49 = .ok (.putfield 26, 3) := by decide +kernel
theorem dX7_init_52 : decode cX7_init 52 = .ok (.return_, 1) := by decide +kernel
theorem dX7_copyFrom_0 : decode cX7_copyFrom 0 = .ok (.aload_n 0, 1) := by decide +kernel
theorem dX7_copyFrom_1 : decode cX7_copyFrom 1 = .ok (.aload_n 1, 1) := by decide +kernel
theorem dX7_copyFrom_2 : decode cX7_copyFrom 2 = .ok (.getfield 29, 3) := by decide +kernel
theorem dX7_copyFrom_5 : decode cX7_copyFrom 5 = .ok (.putfield 29, 3) := by decide +kernel
theorem dX7_copyFrom_8 : decode cX7_copyFrom 8 = .ok (.aload_n 0, 1) := by decide +kernel
theorem dX7_copyFrom_9 : decode cX7_copyFrom 9 = .ok (.getfield 14, 3) := by decide +kernel
theorem dX7_copyFrom_12 : decode cX7_copyFrom 12 = .ok (.aload_n 1, 1) := by decide +kernel
theorem dX7_copyFrom_13 : decode cX7_copyFrom 13 = .ok (.getfield 14, 3) := by decide +kernel
theorem dX7_copyFrom_16 : decode cX7_copyFrom 16 = .ok (.invokevirtual 33, 3) := by decide +kernel
theorem dX7_copyFrom_19 : decode cX7_copyFrom 19 = .ok (.aload_n 0, 1) := by decide +kernel
theorem dX7_copyFrom_20 : decode cX7_copyFrom 20 = .ok (.getfield 20, 3) := by decide +kernel
theorem dX7_copyFrom_23 : decode cX7_copyFrom 23 = .ok (.aload_n 1, 1) := by decide +kernel
theorem dX7_copyFrom_24 : decode cX7_copyFrom 24 = .ok (.getfield 20, 3) := by decide +kernel
theorem dX7_copyFrom_27 : decode cX7_copyFrom 27 = .ok (.invokevirtual 33, 3) := by decide +kernel
theorem dX7_copyFrom_30 : decode cX7_copyFrom 30 = .ok (.aload_n 0, 1) := by decide +kernel
theorem dX7_copyFrom_31 : decode cX7_copyFrom 31 = .ok (.getfield 23, 3) := by decide +kernel
theorem dX7_copyFrom_34 : decode cX7_copyFrom 34 = .ok (.aload_n 1, 1) := by decide +kernel
theorem dX7_copyFrom_35 : decode cX7_copyFrom 35 = .ok (.getfield 23, 3) := by decide +kernel
theorem dX7_copyFrom_38 : decode cX7_copyFrom 38 = .ok (.invokevirtual 33, 3) := by decide +kernel
theorem dX7_copyFrom_41 : decode cX7_copyFrom 41 = .ok (.aload_n 0, 1) := by decide +kernel
theorem dX7_copyFrom_42 : decode cX7_copyFrom 42 = .ok (.getfield 26, 3) := by decide +kernel
theorem dX7_copyFrom_45 : decode cX7_copyFrom 45 = .ok (.aload_n 1, 1) := by decide +kernel
theorem dX7_copyFrom_46 : decode cX7_copyFrom 46 = .ok (.getfield 26, 3) := by decide +kernel
theorem dX7_copyFrom_49 : decode cX7_copyFrom 49 = .ok (.invokevirtual 33, 3) := by decide +kernel
theorem dX7_copyFrom_52 : decode cX7_copyFrom 52 = .ok (.return_, 1) := by decide +kernel
theorem dX7_has_0 : decode cX7_has 0 = .ok (.iload_n 1, 1) := by decide +kernel
theorem dX7_has_1 : decode cX7_has 1 = .ok (.iconst 0, 1) := by decide +kernel
theorem dX7_has_2 : decode cX7_has 2 = .ok (.aload_n 0, 1) := by decide +kernel
theorem dX7_has_3 : decode cX7_has 3 = .ok (.getfield 29, 3) := by decide +kernel
theorem dX7_has_6 : decode cX7_has 6 = .ok (.iconst 1, 1) := by decide +kernel
theorem dX7_has_7 : decode cX7_has 7 = .ok (.isub, 1) := by decide +kernel
theorem dX7_has_8 : decode cX7_has 8 = .ok (.invokestatic 37, 3) := by decide +kernel
theorem dX7_has_11 : decode cX7_has 11 = .ok (.ireturn, 1) := by decide +kernel
theorem dX7_append_0 : decode cX7_append 0 = .ok (.aload_n 0, 1) := by decide +kernel
theorem dX7_append_1 : decode cX7_append 1 = .ok (.getfield 29, 3) := by decide +kernel
theorem dX7_append_4 : decode cX7_append 4 = .ok (.iconst 5, 1) := by decide +kernel
theorem dX7_append_5 : decode cX7_append 5 = .ok (.if_icmp .lt 4, 3) := by decide +kernel
theorem dX7_append_8 : decode cX7_append 8 = .ok (.return_, 1) := by decide +kernel
theorem dX7_append_9 : decode cX7_append 9 = .ok (.aload_n 0, 1) := by decide +kernel
theorem dX7_append_10 : decode cX7_append 10 = .ok (.getfield 14, 3) := by decide +kernel
theorem dX7_append_13 : decode cX7_append 13 = .ok (.aload_n 0, 1) := by decide +kernel
theorem dX7_append_14 : decode cX7_append 14 = .ok (.getfield 29, 3) := by decide +kernel
theorem dX7_append_17 : decode cX7_append 17 = .ok (.iload_n 1, 1) := by decide +kernel
theorem dX7_append_18 : decode cX7_append 18 = .ok (.invokevirtual 41, 3) := by decide +kernel
theorem dX7_append_21 : decode cX7_append 21 = .ok (.aload_n 0, 1) := by decide +kernel
theorem dX7_append_22 : decode cX7_append 22 = .ok (.getfield 20, 3) := by decide +kernel
theorem dX7_append_25 : decode cX7_append 25 = .ok (.aload_n 0, 1) := by decide +kernel
theorem dX7_append_26 : decode cX7_append 26 = .ok (.getfield 29, 3) := by decide +kernel
theorem dX7_append_29 : decode cX7_append 29 = .ok (.iload_n 2, 1) := by decide +kernel
theorem dX7_append_30 : decode cX7_append 30 = .ok (.invokevirtual 41, 3) := by decide +kernel
theorem dX7_append_33 : decode cX7_append 33 = .ok (.aload_n 0, 1) := by decide +kernel
theorem dX7_append_34 : decode cX7_append 34 = .ok (.getfield 23, 3) := by decide +kernel
theorem dX7_append_37 : decode cX7_append 37 = .ok (.aload_n 0, 1) := by decide +kernel
theorem dX7_append_38 : decode cX7_append 38 = .ok (.getfield 29, 3) := by decide +kernel
theorem dX7_append_41 : decode cX7_append 41 = .ok (.iconst 0, 1) := by decide +kernel
theorem dX7_append_42 : decode cX7_append 42 = .ok (.invokevirtual 41, 3) := by decide +kernel
theorem dX7_append_45 : decode cX7_append 45 = .ok (.aload_n 0, 1) := by decide +kernel
theorem dX7_append_46 : decode cX7_append 46 = .ok (.getfield 26, 3) := by decide +kernel
theorem dX7_append_49 : decode cX7_append 49 = .ok (.aload_n 0, 1) := by decide +kernel
theorem dX7_append_50 : decode cX7_append 50 = .ok (.getfield 29, 3) := by decide +kernel
theorem dX7_append_53 : decode cX7_append 53 = .ok (.iconst 0, 1) := by decide +kernel
theorem dX7_append_54 : decode cX7_append 54 = .ok (.invokevirtual 41, 3) := by decide +kernel
theorem dX7_append_57 : decode cX7_append 57 = .ok (.aload_n 0, 1) := by decide +kernel
theorem dX7_append_58 : decode cX7_append 58 = .ok (.dup, 1) := by decide +kernel
theorem dX7_append_59 : decode cX7_append 59 = .ok (.getfield 29, 3) := by decide +kernel
theorem dX7_append_62 : decode cX7_append 62 = .ok (.iconst 1, 1) := by decide +kernel
theorem dX7_append_63 : decode cX7_append 63 = .ok (.iadd, 1) := by decide +kernel
theorem dX7_append_64 : decode cX7_append 64 = .ok (.putfield 29, 3) := by decide +kernel
theorem dX7_append_67 : decode cX7_append 67 = .ok (.return_, 1) := by decide +kernel
theorem dX7_whoAreAwake_0 : decode cX7_whoAreAwake 0 = .ok (.iconst 0, 1) := by decide +kernel
theorem dX7_whoAreAwake_1 : decode cX7_whoAreAwake 1 = .ok (.istore_n 1, 1) := by decide +kernel
theorem dX7_whoAreAwake_2 : decode cX7_whoAreAwake 2 = .ok (.iconst 0, 1) := by decide +kernel
theorem dX7_whoAreAwake_3 : decode cX7_whoAreAwake 3 = .ok (.istore_n 2, 1) := by decide +kernel
theorem dX7_whoAreAwake_4 : decode cX7_whoAreAwake 4 = .ok (.iload_n 2, 1) := by decide +kernel
theorem dX7_whoAreAwake_5 : decode cX7_whoAreAwake 5 = .ok (.aload_n 0, 1) := by decide +kernel
theorem dX7_whoAreAwake_6 : decode cX7_whoAreAwake 6 = .ok (.getfield 29, 3) := by decide +kernel
theorem dX7_whoAreAwake_9 : decode cX7_whoAreAwake 9 = .ok (.if_icmp .ge 26, 3) := by decide +kernel
theorem dX7_whoAreAwake_12 : decode cX7_whoAreAwake 12 = .ok (.aload_n 0, 1) := by decide +kernel
theorem dX7_whoAreAwake_13 : decode cX7_whoAreAwake 13 = .ok (.getfield 23, 3) := by decide +kernel
theorem dX7_whoAreAwake_16 : decode cX7_whoAreAwake 16 = .ok (.iload_n 2, 1) := by decide +kernel
theorem dX7_whoAreAwake_17 : decode cX7_whoAreAwake 17 = .ok (.invokevirtual 45, 3) := by decide +kernel
theorem dX7_whoAreAwake_20 : decode cX7_whoAreAwake 20 = .ok (.ifCond .le 9, 3) := by decide +kernel
theorem dX7_whoAreAwake_23 : decode cX7_whoAreAwake 23 = .ok (.iload_n 1, 1) := by decide +kernel
theorem dX7_whoAreAwake_24 : decode cX7_whoAreAwake 24 = .ok (.iconst 1, 1) := by decide +kernel
theorem dX7_whoAreAwake_25 : decode cX7_whoAreAwake 25 = .ok (.iload_n 2, 1) := by decide +kernel
theorem dX7_whoAreAwake_26 : decode cX7_whoAreAwake 26 = .ok (.ishl, 1) := by decide +kernel
theorem dX7_whoAreAwake_27 : decode cX7_whoAreAwake 27 = .ok (.ior, 1) := by decide +kernel
theorem dX7_whoAreAwake_28 : decode cX7_whoAreAwake 28 = .ok (.istore_n 1, 1) := by decide +kernel
theorem dX7_whoAreAwake_29 : decode cX7_whoAreAwake 29 = .ok (.iinc 2 1, 3) := by decide +kernel
theorem dX7_whoAreAwake_32 : decode cX7_whoAreAwake 32 = .ok (.goto (-28), 3) := by decide +kernel
theorem dX7_whoAreAwake_35 : decode cX7_whoAreAwake 35 = .ok (.iload_n 1, 1) := by decide +kernel
theorem dX7_whoAreAwake_36 : decode cX7_whoAreAwake 36 = .ok (.ireturn, 1) := by decide +kernel
theorem dX7_watchedRooms_0 : decode cX7_watchedRooms 0 = .ok (.iconst 0, 1) := by decide +kernel
theorem dX7_watchedRooms_1 : decode cX7_watchedRooms 1 = .ok (.istore_n 1, 1) := by decide +kernel
theorem dX7_watchedRooms_2 : decode cX7_watchedRooms 2 = .ok (.iconst 0, 1) := by decide +kernel
theorem dX7_watchedRooms_3 : decode cX7_watchedRooms 3 = .ok (.istore_n 2, 1) := by decide +kernel
theorem dX7_watchedRooms_4 : decode cX7_watchedRooms 4 = .ok (.iload_n 2, 1) := by decide +kernel
theorem dX7_watchedRooms_5 : decode cX7_watchedRooms 5 = .ok (.aload_n 0, 1) := by decide +kernel
theorem dX7_watchedRooms_6 : decode cX7_watchedRooms 6 = .ok (.getfield 29, 3) := by decide +kernel
theorem dX7_watchedRooms_9 : decode cX7_watchedRooms 9 = .ok (.if_icmp .ge 33, 3) := by decide +kernel
theorem dX7_watchedRooms_12 : decode cX7_watchedRooms 12 = .ok (.aload_n 0, 1) := by decide +kernel
theorem dX7_watchedRooms_13 : decode cX7_watchedRooms 13 = .ok (.getfield 23, 3) := by decide +kernel
theorem dX7_watchedRooms_16 : decode cX7_watchedRooms 16 = .ok (.iload_n 2, 1) := by decide +kernel
theorem dX7_watchedRooms_17 : decode cX7_watchedRooms 17 = .ok (.invokevirtual 45, 3) := by decide +kernel
theorem dX7_watchedRooms_20 : decode cX7_watchedRooms 20 = .ok (.ifCond .le 16, 3) := by decide +kernel
theorem dX7_watchedRooms_23 : decode cX7_watchedRooms 23 = .ok (.iload_n 1, 1) := by decide +kernel
theorem dX7_watchedRooms_24 : decode cX7_watchedRooms 24 = .ok (.iconst 1, 1) := by decide +kernel
theorem dX7_watchedRooms_25 : decode cX7_watchedRooms 25 = .ok (.aload_n 0, 1) := by decide +kernel
theorem dX7_watchedRooms_26 : decode cX7_watchedRooms 26 = .ok (.getfield 14, 3) := by decide +kernel
theorem dX7_watchedRooms_29 : decode cX7_watchedRooms 29 = .ok (.iload_n 2, 1) := by decide +kernel
theorem dX7_watchedRooms_30 : decode cX7_watchedRooms 30 = .ok (.invokevirtual 45, 3) := by decide +kernel
theorem dX7_watchedRooms_33 : decode cX7_watchedRooms 33 = .ok (.ishl, 1) := by decide +kernel
theorem dX7_watchedRooms_34 : decode cX7_watchedRooms 34 = .ok (.ior, 1) := by decide +kernel
theorem dX7_watchedRooms_35 : decode cX7_watchedRooms 35 = .ok (.istore_n 1, 1) := by decide +kernel
theorem dX7_watchedRooms_36 : decode cX7_watchedRooms 36 = .ok (.iinc 2 1, 3) := by decide +kernel
theorem dX7_watchedRooms_39 : decode cX7_watchedRooms 39 = .ok (.goto (-35), 3) := by decide +kernel
theorem dX7_watchedRooms_42 : decode cX7_watchedRooms 42 = .ok (.iload_n 1, 1) := by decide +kernel
theorem dX7_watchedRooms_43 : decode cX7_watchedRooms 43 = .ok (.ireturn, 1) := by decide +kernel
theorem dX7_wake_0 : decode cX7_wake 0 = .ok (.aload_n 0, 1) := by decide +kernel
theorem dX7_wake_1 : decode cX7_wake 1 = .ok (.getfield 23, 3) := by decide +kernel
theorem dX7_wake_4 : decode cX7_wake 4 = .ok (.iload_n 1, 1) := by decide +kernel
theorem dX7_wake_5 : decode cX7_wake 5 = .ok (.invokevirtual 45, 3) := by decide +kernel
theorem dX7_wake_8 : decode cX7_wake 8 = .ok (.ifCond .ne 11, 3) := by decide +kernel
theorem dX7_wake_11 : decode cX7_wake 11 = .ok (.aload_n 0, 1) := by decide +kernel
theorem dX7_wake_12 : decode cX7_wake 12 = .ok (.getfield 26, 3) := by decide +kernel
theorem dX7_wake_15 : decode cX7_wake 15 = .ok (.iload_n 1, 1) := by decide +kernel
theorem dX7_wake_16 : decode cX7_wake 16 = .ok (.invokevirtual 49, 3) := by decide +kernel
theorem dX7_wake_19 : decode cX7_wake 19 = .ok (.aload_n 0, 1) := by decide +kernel
theorem dX7_wake_20 : decode cX7_wake 20 = .ok (.getfield 23, 3) := by decide +kernel
theorem dX7_wake_23 : decode cX7_wake 23 = .ok (.iload_n 1, 1) := by decide +kernel
theorem dX7_wake_24 : decode cX7_wake 24 = .ok (.iload_n 2, 1) := by decide +kernel
theorem dX7_wake_25 : decode cX7_wake 25 = .ok (.invokevirtual 41, 3) := by decide +kernel
theorem dX7_wake_28 : decode cX7_wake 28 = .ok (.return_, 1) := by decide +kernel
theorem dX7_tire_0 : decode cX7_tire 0 = .ok (.iconst 0, 1) := by decide +kernel
theorem dX7_tire_1 : decode cX7_tire 1 = .ok (.istore_n 2, 1) := by decide +kernel
theorem dX7_tire_2 : decode cX7_tire 2 = .ok (.iload_n 2, 1) := by decide +kernel
theorem dX7_tire_3 : decode cX7_tire 3 = .ok (.aload_n 0, 1) := by decide +kernel
theorem dX7_tire_4 : decode cX7_tire 4 = .ok (.getfield 29, 3) := by decide +kernel
theorem dX7_tire_7 : decode cX7_tire 7 = .ok (.if_icmp .ge 31, 3) := by decide +kernel
theorem dX7_tire_10 : decode cX7_tire 10 = .ok (.aload_n 0, 1) := by decide +kernel
theorem dX7_tire_11 : decode cX7_tire 11 = .ok (.getfield 23, 3) := by decide +kernel
theorem dX7_tire_14 : decode cX7_tire 14 = .ok (.iload_n 2, 1) := by decide +kernel
theorem dX7_tire_15 : decode cX7_tire 15 = .ok (.aload_n 0, 1) := by decide +kernel
theorem dX7_tire_16 : decode cX7_tire 16 = .ok (.getfield 23, 3) := by decide +kernel
theorem dX7_tire_19 : decode cX7_tire 19 = .ok (.iload_n 2, 1) := by decide +kernel
theorem dX7_tire_20 : decode cX7_tire 20 = .ok (.invokevirtual 45, 3) := by decide +kernel
theorem dX7_tire_23 : decode cX7_tire 23 = .ok (.iload_n 1, 1) := by decide +kernel
theorem dX7_tire_24 : decode cX7_tire 24 = .ok (.isub, 1) := by decide +kernel
theorem dX7_tire_25 : decode cX7_tire 25 = .ok (.iconst 0, 1) := by decide +kernel
theorem dX7_tire_26 : decode cX7_tire 26 = .ok (.invokestatic 52, 3) := by decide +kernel
theorem dX7_tire_29 : decode cX7_tire 29 = .ok (.invokevirtual 41, 3) := by decide +kernel
theorem dX7_tire_32 : decode cX7_tire 32 = .ok (.iinc 2 1, 3) := by decide +kernel
theorem dX7_tire_35 : decode cX7_tire 35 = .ok (.goto (-33), 3) := by decide +kernel
theorem dX7_tire_38 : decode cX7_tire 38 = .ok (.return_, 1) := by decide +kernel
theorem dX8_whyNot_0 : decode cX8_whyNot 0 = .ok (.iconst 0, 1) := by decide +kernel
theorem dX8_whyNot_1 : decode cX8_whyNot 1 = .ok (.istore_n 3, 1) := by decide +kernel
theorem dX8_whyNot_2 : decode cX8_whyNot 2 = .ok (.iconst 0, 1) := by decide +kernel
theorem dX8_whyNot_3 : decode cX8_whyNot 3 = .ok (.istore 4, 2) := by decide +kernel
theorem dX8_whyNot_5 : decode cX8_whyNot 5 = .ok (.iconst 0, 1) := by decide +kernel
theorem dX8_whyNot_6 : decode cX8_whyNot 6 = .ok (.istore 5, 2) := by decide +kernel
theorem dX8_whyNot_8 : decode cX8_whyNot 8 = .ok (.iload 5, 2) := by decide +kernel
theorem dX8_whyNot_10 : decode cX8_whyNot 10 = .ok (.aload_n 0, 1) := by decide +kernel
theorem dX8_whyNot_11 : decode cX8_whyNot 11 = .ok (.getfield 9, 3) := by decide +kernel
theorem dX8_whyNot_14 : decode cX8_whyNot 14 = .ok (.if_icmp .ge 44, 3) := by decide +kernel
theorem dX8_whyNot_17 : decode cX8_whyNot 17 = .ok (.iload_n 1, 1) := by decide +kernel
theorem dX8_whyNot_18 : decode cX8_whyNot 18 = .ok (.iload 5, 2) := by decide +kernel
theorem dX8_whyNot_20 : decode cX8_whyNot 20 = .ok (.invokestatic 15, 3) := by decide +kernel
theorem dX8_whyNot_23 : decode cX8_whyNot 23 = .ok (.ifCond .eq 29, 3) := by decide +kernel
theorem dX8_whyNot_26 : decode cX8_whyNot 26 = .ok (.iload_n 3, 1) := by decide +kernel
theorem dX8_whyNot_27 : decode cX8_whyNot 27 = .ok (.aload_n 0, 1) := by decide +kernel
theorem dX8_whyNot_28 : decode cX8_whyNot 28 = .ok (.getfield 19, 3) := by decide +kernel
theorem dX8_whyNot_31 : decode cX8_whyNot 31 = .ok (.iload 5, 2) := by decide +kernel
theorem dX8_whyNot_33 : decode cX8_whyNot 33 = .ok (.invokevirtual 23, 3) := by decide +kernel
theorem dX8_whyNot_36 : decode cX8_whyNot 36 = .ok (.ixor, 1) := by decide +kernel
theorem dX8_whyNot_37 : decode cX8_whyNot 37 = .ok (.istore_n 3, 1) := by decide +kernel
theorem dX8_whyNot_38 : decode cX8_whyNot 38 = .ok (.iload 4, 2) := by decide +kernel
theorem dX8_whyNot_40 : decode cX8_whyNot 40 = .ok (.aload_n 0, 1) := by decide +kernel
theorem dX8_whyNot_41 : decode cX8_whyNot 41 = .ok (.getfield 19, 3) := by decide +kernel
theorem dX8_whyNot_44 : decode cX8_whyNot 44 = .ok (.iload 5, 2) := by decide +kernel
theorem dX8_whyNot_46 : decode cX8_whyNot 46 = .ok (.invokevirtual 23, 3) := by decide +kernel
theorem dX8_whyNot_49 : decode cX8_whyNot 49 = .ok (.ior, 1) := by decide +kernel
theorem dX8_whyNot_50 : decode cX8_whyNot 50 = .ok (.istore 4, 2) := by decide +kernel
theorem dX8_whyNot_52 : decode cX8_whyNot 52 = .ok (.iinc 5 1, 3) := by decide +kernel
theorem dX8_whyNot_55 : decode cX8_whyNot 55 = .ok (.goto (-47), 3) := by decide +kernel
theorem dX8_whyNot_58 : decode cX8_whyNot 58 = .ok (.iload_n 1, 1) := by decide +kernel
theorem dX8_whyNot_59 : decode cX8_whyNot 59 = .ok (.ifCond .ne 5, 3) := by decide +kernel
theorem dX8_whyNot_62 : decode cX8_whyNot 62 = .ok (.iconst 1, 1) := by decide +kernel
theorem dX8_whyNot_63 : decode cX8_whyNot 63 = .ok (.ireturn, 1) := by decide +kernel
theorem dX8_whyNot_64 : decode cX8_whyNot 64 = .ok (.iload 4, 2) := by decide +kernel
theorem dX8_whyNot_66 : decode cX8_whyNot 66 = .ok (.iload_n 2, 1) := by decide +kernel
theorem dX8_whyNot_67 : decode cX8_whyNot 67 = .ok (.invokestatic 15, 3) := by decide +kernel
theorem dX8_whyNot_70 : decode cX8_whyNot 70 = .ok (.ifCond .ne 5, 3) := by decide +kernel
theorem dX8_whyNot_73 : decode cX8_whyNot 73 = .ok (.iconst 2, 1) := by decide +kernel
theorem dX8_whyNot_74 : decode cX8_whyNot 74 = .ok (.ireturn, 1) := by decide +kernel
theorem dX8_whyNot_75 : decode cX8_whyNot 75 = .ok (.iload 4, 2) := by decide +kernel
theorem dX8_whyNot_77 : decode cX8_whyNot 77 = .ok (.aload_n 0, 1) := by decide +kernel
theorem dX8_whyNot_78 : decode cX8_whyNot 78 = .ok (.iload_n 2, 1) := by decide +kernel
theorem dX8_whyNot_79 : decode cX8_whyNot 79 = .ok (.iload_n 1, 1) := by decide +kernel
theorem dX8_whyNot_80 : decode cX8_whyNot 80 = .ok (.invokevirtual 31, 3) := by decide +kernel
theorem dX8_whyNot_83 : decode cX8_whyNot 83 = .ok (.iconst (-1), 1) := by decide +kernel
theorem dX8_whyNot_84 : decode cX8_whyNot 84 = .ok (.ixor, 1) := by decide +kernel
theorem dX8_whyNot_85 : decode cX8_whyNot 85 = .ok (.iand, 1) := by decide +kernel
theorem dX8_whyNot_86 : decode cX8_whyNot 86 = .ok (.ifCond .eq 5, 3) := by decide +kernel
theorem dX8_whyNot_89 : decode cX8_whyNot 89 = .ok (.iconst 3, 1) := by decide +kernel
theorem dX8_whyNot_90 : decode cX8_whyNot 90 = .ok (.ireturn, 1) := by decide +kernel
theorem dX8_whyNot_91 : decode cX8_whyNot 91 = .ok (.iload_n 3, 1) := by decide +kernel
theorem dX8_whyNot_92 : decode cX8_whyNot 92 = .ok (.invokestatic 35, 3) := by decide +kernel
theorem dX8_whyNot_95 : decode cX8_whyNot 95 = .ok (.iconst 2, 1) := by decide +kernel
theorem dX8_whyNot_96 : decode cX8_whyNot 96 = .ok (.if_icmp .le 5, 3) := by decide +kernel
theorem dX8_whyNot_99 : decode cX8_whyNot 99 = .ok (.iconst 4, 1) := by decide +kernel
theorem dX8_whyNot_100 : decode cX8_whyNot 100 = .ok (.ireturn, 1) := by decide +kernel
theorem dX8_whyNot_101 : decode cX8_whyNot 101 = .ok (.iload_n 3, 1) := by decide +kernel
theorem dX8_whyNot_102 : decode cX8_whyNot 102 = .ok (.ifCond .eq 11, 3) := by decide +kernel
theorem dX8_whyNot_105 : decode cX8_whyNot 105 = .ok (.iload_n 3, 1) := by decide +kernel
theorem dX8_whyNot_106 : decode cX8_whyNot 106 = .ok (.iload_n 2, 1) := by decide +kernel
theorem dX8_whyNot_107 : decode cX8_whyNot 107 = .ok (.invokestatic 15, 3) := by decide +kernel
theorem dX8_whyNot_110 : decode cX8_whyNot 110 = .ok (.ifCond .eq 7, 3) := by decide +kernel
theorem dX8_whyNot_113 : decode cX8_whyNot 113 = .ok (.iconst 0, 1) := by decide +kernel
theorem dX8_whyNot_114 : decode cX8_whyNot 114 = .ok (.goto 4, 3) := by decide +kernel
theorem dX8_whyNot_117 : decode cX8_whyNot 117 = .ok (.iconst 5, 1) := by decide +kernel
theorem dX8_whyNot_118 : decode cX8_whyNot 118 = .ok (.ireturn, 1) := by decide +kernel
theorem dX8_boardAt_0 : decode cX8_boardAt 0 = .ok (.iload_n 1, 1) := by decide +kernel
theorem dX8_boardAt_1 : decode cX8_boardAt 1 = .ok (.istore 4, 2) := by decide +kernel
theorem dX8_boardAt_3 : decode cX8_boardAt 3 = .ok (.iload_n 2, 1) := by decide +kernel
theorem dX8_boardAt_4 : decode cX8_boardAt 4 = .ok (.istore 5, 2) := by decide +kernel
theorem dX8_boardAt_6 : decode cX8_boardAt 6 = .ok (.iconst 0, 1) := by decide +kernel
theorem dX8_boardAt_7 : decode cX8_boardAt 7 = .ok (.istore 6, 2) := by decide +kernel
theorem dX8_boardAt_9 : decode cX8_boardAt 9 = .ok (.iload 6, 2) := by decide +kernel
theorem dX8_boardAt_11 : decode cX8_boardAt 11 = .ok (.bipush 20, 2) := by decide +kernel
theorem dX8_boardAt_13 : decode cX8_boardAt 13 = .ok (.if_icmp .ge 61, 3) := by decide +kernel
theorem dX8_boardAt_16 : decode cX8_boardAt 16 = .ok (.iload 4, 2) := by decide +kernel
theorem dX8_boardAt_18 : decode cX8_boardAt 18 = .ok (.ifCond .eq 56, 3) := by decide +kernel
theorem dX8_boardAt_21 : decode cX8_boardAt 21 = .ok (.aload_n 0, 1) := by decide +kernel
theorem dX8_boardAt_22 : decode cX8_boardAt 22 = .ok (.iload 4, 2) := by decide +kernel
theorem dX8_boardAt_24 : decode cX8_boardAt 24 = .ok (.iload 5, 2) := by decide +kernel
theorem dX8_boardAt_26 : decode cX8_boardAt 26 = .ok (.invokestatic 40, 3) := by decide +kernel
theorem dX8_boardAt_29 : decode cX8_boardAt 29 = .ok (.istore 7, 2) := by decide +kernel
theorem dX8_boardAt_31 : decode cX8_boardAt 31 = .ok (.iload 6, 2) := by decide +kernel
theorem dX8_boardAt_33 : decode cX8_boardAt 33 = .ok (.iload_n 3, 1) := by decide +kernel
theorem dX8_boardAt_34 : decode cX8_boardAt 34 = .ok (.if_icmp .eq 10, 3) := by decide +kernel
theorem dX8_boardAt_37 : decode cX8_boardAt 37 = .ok (.iload 7, 2) := by decide +kernel
theorem dX8_boardAt_39 : decode cX8_boardAt 39 = .ok (.bipush (-6), 2) := by decide +kernel
theorem dX8_boardAt_41 : decode cX8_boardAt 41 = .ok (.if_icmp .ne 6, 3) := by decide +kernel
theorem dX8_boardAt_44 : decode cX8_boardAt 44 = .ok (.iload 7, 2) := by decide +kernel
theorem dX8_boardAt_46 : decode cX8_boardAt 46 = .ok (.ireturn, 1) := by decide +kernel
theorem dX8_boardAt_47 : decode cX8_boardAt 47 = .ok (.iload 4, 2) := by decide +kernel
theorem dX8_boardAt_49 : decode cX8_boardAt 49 = .ok (.iconst 1, 1) := by decide +kernel
theorem dX8_boardAt_50 : decode cX8_boardAt 50 = .ok (.iload 7, 2) := by decide +kernel
theorem dX8_boardAt_52 : decode cX8_boardAt 52 = .ok (.ishl, 1) := by decide +kernel
theorem dX8_boardAt_53 : decode cX8_boardAt 53 = .ok (.iconst (-1), 1) := by decide +kernel
theorem dX8_boardAt_54 : decode cX8_boardAt 54 = .ok (.ixor, 1) := by decide +kernel
theorem dX8_boardAt_55 : decode cX8_boardAt 55 = .ok (.iand, 1) := by decide +kernel
theorem dX8_boardAt_56 : decode cX8_boardAt 56 = .ok (.istore 4, 2) := by decide +kernel
theorem dX8_boardAt_58 : decode cX8_boardAt 58 = .ok (.aload_n 0, 1) := by decide +kernel
theorem dX8_boardAt_59 : decode cX8_boardAt 59 = .ok (.iload 7, 2) := by decide +kernel
theorem dX8_boardAt_61 : decode cX8_boardAt 61 = .ok (.iload 5, 2) := by decide +kernel
theorem dX8_boardAt_63 : decode cX8_boardAt 63 = .ok (.invokevirtual 44, 3) := by decide +kernel
theorem dX8_boardAt_66 : decode cX8_boardAt 66 = .ok (.istore 5, 2) := by decide +kernel
theorem dX8_boardAt_68 : decode cX8_boardAt 68 = .ok (.iinc 6 1, 3) := by decide +kernel
theorem dX8_boardAt_71 : decode cX8_boardAt 71 = .ok (.goto (-62), 3) := by decide +kernel
theorem dX8_boardAt_74 : decode cX8_boardAt 74 = .ok (.bipush (-6), 2) := by decide +kernel
theorem dX8_boardAt_76 : decode cX8_boardAt 76 = .ok (.ireturn, 1) := by decide +kernel
theorem dX8_firstBoard_0 : decode cX8_firstBoard 0 = .ok (.iload_n 1, 1) := by decide +kernel
theorem dX8_firstBoard_1 : decode cX8_firstBoard 1 = .ok (.aload_n 0, 1) := by decide +kernel
theorem dX8_firstBoard_2 : decode cX8_firstBoard 2 = .ok (.iconst 1, 1) := by decide +kernel
theorem dX8_firstBoard_3 : decode cX8_firstBoard 3 = .ok (.iload_n 2, 1) := by decide +kernel
theorem dX8_firstBoard_4 : decode cX8_firstBoard 4 = .ok (.ishl, 1) := by decide +kernel
theorem dX8_firstBoard_5 : decode cX8_firstBoard 5 = .ok (.invokevirtual 47, 3) := by decide +kernel
theorem dX8_firstBoard_8 : decode cX8_firstBoard 8 = .ok (.iand, 1) := by decide +kernel
theorem dX8_firstBoard_9 : decode cX8_firstBoard 9 = .ok (.istore_n 3, 1) := by decide +kernel
theorem dX8_firstBoard_10 : decode cX8_firstBoard 10 = .ok (.iconst 0, 1) := by decide +kernel
theorem dX8_firstBoard_11 : decode cX8_firstBoard 11 = .ok (.istore 4, 2) := by decide +kernel
theorem dX8_firstBoard_13 : decode cX8_firstBoard 13 = .ok (.iload 4, 2) := by decide +kernel
theorem dX8_firstBoard_15 : decode cX8_firstBoard 15 = .ok (.aload_n 0, 1) := by decide +kernel
theorem dX8_firstBoard_16 : decode cX8_firstBoard 16 = .ok (.getfield 9, 3) := by decide +kernel
theorem dX8_firstBoard_19 : decode cX8_firstBoard 19 = .ok (.if_icmp .ge 52, 3) := by decide +kernel
theorem dX8_firstBoard_22 : decode cX8_firstBoard 22 = .ok (.iload_n 3, 1) := by decide +kernel
theorem dX8_firstBoard_23 : decode cX8_firstBoard 23 = .ok (.iload 4, 2) := by decide +kernel
theorem dX8_firstBoard_25 : decode cX8_firstBoard 25 = .ok (.invokestatic 15, 3) := by decide +kernel
theorem dX8_firstBoard_28 : decode cX8_firstBoard 28 = .ok (.ifCond .eq 37, 3) := by decide +kernel
theorem dX8_firstBoard_31 : decode cX8_firstBoard 31 = .ok (.iload_n 1, 1) := by decide +kernel
theorem dX8_firstBoard_32 : decode cX8_firstBoard 32 = .ok (.iconst 1, 1) := by decide +kernel
theorem dX8_firstBoard_33 : decode cX8_firstBoard 33 = .ok (.iload 4, 2) := by decide +kernel
theorem dX8_firstBoard_35 : decode cX8_firstBoard 35 = .ok (.ishl, 1) := by decide +kernel
theorem dX8_firstBoard_36 : decode cX8_firstBoard 36 = .ok (.iconst (-1), 1) := by decide +kernel
theorem dX8_firstBoard_37 : decode cX8_firstBoard 37 = .ok (.ixor, 1) := by decide +kernel
theorem dX8_firstBoard_38 : decode cX8_firstBoard 38 = .ok (.iand, 1) := by decide +kernel
theorem dX8_firstBoard_39 : decode cX8_firstBoard 39 = .ok (.istore 5, 2) := by decide +kernel
theorem dX8_firstBoard_41 : decode cX8_firstBoard 41 = .ok (.iload 5, 2) := by decide +kernel
theorem dX8_firstBoard_43 : decode cX8_firstBoard 43 = .ok (.ifCond .eq 19, 3) := by decide +kernel
theorem dX8_firstBoard_46 : decode cX8_firstBoard 46 = .ok (.aload_n 0, 1) := by decide +kernel
theorem dX8_firstBoard_47 : decode cX8_firstBoard 47 = .ok (.iload 5, 2) := by decide +kernel
theorem dX8_firstBoard_49 : decode cX8_firstBoard 49 = .ok (.aload_n 0, 1) := by decide +kernel
theorem dX8_firstBoard_50 : decode cX8_firstBoard 50 = .ok (.iload 4, 2) := by decide +kernel
theorem dX8_firstBoard_52 : decode cX8_firstBoard 52 = .ok (.iload_n 2, 1) := by decide +kernel
theorem dX8_firstBoard_53 : decode cX8_firstBoard 53 = .ok (.invokevirtual 44, 3) := by decide +kernel
theorem dX8_firstBoard_56 : decode cX8_firstBoard 56 = .ok (.invokestatic 50, 3) := by decide +kernel
theorem dX8_firstBoard_59 : decode cX8_firstBoard 59 = .ok (.ifCond .ne 6, 3) := by decide +kernel
theorem dX8_firstBoard_62 : decode cX8_firstBoard 62 = .ok (.iload 4, 2) := by decide +kernel
theorem dX8_firstBoard_64 : decode cX8_firstBoard 64 = .ok (.ireturn, 1) := by decide +kernel
theorem dX8_firstBoard_65 : decode cX8_firstBoard 65 = .ok (.iinc 4 1, 3) := by decide +kernel
theorem dX8_firstBoard_68 : decode cX8_firstBoard 68 = .ok (.goto (-55), 3) := by decide +kernel
theorem dX8_firstBoard_71 : decode cX8_firstBoard 71 = .ok (.bipush (-6), 2) := by decide +kernel
theorem dX8_firstBoard_73 : decode cX8_firstBoard 73 = .ok (.ireturn, 1) := by decide +kernel
theorem dX9_init_0 : decode cX9_init 0 = .ok (.aload_n 0, 1) := by decide +kernel
theorem dX9_init_1 : decode cX9_init 1 = .ok (.invokespecial 3, 3) := by decide +kernel
theorem dX9_init_4 : decode cX9_init 4 = .ok (.aload_n 0, 1) := by decide +kernel
theorem dX9_init_5 : decode cX9_init 5 = .ok (.new 9, 3) := by decide +kernel
theorem dX9_init_8 : decode cX9_init 8 = .ok (.dup, 1) := by decide +kernel
theorem dX9_init_9 : decode cX9_init 9 = .ok (.bipush 10, 2) := by decide +kernel
theorem dX9_init_11 : decode cX9_init 11 = .ok (.invokespecial 11, 3) := by decide +kernel
theorem dX9_init_14 : decode cX9_init 14 = .ok (.putfield 14, 3) := by decide +kernel
theorem dX9_init_17 : decode cX9_init 17 = .ok (.aload_n 0, 1) := by decide +kernel
theorem dX9_init_18 : decode cX9_init 18 = .ok (.new 9, 3) := by decide +kernel
theorem dX9_init_21 : decode cX9_init 21 = .ok (.dup, 1) := by decide +kernel
theorem dX9_init_22 : decode cX9_init 22 = .ok (.bipush 10, 2) := by decide +kernel
theorem dX9_init_24 : decode cX9_init 24 = .ok (.invokespecial 11, 3) := by decide +kernel
theorem dX9_init_27 : decode cX9_init 27 = .ok (.putfield 20, 3) := by decide +kernel
theorem dX9_init_30 : decode cX9_init 30 = .ok (.return_, 1) := by decide +kernel
theorem dX9_find_0 : decode cX9_find 0 = .ok (.aload_n 0, 1) := by decide +kernel
theorem dX9_find_1 : decode cX9_find 1 = .ok (.aload_n 1, 1) := by decide +kernel
theorem dX9_find_2 : decode cX9_find 2 = .ok (.iload_n 2, 1) := by decide +kernel
theorem dX9_find_3 : decode cX9_find 3 = .ok (.iload 4, 2) := by decide +kernel
theorem dX9_find_5 : decode cX9_find 5 = .ok (.invokevirtual 23, 3) := by decide +kernel
theorem dX9_find_8 : decode cX9_find 8 = .ok (.aload_n 0, 1) := by decide +kernel
theorem dX9_find_9 : decode cX9_find 9 = .ok (.aload_n 0, 1) := by decide +kernel
theorem dX9_find_10 : decode cX9_find 10 = .ok (.getfield 14, 3) := by decide +kernel
theorem dX9_find_13 : decode cX9_find 13 = .ok (.iload_n 3, 1) := by decide +kernel
theorem dX9_find_14 : decode cX9_find 14 = .ok (.invokevirtual 27, 3) := by decide +kernel
theorem dX9_find_17 : decode cX9_find 17 = .ok (.ldc 31, 2) := by decide +kernel
theorem dX9_find_19 : decode cX9_find 19 = .ok (.if_icmp .ge 7, 3) := by decide +kernel
theorem dX9_find_22 : decode cX9_find 22 = .ok (.iconst 1, 1) := by decide +kernel
theorem dX9_find_23 : decode cX9_find 23 = .ok (.goto 4, 3) := by decide +kernel
theorem dX9_find_26 : decode cX9_find 26 = .ok (.iconst 0, 1) := by decide +kernel
theorem dX9_find_27 : decode cX9_find 27 = .ok (.putfield 32, 3) := by decide +kernel
theorem dX9_find_30 : decode cX9_find 30 = .ok (.aload_n 0, 1) := by decide +kernel
theorem dX9_find_31 : decode cX9_find 31 = .ok (.iconst 0, 1) := by decide +kernel
theorem dX9_find_32 : decode cX9_find 32 = .ok (.putfield 36, 3) := by decide +kernel
theorem dX9_find_35 : decode cX9_find 35 = .ok (.aload_n 0, 1) := by decide +kernel
theorem dX9_find_36 : decode cX9_find 36 = .ok (.iconst 0, 1) := by decide +kernel
theorem dX9_find_37 : decode cX9_find 37 = .ok (.putfield 40, 3) := by decide +kernel
theorem dX9_find_40 : decode cX9_find 40 = .ok (.iload_n 3, 1) := by decide +kernel
theorem dX9_find_41 : decode cX9_find 41 = .ok (.istore 5, 2) := by decide +kernel
theorem dX9_find_43 : decode cX9_find 43 = .ok (.iconst 0, 1) := by decide +kernel
theorem dX9_find_44 : decode cX9_find 44 = .ok (.istore 6, 2) := by decide +kernel
theorem dX9_find_46 : decode cX9_find 46 = .ok (.iload 6, 2) := by decide +kernel
theorem dX9_find_48 : decode cX9_find 48 = .ok (.bipush 10, 2) := by decide +kernel
theorem dX9_find_50 : decode cX9_find 50 = .ok (.if_icmp .ge 82, 3) := by decide +kernel
theorem dX9_find_53 : decode cX9_find 53 = .ok (.aload_n 0, 1) := by decide +kernel
theorem dX9_find_54 : decode cX9_find 54 = .ok (.getfield 32, 3) := by decide +kernel
theorem dX9_find_57 : decode cX9_find 57 = .ok (.ifCond .eq 75, 3) := by decide +kernel
theorem dX9_find_60 : decode cX9_find 60 = .ok (.iload 5, 2) := by decide +kernel
theorem dX9_find_62 : decode cX9_find 62 = .ok (.iload 4, 2) := by decide +kernel
theorem dX9_find_64 : decode cX9_find 64 = .ok (.if_icmp .eq 68, 3) := by decide +kernel
theorem dX9_find_67 : decode cX9_find 67 = .ok (.aload_n 0, 1) := by decide +kernel
theorem dX9_find_68 : decode cX9_find 68 = .ok (.aload_n 1, 1) := by decide +kernel
theorem dX9_find_69 : decode cX9_find 69 = .ok (.iload_n 2, 1) := by decide +kernel
theorem dX9_find_70 : decode cX9_find 70 = .ok (.iload 5, 2) := by decide +kernel
theorem dX9_find_72 : decode cX9_find 72 = .ok (.invokevirtual 43, 3) := by decide +kernel
theorem dX9_find_75 : decode cX9_find 75 = .ok (.istore 7, 2) := by decide +kernel
theorem dX9_find_77 : decode cX9_find 77 = .ok (.aload_n 0, 1) := by decide +kernel
theorem dX9_find_78 : decode cX9_find 78 = .ok (.getfield 20, 3) := by decide +kernel
theorem dX9_find_81 : decode cX9_find 81 = .ok (.iload 6, 2) := by decide +kernel
theorem dX9_find_83 : decode cX9_find 83 = .ok (.iload 7, 2) := by decide +kernel
theorem dX9_find_85 : decode cX9_find 85 = .ok (.invokevirtual 47, 3) := by decide +kernel
theorem dX9_find_88 : decode cX9_find 88 = .ok (.aload_n 0, 1) := by decide +kernel
theorem dX9_find_89 : decode cX9_find 89 = .ok (.dup, 1) := by decide +kernel
theorem dX9_find_90 : decode cX9_find 90 = .ok (.getfield 36, 3) := by decide +kernel
theorem dX9_find_93 : decode cX9_find 93 = .ok (.aload_n 1, 1) := by decide +kernel
theorem dX9_find_94 : decode cX9_find 94 = .ok (.getfield 51, 3) := by decide +kernel
theorem dX9_find_97 : decode cX9_find 97 = .ok (.iload 7, 2) := by decide +kernel
theorem dX9_find_99 : decode cX9_find 99 = .ok (.invokevirtual 27, 3) := by decide +kernel
theorem dX9_find_102 : decode cX9_find 102 = .ok (.iadd, 1) := by decide +kernel
theorem dX9_find_103 : decode cX9_find 103 = .ok (.putfield 36, 3) := by decide +kernel
theorem dX9_find_106 : decode cX9_find 106 = .ok (.aload_n 0, 1) := by decide +kernel
theorem dX9_find_107 : decode cX9_find 107 = .ok (.dup, 1) := by decide +kernel
theorem dX9_find_108 : decode cX9_find 108 = .ok (.getfield 40, 3) := by decide +kernel
theorem dX9_find_111 : decode cX9_find 111 = .ok (.iconst 1, 1) := by decide +kernel
theorem dX9_find_112 : decode cX9_find 112 = .ok (.iadd, 1) := by decide +kernel
theorem dX9_find_113 : decode cX9_find 113 = .ok (.putfield 40, 3) := by decide +kernel
theorem dX9_find_116 : decode cX9_find 116 = .ok (.aload_n 1, 1) := by decide +kernel
theorem dX9_find_117 : decode cX9_find 117 = .ok (.iload 7, 2) := by decide +kernel
theorem dX9_find_119 : decode cX9_find 119 = .ok (.iload 5, 2) := by decide +kernel
theorem dX9_find_121 : decode cX9_find 121 = .ok (.invokevirtual 55, 3) := by decide +kernel
theorem dX9_find_124 : decode cX9_find 124 = .ok (.istore 5, 2) := by decide +kernel
theorem dX9_find_126 : decode cX9_find 126 = .ok (.iinc 6 1, 3) := by decide +kernel
theorem dX9_find_129 : decode cX9_find 129 = .ok (.goto (-83), 3) := by decide +kernel
theorem dX9_find_132 : decode cX9_find 132 = .ok (.return_, 1) := by decide +kernel
theorem dX9_weigh_0 : decode cX9_weigh 0 = .ok (.aload_n 0, 1) := by decide +kernel
theorem dX9_weigh_1 : decode cX9_weigh 1 = .ok (.getfield 14, 3) := by decide +kernel
theorem dX9_weigh_4 : decode cX9_weigh 4 = .ok (.ldc 31, 2) := by decide +kernel
theorem dX9_weigh_6 : decode cX9_weigh 6 = .ok (.invokevirtual 59, 3) := by decide +kernel
theorem dX9_weigh_9 : decode cX9_weigh 9 = .ok (.aload_n 0, 1) := by decide +kernel
theorem dX9_weigh_10 : decode cX9_weigh 10 = .ok (.getfield 14, 3) := by decide +kernel
theorem dX9_weigh_13 : decode cX9_weigh 13 = .ok (.iload_n 3, 1) := by decide +kernel
theorem dX9_weigh_14 : decode cX9_weigh 14 = .ok (.iconst 0, 1) := by decide +kernel
theorem dX9_weigh_15 : decode cX9_weigh 15 = .ok (.invokevirtual 47, 3) := by decide +kernel
theorem dX9_weigh_18 : decode cX9_weigh 18 = .ok (.iconst 1, 1) := by decide +kernel
theorem dX9_weigh_19 : decode cX9_weigh 19 = .ok (.istore 4, 2) := by decide +kernel
theorem dX9_weigh_21 : decode cX9_weigh 21 = .ok (.iconst 0, 1) := by decide +kernel
theorem dX9_weigh_22 : decode cX9_weigh 22 = .ok (.istore 5, 2) := by decide +kernel
theorem dX9_weigh_24 : decode cX9_weigh 24 = .ok (.iload 5, 2) := by decide +kernel
theorem dX9_weigh_26 : decode cX9_weigh 26 = .ok (.bipush 10, 2) := by decide +kernel
theorem dX9_weigh_28 : decode cX9_weigh 28 = .ok (.if_icmp .ge 57, 3) := by decide +kernel
theorem dX9_weigh_31 : decode cX9_weigh 31 = .ok (.iload 4, 2) := by decide +kernel
theorem dX9_weigh_33 : decode cX9_weigh 33 = .ok (.ifCond .eq 52, 3) := by decide +kernel
theorem dX9_weigh_36 : decode cX9_weigh 36 = .ok (.iconst 0, 1) := by decide +kernel
theorem dX9_weigh_37 : decode cX9_weigh 37 = .ok (.istore 4, 2) := by decide +kernel
theorem dX9_weigh_39 : decode cX9_weigh 39 = .ok (.iconst 0, 1) := by decide +kernel
theorem dX9_weigh_40 : decode cX9_weigh 40 = .ok (.istore 6, 2) := by decide +kernel
theorem dX9_weigh_42 : decode cX9_weigh 42 = .ok (.iload 6, 2) := by decide +kernel
theorem dX9_weigh_44 : decode cX9_weigh 44 = .ok (.aload_n 1, 1) := by decide +kernel
theorem dX9_weigh_45 : decode cX9_weigh 45 = .ok (.getfield 62, 3) := by decide +kernel
theorem dX9_weigh_48 : decode cX9_weigh 48 = .ok (.if_icmp .ge 31, 3) := by decide +kernel
theorem dX9_weigh_51 : decode cX9_weigh 51 = .ok (.iload_n 2, 1) := by decide +kernel
theorem dX9_weigh_52 : decode cX9_weigh 52 = .ok (.iload 6, 2) := by decide +kernel
theorem dX9_weigh_54 : decode cX9_weigh 54 = .ok (.invokestatic 65, 3) := by decide +kernel
theorem dX9_weigh_57 : decode cX9_weigh 57 = .ok (.ifCond .eq 16, 3) := by decide +kernel
theorem dX9_weigh_60 : decode cX9_weigh 60 = .ok (.aload_n 0, 1) := by decide +kernel
theorem dX9_weigh_61 : decode cX9_weigh 61 = .ok (.aload_n 1, 1) := by decide +kernel
theorem dX9_weigh_62 : decode cX9_weigh 62 = .ok (.iload 6, 2) := by decide +kernel
theorem dX9_weigh_64 : decode cX9_weigh 64 = .ok (.invokevirtual 69, 3) := by decide +kernel
theorem dX9_weigh_67 : decode cX9_weigh 67 = .ok (.ifCond .eq 6, 3) := by decide +kernel
theorem dX9_weigh_70 : decode cX9_weigh 70 = .ok (.iconst 1, 1) := by decide +kernel
theorem dX9_weigh_71 : decode cX9_weigh 71 = .ok (.istore 4, 2) := by decide +kernel
theorem dX9_weigh_73 : decode cX9_weigh 73 = .ok (.iinc 6 1, 3) := by decide +kernel
theorem dX9_weigh_76 : decode cX9_weigh 76 = .ok (.goto (-34), 3) := by decide +kernel
theorem dX9_weigh_79 : decode cX9_weigh 79 = .ok (.iinc 5 1, 3) := by decide +kernel
theorem dX9_weigh_82 : decode cX9_weigh 82 = .ok (.goto (-58), 3) := by decide +kernel
theorem dX9_weigh_85 : decode cX9_weigh 85 = .ok (.return_, 1) := by decide +kernel
theorem dX9_lowerCosts_0 : decode cX9_lowerCosts 0 = .ok (.aload_n 1, 1) := by decide +kernel
theorem dX9_lowerCosts_1 : decode cX9_lowerCosts 1 = .ok (.getfield 73, 3) := by decide +kernel
theorem dX9_lowerCosts_4 : decode cX9_lowerCosts 4 = .ok (.iload_n 2, 1) := by decide +kernel
theorem dX9_lowerCosts_5 : decode cX9_lowerCosts 5 = .ok (.invokevirtual 27, 3) := by decide +kernel
theorem dX9_lowerCosts_8 : decode cX9_lowerCosts 8 = .ok (.istore_n 3, 1) := by decide +kernel
theorem dX9_lowerCosts_9 : decode cX9_lowerCosts 9 = .ok (.aload_n 1, 1) := by decide +kernel
theorem dX9_lowerCosts_10 : decode cX9_lowerCosts 10 = .ok (.getfield 76, 3) := by decide +kernel
theorem dX9_lowerCosts_13 : decode cX9_lowerCosts 13 = .ok (.iload_n 2, 1) := by decide +kernel
theorem dX9_lowerCosts_14 : decode cX9_lowerCosts 14 = .ok (.invokevirtual 27, 3) := by decide +kernel
theorem dX9_lowerCosts_17 : decode cX9_lowerCosts 17 = .ok (.istore 4, 2) := by decide +kernel
theorem dX9_lowerCosts_19 : decode cX9_lowerCosts 19 = .ok (.aload_n 1, 1) := by decide +kernel
theorem dX9_lowerCosts_20 : decode cX9_lowerCosts 20 = .ok (.iload_n 2, 1) := by decide +kernel
theorem dX9_lowerCosts_21 : decode cX9_lowerCosts 21 = .ok (.invokestatic 79, 3) := by decide +kernel
theorem dX9_lowerCosts_24 : decode cX9_lowerCosts 24 = .ok (.istore 5, 2) := by decide +kernel
theorem dX9_lowerCosts_26 : decode cX9_lowerCosts 26 = .ok (.aload_n 0, 1) := by decide +kernel
theorem dX9_lowerCosts_27 : decode cX9_lowerCosts 27 = .ok (.getfield 14, 3) := by decide +kernel
theorem dX9_lowerCosts_30 : decode cX9_lowerCosts 30 = .ok (.iload 4, 2) := by decide +kernel
theorem dX9_lowerCosts_32 : decode cX9_lowerCosts 32 = .ok (.invokevirtual 27, 3) := by decide +kernel
theorem dX9_lowerCosts_35 : decode cX9_lowerCosts 35 = .ok (.iload 5, 2) := by decide +kernel
theorem dX9_lowerCosts_37 : decode cX9_lowerCosts 37 = .ok (.iadd, 1) := by decide +kernel
theorem dX9_lowerCosts_38 : decode cX9_lowerCosts 38 = .ok (.aload_n 0, 1) := by decide +kernel
theorem dX9_lowerCosts_39 : decode cX9_lowerCosts 39 = .ok (.getfield 14, 3) := by decide +kernel
theorem dX9_lowerCosts_42 : decode cX9_lowerCosts 42 = .ok (.iload_n 3, 1) := by decide +kernel
theorem dX9_lowerCosts_43 : decode cX9_lowerCosts 43 = .ok (.invokevirtual 27, 3) := by decide +kernel
theorem dX9_lowerCosts_46 : decode cX9_lowerCosts 46 = .ok (.if_icmp .ge 25, 3) := by decide +kernel
theorem dX9_lowerCosts_49 : decode cX9_lowerCosts 49 = .ok (.aload_n 0, 1) := by decide +kernel
theorem dX9_lowerCosts_50 : decode cX9_lowerCosts 50 = .ok (.getfield 14, 3) := by decide +kernel
theorem dX9_lowerCosts_53 : decode cX9_lowerCosts 53 = .ok (.iload_n 3, 1) := by decide +kernel
theorem dX9_lowerCosts_54 : decode cX9_lowerCosts 54 = .ok (.aload_n 0, 1) := by decide +kernel
theorem dX9_lowerCosts_55 : decode cX9_lowerCosts 55 = .ok (.getfield 14, 3) := by decide +kernel
theorem dX9_lowerCosts_58 : decode cX9_lowerCosts 58 = .ok (.iload 4, 2) := by decide +kernel
theorem dX9_lowerCosts_60 : decode cX9_lowerCosts 60 = .ok (.invokevirtual 27, 3) := by decide +kernel
theorem dX9_lowerCosts_63 : decode cX9_lowerCosts 63 = .ok (.iload 5, 2) := by decide +kernel
theorem dX9_lowerCosts_65 : decode cX9_lowerCosts 65 = .ok (.iadd, 1) := by decide +kernel
theorem dX9_lowerCosts_66 : decode cX9_lowerCosts 66 = .ok (.invokevirtual 47, 3) := by decide +kernel
theorem dX9_lowerCosts_69 : decode cX9_lowerCosts 69 = .ok (.iconst 1, 1) := by decide +kernel
theorem dX9_lowerCosts_70 : decode cX9_lowerCosts 70 = .ok (.ireturn, 1) := by decide +kernel
theorem dX9_lowerCosts_71 : decode cX9_lowerCosts 71 = .ok (.aload_n 0, 1) := by decide +kernel
theorem dX9_lowerCosts_72 : decode cX9_lowerCosts 72 = .ok (.getfield 14, 3) := by decide +kernel
theorem dX9_lowerCosts_75 : decode cX9_lowerCosts 75 = .ok (.iload_n 3, 1) := by decide +kernel
theorem dX9_lowerCosts_76 : decode cX9_lowerCosts 76 = .ok (.invokevirtual 27, 3) := by decide +kernel
theorem dX9_lowerCosts_79 : decode cX9_lowerCosts 79 = .ok (.iload 5, 2) := by decide +kernel
theorem dX9_lowerCosts_81 : decode cX9_lowerCosts 81 = .ok (.iadd, 1) := by decide +kernel
theorem dX9_lowerCosts_82 : decode cX9_lowerCosts 82 = .ok (.aload_n 0, 1) := by decide +kernel
theorem dX9_lowerCosts_83 : decode cX9_lowerCosts 83 = .ok (.getfield 14, 3) := by decide +kernel
theorem dX9_lowerCosts_86 : decode cX9_lowerCosts 86 = .ok (.iload 4, 2) := by decide +kernel
theorem dX9_lowerCosts_88 : decode cX9_lowerCosts 88 = .ok (.invokevirtual 27, 3) := by decide +kernel
theorem dX9_lowerCosts_91 : decode cX9_lowerCosts 91 = .ok (.if_icmp .ge 25, 3) := by decide +kernel
theorem dX9_lowerCosts_94 : decode cX9_lowerCosts 94 = .ok (.aload_n 0, 1) := by decide +kernel
theorem dX9_lowerCosts_95 : decode cX9_lowerCosts 95 = .ok (.getfield 14, 3) := by decide +kernel
theorem dX9_lowerCosts_98 : decode cX9_lowerCosts 98 = .ok (.iload 4, 2) := by decide +kernel
theorem dX9_lowerCosts_100 : decode cX9_lowerCosts 100 = .ok (.aload_n 0, 1) := by decide +kernel
theorem dX9_lowerCosts_101 : decode cX9_lowerCosts 101 = .ok (.getfield 14, 3) := by decide +kernel
theorem dX9_lowerCosts_104 : decode cX9_lowerCosts 104 = .ok (.iload_n 3, 1) := by decide +kernel
theorem dX9_lowerCosts_105 : decode cX9_lowerCosts 105 = .ok (.invokevirtual 27, 3) := by decide +kernel
theorem dX9_lowerCosts_108 : decode cX9_lowerCosts 108 = .ok (.iload 5, 2) := by decide +kernel
theorem dX9_lowerCosts_110 : decode cX9_lowerCosts 110 = .ok (.iadd, 1) := by decide +kernel
theorem dX9_lowerCosts_111 : decode cX9_lowerCosts 111 = .ok (.invokevirtual 47, 3) := by decide +kernel
theorem dX9_lowerCosts_114 : decode cX9_lowerCosts 114 = .ok (.iconst 1, 1) := by decide +kernel
theorem dX9_lowerCosts_115 : decode cX9_lowerCosts 115 = .ok (.ireturn, 1) := by decide +kernel
theorem dX9_lowerCosts_116 : decode cX9_lowerCosts 116 = .ok (.iconst 0, 1) := by decide +kernel
theorem dX9_lowerCosts_117 : decode cX9_lowerCosts 117 = .ok (.ireturn, 1) := by decide +kernel
theorem dX9_priceOf_0 : decode cX9_priceOf 0 = .ok (.aload_n 0, 1) := by decide +kernel
theorem dX9_priceOf_1 : decode cX9_priceOf 1 = .ok (.getfield 51, 3) := by decide +kernel
theorem dX9_priceOf_4 : decode cX9_priceOf 4 = .ok (.iload_n 1, 1) := by decide +kernel
theorem dX9_priceOf_5 : decode cX9_priceOf 5 = .ok (.invokevirtual 27, 3) := by decide +kernel
theorem dX9_priceOf_8 : decode cX9_priceOf 8 = .ok (.bipush 10, 2) := by decide +kernel
theorem dX9_priceOf_10 : decode cX9_priceOf 10 = .ok (.imul, 1) := by decide +kernel
theorem dX9_priceOf_11 : decode cX9_priceOf 11 = .ok (.iconst 1, 1) := by decide +kernel
theorem dX9_priceOf_12 : decode cX9_priceOf 12 = .ok (.iadd, 1) := by decide +kernel
theorem dX9_priceOf_13 : decode cX9_priceOf 13 = .ok (.ireturn, 1) := by decide +kernel
theorem dX9_firstStep_0 : decode cX9_firstStep 0 = .ok (.iload_n 2, 1) := by decide +kernel
theorem dX9_firstStep_1 : decode cX9_firstStep 1 = .ok (.aload_n 1, 1) := by decide +kernel
theorem dX9_firstStep_2 : decode cX9_firstStep 2 = .ok (.iconst 1, 1) := by decide +kernel
theorem dX9_firstStep_3 : decode cX9_firstStep 3 = .ok (.iload_n 3, 1) := by decide +kernel
theorem dX9_firstStep_4 : decode cX9_firstStep 4 = .ok (.ishl, 1) := by decide +kernel
theorem dX9_firstStep_5 : decode cX9_firstStep 5 = .ok (.invokevirtual 83, 3) := by decide +kernel
theorem dX9_firstStep_8 : decode cX9_firstStep 8 = .ok (.iand, 1) := by decide +kernel
theorem dX9_firstStep_9 : decode cX9_firstStep 9 = .ok (.istore 4, 2) := by decide +kernel
theorem dX9_firstStep_11 : decode cX9_firstStep 11 = .ok (.iconst 0, 1) := by decide +kernel
theorem dX9_firstStep_12 : decode cX9_firstStep 12 = .ok (.istore 5, 2) := by decide +kernel
theorem dX9_firstStep_14 : decode cX9_firstStep 14 = .ok (.iload 5, 2) := by decide +kernel
theorem dX9_firstStep_16 : decode cX9_firstStep 16 = .ok (.aload_n 1, 1) := by decide +kernel
theorem dX9_firstStep_17 : decode cX9_firstStep 17 = .ok (.getfield 62, 3) := by decide +kernel
theorem dX9_firstStep_20 : decode cX9_firstStep 20 = .ok (.if_icmp .ge 58, 3) := by decide +kernel
theorem dX9_firstStep_23 : decode cX9_firstStep 23 = .ok (.aload_n 0, 1) := by decide +kernel
theorem dX9_firstStep_24 : decode cX9_firstStep 24 = .ok (.getfield 14, 3) := by decide +kernel
theorem dX9_firstStep_27 : decode cX9_firstStep 27 = .ok (.aload_n 1, 1) := by decide +kernel
theorem dX9_firstStep_28 : decode cX9_firstStep 28 = .ok (.iload 5, 2) := by decide +kernel
theorem dX9_firstStep_30 : decode cX9_firstStep 30 = .ok (.iload_n 3, 1) := by decide +kernel
theorem dX9_firstStep_31 : decode cX9_firstStep 31 = .ok (.invokevirtual 55, 3) := by decide +kernel
theorem dX9_firstStep_34 : decode cX9_firstStep 34 = .ok (.invokevirtual 27, 3) := by decide +kernel
theorem dX9_firstStep_37 : decode cX9_firstStep 37 = .ok (.istore 6, 2) := by decide +kernel
theorem dX9_firstStep_39 : decode cX9_firstStep 39 = .ok (.iload 4, 2) := by decide +kernel
theorem dX9_firstStep_41 : decode cX9_firstStep 41 = .ok (.iload 5, 2) := by decide +kernel
theorem dX9_firstStep_43 : decode cX9_firstStep 43 = .ok (.invokestatic 65, 3) := by decide +kernel
theorem dX9_firstStep_46 : decode cX9_firstStep 46 = .ok (.ifCond .eq 26, 3) := by decide +kernel
theorem dX9_firstStep_49 : decode cX9_firstStep 49 = .ok (.iload 6, 2) := by decide +kernel
theorem dX9_firstStep_51 : decode cX9_firstStep 51 = .ok (.aload_n 1, 1) := by decide +kernel
theorem dX9_firstStep_52 : decode cX9_firstStep 52 = .ok (.iload 5, 2) := by decide +kernel
theorem dX9_firstStep_54 : decode cX9_firstStep 54 = .ok (.invokestatic 79, 3) := by decide +kernel
theorem dX9_firstStep_57 : decode cX9_firstStep 57 = .ok (.iadd, 1) := by decide +kernel
theorem dX9_firstStep_58 : decode cX9_firstStep 58 = .ok (.aload_n 0, 1) := by decide +kernel
theorem dX9_firstStep_59 : decode cX9_firstStep 59 = .ok (.getfield 14, 3) := by decide +kernel
theorem dX9_firstStep_62 : decode cX9_firstStep 62 = .ok (.iload_n 3, 1) := by decide +kernel
theorem dX9_firstStep_63 : decode cX9_firstStep 63 = .ok (.invokevirtual 27, 3) := by decide +kernel
theorem dX9_firstStep_66 : decode cX9_firstStep 66 = .ok (.if_icmp .ne 6, 3) := by decide +kernel
theorem dX9_firstStep_69 : decode cX9_firstStep 69 = .ok (.iload 5, 2) := by decide +kernel
theorem dX9_firstStep_71 : decode cX9_firstStep 71 = .ok (.ireturn, 1) := by decide +kernel
theorem dX9_firstStep_72 : decode cX9_firstStep 72 = .ok (.iinc 5 1, 3) := by decide +kernel
theorem dX9_firstStep_75 : decode cX9_firstStep 75 = .ok (.goto (-61), 3) := by decide +kernel
theorem dX9_firstStep_78 : decode cX9_firstStep 78 = .ok (.bipush (-6), 2) := by decide +kernel
theorem dX9_firstStep_80 : decode cX9_firstStep 80 = .ok (.ireturn, 1) := by decide +kernel
theorem dJ6_bitCount_0f7a4_0 : decode cJ6_bitCount_0f7a4 0 = .ok (.iload_n 0, 1) := by decide +kernel
theorem dJ6_bitCount_0f7a4_1 : decode cJ6_bitCount_0f7a4 1 = .ok (.iload_n 0, 1) := by decide +kernel
theorem dJ6_bitCount_0f7a4_2 : decode cJ6_bitCount_0f7a4 2 = .ok (.iconst 1, 1) := by decide +kernel
theorem dJ6_bitCount_0f7a4_3 : decode cJ6_bitCount_0f7a4 3 = .ok (.iushr, 1) := by decide +kernel
theorem dJ6_bitCount_0f7a4_4 : decode cJ6_bitCount_0f7a4 4 = .ok (.ldc_w 265, 3) := by decide +kernel
theorem dJ6_bitCount_0f7a4_7 : decode cJ6_bitCount_0f7a4 7 = .ok (.iand, 1) := by decide +kernel
theorem dJ6_bitCount_0f7a4_8 : decode cJ6_bitCount_0f7a4 8 = .ok (.isub, 1) := by decide +kernel
theorem dJ6_bitCount_0f7a4_9 : decode cJ6_bitCount_0f7a4 9 = .ok (.istore_n 0, 1) := by decide +kernel
theorem dJ6_bitCount_0f7a4_10 : decode cJ6_bitCount_0f7a4 10 = .ok (.iload_n 0, 1) := by decide +kernel
theorem dJ6_bitCount_0f7a4_11 : decode cJ6_bitCount_0f7a4 11 = .ok (.ldc_w 266, 3) := by decide +kernel
theorem dJ6_bitCount_0f7a4_14 : decode cJ6_bitCount_0f7a4 14 = .ok (.iand, 1) := by decide +kernel
theorem dJ6_bitCount_0f7a4_15 : decode cJ6_bitCount_0f7a4 15 = .ok (.iload_n 0, 1) := by decide +kernel
theorem dJ6_bitCount_0f7a4_16 : decode cJ6_bitCount_0f7a4 16 = .ok (.iconst 2, 1) := by decide +kernel
theorem dJ6_bitCount_0f7a4_17 : decode cJ6_bitCount_0f7a4 17 = .ok (.iushr, 1) := by decide +kernel
theorem dJ6_bitCount_0f7a4_18 : decode cJ6_bitCount_0f7a4 18 = .ok (.ldc_w 266, 3) := by decide +kernel
theorem dJ6_bitCount_0f7a4_21 : decode cJ6_bitCount_0f7a4 21 = .ok (.iand, 1) := by decide +kernel
theorem dJ6_bitCount_0f7a4_22 : decode cJ6_bitCount_0f7a4 22 = .ok (.iadd, 1) := by decide +kernel
theorem dJ6_bitCount_0f7a4_23 : decode cJ6_bitCount_0f7a4 23 = .ok (.istore_n 0, 1) := by decide +kernel
theorem dJ6_bitCount_0f7a4_24 : decode cJ6_bitCount_0f7a4 24 = .ok (.iload_n 0, 1) := by decide +kernel
theorem dJ6_bitCount_0f7a4_25 : decode cJ6_bitCount_0f7a4 25 = .ok (.iload_n 0, 1) := by decide +kernel
theorem dJ6_bitCount_0f7a4_26 : decode cJ6_bitCount_0f7a4 26 = .ok (.iconst 4, 1) := by decide +kernel
theorem dJ6_bitCount_0f7a4_27 : decode cJ6_bitCount_0f7a4 27 = .ok (.iushr, 1) := by decide +kernel
theorem dJ6_bitCount_0f7a4_28 : decode cJ6_bitCount_0f7a4 28 = .ok (.iadd, 1) := by decide +kernel
theorem dJ6_bitCount_0f7a4_29 : decode cJ6_bitCount_0f7a4 29 = .ok (.ldc_w 267, 3) := by decide +kernel
theorem dJ6_bitCount_0f7a4_32 : decode cJ6_bitCount_0f7a4 32 = .ok (.iand, 1) := by decide +kernel
theorem dJ6_bitCount_0f7a4_33 : decode cJ6_bitCount_0f7a4 33 = .ok (.istore_n 0, 1) := by decide +kernel
theorem dJ6_bitCount_0f7a4_34 : decode cJ6_bitCount_0f7a4 34 = .ok (.iload_n 0, 1) := by decide +kernel
theorem dJ6_bitCount_0f7a4_35 : decode cJ6_bitCount_0f7a4 35 = .ok (.iload_n 0, 1) := by decide +kernel
theorem dJ6_bitCount_0f7a4_36 : decode cJ6_bitCount_0f7a4 36 = .ok (.bipush 8, 2) := by decide +kernel
theorem dJ6_bitCount_0f7a4_38 : decode cJ6_bitCount_0f7a4 38 = .ok (.iushr, 1) := by decide +kernel
theorem dJ6_bitCount_0f7a4_39 : decode cJ6_bitCount_0f7a4 39 = .ok (.iadd, 1) := by decide +kernel
theorem dJ6_bitCount_0f7a4_40 : decode cJ6_bitCount_0f7a4 40 = .ok (.istore_n 0, 1) := by decide +kernel
theorem dJ6_bitCount_0f7a4_41 : decode cJ6_bitCount_0f7a4 41 = .ok (.iload_n 0, 1) := by decide +kernel
theorem dJ6_bitCount_0f7a4_42 : decode cJ6_bitCount_0f7a4 42 = .ok (.iload_n 0, 1) := by decide +kernel
theorem dJ6_bitCount_0f7a4_43 : decode cJ6_bitCount_0f7a4 43 = .ok (.bipush 16, 2) := by decide +kernel
theorem dJ6_bitCount_0f7a4_45 : decode cJ6_bitCount_0f7a4 45 = .ok (.iushr, 1) := by decide +kernel
theorem dJ6_bitCount_0f7a4_46 : decode cJ6_bitCount_0f7a4 46 = .ok (.iadd, 1) := by decide +kernel
theorem dJ6_bitCount_0f7a4_47 : decode cJ6_bitCount_0f7a4 47 = .ok (.istore_n 0, 1) := by decide +kernel
theorem dJ6_bitCount_0f7a4_48 : decode cJ6_bitCount_0f7a4 48 = .ok (.iload_n 0, 1) := by decide +kernel
theorem dJ6_bitCount_0f7a4_49 : decode cJ6_bitCount_0f7a4 49 = .ok (.bipush 63, 2) := by decide +kernel
theorem dJ6_bitCount_0f7a4_51 : decode cJ6_bitCount_0f7a4 51 = .ok (.iand, 1) := by decide +kernel
theorem dJ6_bitCount_0f7a4_52 : decode cJ6_bitCount_0f7a4 52 = .ok (.ireturn, 1) := by decide +kernel
theorem dJ9_max_7cf53_0 : decode cJ9_max_7cf53 0 = .ok (.iload_n 0, 1) := by decide +kernel
theorem dJ9_max_7cf53_1 : decode cJ9_max_7cf53 1 = .ok (.iload_n 1, 1) := by decide +kernel
theorem dJ9_max_7cf53_2 : decode cJ9_max_7cf53 2 = .ok (.if_icmp .lt 7, 3) := by decide +kernel
theorem dJ9_max_7cf53_5 : decode cJ9_max_7cf53 5 = .ok (.iload_n 0, 1) := by decide +kernel
theorem dJ9_max_7cf53_6 : decode cJ9_max_7cf53 6 = .ok (.goto 4, 3) := by decide +kernel
theorem dJ9_max_7cf53_9 : decode cJ9_max_7cf53 9 = .ok (.iload_n 1, 1) := by decide +kernel
theorem dJ9_max_7cf53_10 : decode cJ9_max_7cf53 10 = .ok (.ireturn, 1) := by decide +kernel
theorem dJ9_min_7cf53_0 : decode cJ9_min_7cf53 0 = .ok (.iload_n 0, 1) := by decide +kernel
theorem dJ9_min_7cf53_1 : decode cJ9_min_7cf53 1 = .ok (.iload_n 1, 1) := by decide +kernel
theorem dJ9_min_7cf53_2 : decode cJ9_min_7cf53 2 = .ok (.if_icmp .gt 7, 3) := by decide +kernel
theorem dJ9_min_7cf53_5 : decode cJ9_min_7cf53 5 = .ok (.iload_n 0, 1) := by decide +kernel
theorem dJ9_min_7cf53_6 : decode cJ9_min_7cf53 6 = .ok (.goto 4, 3) := by decide +kernel
theorem dJ9_min_7cf53_9 : decode cJ9_min_7cf53 9 = .ok (.iload_n 1, 1) := by decide +kernel
theorem dJ9_min_7cf53_10 : decode cJ9_min_7cf53 10 = .ok (.ireturn, 1) := by decide +kernel
