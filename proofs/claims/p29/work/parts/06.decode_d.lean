theorem dX10_init_0 : decode cX10_init 0 = .ok (.aload_n 0, 1) := by decide +kernel
theorem dX10_init_1 : decode cX10_init 1 = .ok (.invokespecial 1, 3) := by decide +kernel
theorem dX10_init_4 : decode cX10_init 4 = .ok (.aload_n 0, 1) := by decide +kernel
theorem dX10_init_5 : decode cX10_init 5 = .ok (.new 7, 3) := by decide +kernel
theorem dX10_init_8 : decode cX10_init 8 = .ok (.dup, 1) := by decide +kernel
theorem dX10_init_9 : decode cX10_init 9 = .ok (.invokespecial 9, 3) := by decide +kernel
theorem dX10_init_12 : decode cX10_init 12 = .ok (.putfield 10, 3) := by decide +kernel
theorem dX10_init_15 : decode cX10_init 15 = .ok (.aload_n 0, 1) := by decide +kernel
theorem dX10_init_16 : decode cX10_init 16 = .ok (.new 16, 3) := by decide +kernel
theorem dX10_init_19 : decode cX10_init 19 = .ok (.dup, 1) := by decide +kernel
theorem dX10_init_20 : decode cX10_init 20 = .ok (.invokespecial 18, 3) := by decide +kernel
theorem dX10_init_23 : decode cX10_init 23 = .ok (.putfield 19, 3) := by decide +kernel
theorem dX10_init_26 : decode cX10_init 26 = .ok (.aload_n 0, 1) := by decide +kernel
theorem dX10_init_27 : decode cX10_init 27 = .ok (.new 23, 3) := by decide +kernel
theorem dX10_init_30 : decode cX10_init 30 = .ok (.dup, 1) := by decide +kernel
theorem dX10_init_31 : decode cX10_init 31 = .ok (.invokespecial 25, 3) := by decide +kernel
theorem dX10_init_34 : decode cX10_init 34 = .ok (.putfield 26, 3) := by decide +kernel
theorem dX10_init_37 : decode cX10_init 37 = .ok (.aload_n 0, 1) := by decide +kernel
theorem dX10_init_38 : decode cX10_init 38 = .ok (.new 30, 3) := by decide +kernel
theorem dX10_init_41 : decode cX10_init 41 = .ok (.dup, 1) := by decide +kernel
theorem dX10_init_42 : decode cX10_init 42 = .ok (.iconst 2, 1) := by decide +kernel
theorem dX10_init_43 : decode cX10_init 43 = .ok (.invokespecial 32, 3) := by decide +kernel
theorem dX10_init_46 : decode cX10_init 46 = .ok (.putfield 35, 3) := by decide +kernel
theorem dX10_init_49 : decode cX10_init 49 = .ok (.aload_n 0, 1) := by decide +kernel
theorem dX10_init_50 : decode cX10_init 50 = .ok (.new 39, 3) := by decide +kernel
theorem dX10_init_53 : decode cX10_init 53 = .ok (.dup, 1) := by decide +kernel
theorem dX10_init_54 : decode cX10_init 54 = .ok (.invokespecial 41, 3) := by decide +kernel
theorem dX10_init_57 : decode cX10_init 57 = .ok (.putfield 42, 3) := by decide +kernel
theorem dX10_init_60 : decode cX10_init 60 = .ok (.return_, 1) := by decide +kernel
theorem dX10_set_0 : decode cX10_set 0 = .ok (.iload_n 1, 1) := by decide +kernel
theorem dX10_set_1 : decode cX10_set 1 = .ok (.iload_n 2, 1) := by decide +kernel
theorem dX10_set_2 : decode cX10_set 2 = .ok (.invokestatic 46, 3) := by decide +kernel
theorem dX10_set_5 : decode cX10_set 5 = .ok (.ifCond .ne 6, 3) := by decide +kernel
theorem dX10_set_8 : decode cX10_set 8 = .ok (.bipush (-2), 2) := by decide +kernel
theorem dX10_set_10 : decode cX10_set 10 = .ok (.ireturn, 1) := by decide +kernel
theorem dX10_set_11 : decode cX10_set 11 = .ok (.aload_n 0, 1) := by decide +kernel
theorem dX10_set_12 : decode cX10_set 12 = .ok (.getfield 26, 3) := by decide +kernel
theorem dX10_set_15 : decode cX10_set 15 = .ok (.aload_n 0, 1) := by decide +kernel
theorem dX10_set_16 : decode cX10_set 16 = .ok (.getfield 10, 3) := by decide +kernel
theorem dX10_set_19 : decode cX10_set 19 = .ok (.invokevirtual 50, 3) := by decide +kernel
theorem dX10_set_22 : decode cX10_set 22 = .ok (.aload_n 0, 1) := by decide +kernel
theorem dX10_set_23 : decode cX10_set 23 = .ok (.getfield 10, 3) := by decide +kernel
theorem dX10_set_26 : decode cX10_set 26 = .ok (.getfield 54, 3) := by decide +kernel
theorem dX10_set_29 : decode cX10_set 29 = .ok (.iload_n 1, 1) := by decide +kernel
theorem dX10_set_30 : decode cX10_set 30 = .ok (.invokevirtual 58, 3) := by decide +kernel
theorem dX10_set_33 : decode cX10_set 33 = .ok (.istore_n 3, 1) := by decide +kernel
theorem dX10_set_34 : decode cX10_set 34 = .ok (.aload_n 0, 1) := by decide +kernel
theorem dX10_set_35 : decode cX10_set 35 = .ok (.getfield 10, 3) := by decide +kernel
theorem dX10_set_38 : decode cX10_set 38 = .ok (.getfield 54, 3) := by decide +kernel
theorem dX10_set_41 : decode cX10_set 41 = .ok (.iload_n 1, 1) := by decide +kernel
theorem dX10_set_42 : decode cX10_set 42 = .ok (.iload_n 2, 1) := by decide +kernel
theorem dX10_set_43 : decode cX10_set 43 = .ok (.invokevirtual 64, 3) := by decide +kernel
theorem dX10_set_46 : decode cX10_set 46 = .ok (.iload_n 3, 1) := by decide +kernel
theorem dX10_set_47 : decode cX10_set 47 = .ok (.ireturn, 1) := by decide +kernel
theorem dX10_lay_0 : decode cX10_lay 0 = .ok (.iload_n 1, 1) := by decide +kernel
theorem dX10_lay_1 : decode cX10_lay 1 = .ok (.invokestatic 68, 3) := by decide +kernel
theorem dX10_lay_4 : decode cX10_lay 4 = .ok (.ifCond .eq 10, 3) := by decide +kernel
theorem dX10_lay_7 : decode cX10_lay 7 = .ok (.iload_n 2, 1) := by decide +kernel
theorem dX10_lay_8 : decode cX10_lay 8 = .ok (.invokestatic 68, 3) := by decide +kernel
theorem dX10_lay_11 : decode cX10_lay 11 = .ok (.ifCond .ne 5, 3) := by decide +kernel
theorem dX10_lay_14 : decode cX10_lay 14 = .ok (.iconst (-1), 1) := by decide +kernel
theorem dX10_lay_15 : decode cX10_lay 15 = .ok (.ireturn, 1) := by decide +kernel
theorem dX10_lay_16 : decode cX10_lay 16 = .ok (.iload_n 1, 1) := by decide +kernel
theorem dX10_lay_17 : decode cX10_lay 17 = .ok (.iload_n 2, 1) := by decide +kernel
theorem dX10_lay_18 : decode cX10_lay 18 = .ok (.if_icmp .eq 24, 3) := by decide +kernel
theorem dX10_lay_21 : decode cX10_lay 21 = .ok (.iload_n 3, 1) := by decide +kernel
theorem dX10_lay_22 : decode cX10_lay 22 = .ok (.iconst 1, 1) := by decide +kernel
theorem dX10_lay_23 : decode cX10_lay 23 = .ok (.bipush 9, 2) := by decide +kernel
theorem dX10_lay_25 : decode cX10_lay 25 = .ok (.invokestatic 72, 3) := by decide +kernel
theorem dX10_lay_28 : decode cX10_lay 28 = .ok (.ifCond .eq 14, 3) := by decide +kernel
theorem dX10_lay_31 : decode cX10_lay 31 = .ok (.iload 4, 2) := by decide +kernel
theorem dX10_lay_33 : decode cX10_lay 33 = .ok (.iconst 1, 1) := by decide +kernel
theorem dX10_lay_34 : decode cX10_lay 34 = .ok (.bipush 9, 2) := by decide +kernel
theorem dX10_lay_36 : decode cX10_lay 36 = .ok (.invokestatic 72, 3) := by decide +kernel
theorem dX10_lay_39 : decode cX10_lay 39 = .ok (.ifCond .ne 6, 3) := by decide +kernel
theorem dX10_lay_42 : decode cX10_lay 42 = .ok (.bipush (-2), 2) := by decide +kernel
theorem dX10_lay_44 : decode cX10_lay 44 = .ok (.ireturn, 1) := by decide +kernel
theorem dX10_lay_45 : decode cX10_lay 45 = .ok (.aload_n 0, 1) := by decide +kernel
theorem dX10_lay_46 : decode cX10_lay 46 = .ok (.getfield 10, 3) := by decide +kernel
theorem dX10_lay_49 : decode cX10_lay 49 = .ok (.getfield 76, 3) := by decide +kernel
theorem dX10_lay_52 : decode cX10_lay 52 = .ok (.getfield 80, 3) := by decide +kernel
theorem dX10_lay_55 : decode cX10_lay 55 = .ok (.bipush 20, 2) := by decide +kernel
theorem dX10_lay_57 : decode cX10_lay 57 = .ok (.if_icmp .lt 6, 3) := by decide +kernel
theorem dX10_lay_60 : decode cX10_lay 60 = .ok (.bipush (-4), 2) := by decide +kernel
theorem dX10_lay_62 : decode cX10_lay 62 = .ok (.ireturn, 1) := by decide +kernel
theorem dX10_lay_63 : decode cX10_lay 63 = .ok (.aload_n 0, 1) := by decide +kernel
theorem dX10_lay_64 : decode cX10_lay 64 = .ok (.getfield 26, 3) := by decide +kernel
theorem dX10_lay_67 : decode cX10_lay 67 = .ok (.aload_n 0, 1) := by decide +kernel
theorem dX10_lay_68 : decode cX10_lay 68 = .ok (.getfield 10, 3) := by decide +kernel
theorem dX10_lay_71 : decode cX10_lay 71 = .ok (.invokevirtual 50, 3) := by decide +kernel
theorem dX10_lay_74 : decode cX10_lay 74 = .ok (.aload_n 0, 1) := by decide +kernel
theorem dX10_lay_75 : decode cX10_lay 75 = .ok (.getfield 10, 3) := by decide +kernel
theorem dX10_lay_78 : decode cX10_lay 78 = .ok (.getfield 76, 3) := by decide +kernel
theorem dX10_lay_81 : decode cX10_lay 81 = .ok (.iload_n 1, 1) := by decide +kernel
theorem dX10_lay_82 : decode cX10_lay 82 = .ok (.iload_n 2, 1) := by decide +kernel
theorem dX10_lay_83 : decode cX10_lay 83 = .ok (.iload_n 3, 1) := by decide +kernel
theorem dX10_lay_84 : decode cX10_lay 84 = .ok (.iload 4, 2) := by decide +kernel
theorem dX10_lay_86 : decode cX10_lay 86 = .ok (.invokevirtual 86, 3) := by decide +kernel
theorem dX10_lay_89 : decode cX10_lay 89 = .ok (.aload_n 0, 1) := by decide +kernel
theorem dX10_lay_90 : decode cX10_lay 90 = .ok (.getfield 10, 3) := by decide +kernel
theorem dX10_lay_93 : decode cX10_lay 93 = .ok (.getfield 76, 3) := by decide +kernel
theorem dX10_lay_96 : decode cX10_lay 96 = .ok (.getfield 80, 3) := by decide +kernel
theorem dX10_lay_99 : decode cX10_lay 99 = .ok (.iconst 1, 1) := by decide +kernel
theorem dX10_lay_100 : decode cX10_lay 100 = .ok (.isub, 1) := by decide +kernel
theorem dX10_lay_101 : decode cX10_lay 101 = .ok (.ireturn, 1) := by decide +kernel
theorem dX10_takeUp_0 : decode cX10_takeUp 0 = .ok (.aload_n 0, 1) := by decide +kernel
theorem dX10_takeUp_1 : decode cX10_takeUp 1 = .ok (.getfield 10, 3) := by decide +kernel
theorem dX10_takeUp_4 : decode cX10_takeUp 4 = .ok (.getfield 76, 3) := by decide +kernel
theorem dX10_takeUp_7 : decode cX10_takeUp 7 = .ok (.iload_n 1, 1) := by decide +kernel
theorem dX10_takeUp_8 : decode cX10_takeUp 8 = .ok (.invokevirtual 104, 3) := by decide +kernel
theorem dX10_takeUp_11 : decode cX10_takeUp 11 = .ok (.ifCond .ne 5, 3) := by decide +kernel
theorem dX10_takeUp_14 : decode cX10_takeUp 14 = .ok (.iconst (-1), 1) := by decide +kernel
theorem dX10_takeUp_15 : decode cX10_takeUp 15 = .ok (.ireturn, 1) := by decide +kernel
theorem dX10_takeUp_16 : decode cX10_takeUp 16 = .ok (.aload_n 0, 1) := by decide +kernel
theorem dX10_takeUp_17 : decode cX10_takeUp 17 = .ok (.getfield 26, 3) := by decide +kernel
theorem dX10_takeUp_20 : decode cX10_takeUp 20 = .ok (.aload_n 0, 1) := by decide +kernel
theorem dX10_takeUp_21 : decode cX10_takeUp 21 = .ok (.getfield 10, 3) := by decide +kernel
theorem dX10_takeUp_24 : decode cX10_takeUp 24 = .ok (.invokevirtual 50, 3) := by decide +kernel
theorem dX10_takeUp_27 : decode cX10_takeUp 27 = .ok (.aload_n 0, 1) := by decide +kernel
theorem dX10_takeUp_28 : decode cX10_takeUp 28 = .ok (.getfield 10, 3) := by decide +kernel
theorem dX10_takeUp_31 : decode cX10_takeUp 31 = .ok (.getfield 76, 3) := by decide +kernel
theorem dX10_takeUp_34 : decode cX10_takeUp 34 = .ok (.iload_n 1, 1) := by decide +kernel
theorem dX10_takeUp_35 : decode cX10_takeUp 35 = .ok (.invokevirtual 107, 3) := by decide +kernel
theorem dX10_takeUp_38 : decode cX10_takeUp 38 = .ok (.aload_n 0, 1) := by decide +kernel
theorem dX10_takeUp_39 : decode cX10_takeUp 39 = .ok (.getfield 10, 3) := by decide +kernel
theorem dX10_takeUp_42 : decode cX10_takeUp 42 = .ok (.getfield 110, 3) := by decide +kernel
theorem dX10_takeUp_45 : decode cX10_takeUp 45 = .ok (.iload_n 1, 1) := by decide +kernel
theorem dX10_takeUp_46 : decode cX10_takeUp 46 = .ok (.invokevirtual 114, 3) := by decide +kernel
theorem dX10_takeUp_49 : decode cX10_takeUp 49 = .ok (.aload_n 0, 1) := by decide +kernel
theorem dX10_takeUp_50 : decode cX10_takeUp 50 = .ok (.getfield 10, 3) := by decide +kernel
theorem dX10_takeUp_53 : decode cX10_takeUp 53 = .ok (.getfield 76, 3) := by decide +kernel
theorem dX10_takeUp_56 : decode cX10_takeUp 56 = .ok (.getfield 80, 3) := by decide +kernel
theorem dX10_takeUp_59 : decode cX10_takeUp 59 = .ok (.ireturn, 1) := by decide +kernel
theorem dX10_sleeper_0 : decode cX10_sleeper 0 = .ok (.iload_n 1, 1) := by decide +kernel
theorem dX10_sleeper_1 : decode cX10_sleeper 1 = .ok (.invokestatic 68, 3) := by decide +kernel
theorem dX10_sleeper_4 : decode cX10_sleeper 4 = .ok (.ifCond .ne 5, 3) := by decide +kernel
theorem dX10_sleeper_7 : decode cX10_sleeper 7 = .ok (.iconst (-1), 1) := by decide +kernel
theorem dX10_sleeper_8 : decode cX10_sleeper 8 = .ok (.ireturn, 1) := by decide +kernel
theorem dX10_sleeper_9 : decode cX10_sleeper 9 = .ok (.iload_n 2, 1) := by decide +kernel
theorem dX10_sleeper_10 : decode cX10_sleeper 10 = .ok (.iconst 1, 1) := by decide +kernel
theorem dX10_sleeper_11 : decode cX10_sleeper 11 = .ok (.bipush 9, 2) := by decide +kernel
theorem dX10_sleeper_13 : decode cX10_sleeper 13 = .ok (.invokestatic 72, 3) := by decide +kernel
theorem dX10_sleeper_16 : decode cX10_sleeper 16 = .ok (.ifCond .ne 6, 3) := by decide +kernel
theorem dX10_sleeper_19 : decode cX10_sleeper 19 = .ok (.bipush (-2), 2) := by decide +kernel
theorem dX10_sleeper_21 : decode cX10_sleeper 21 = .ok (.ireturn, 1) := by decide +kernel
theorem dX10_sleeper_22 : decode cX10_sleeper 22 = .ok (.aload_n 0, 1) := by decide +kernel
theorem dX10_sleeper_23 : decode cX10_sleeper 23 = .ok (.getfield 10, 3) := by decide +kernel
theorem dX10_sleeper_26 : decode cX10_sleeper 26 = .ok (.getfield 119, 3) := by decide +kernel
theorem dX10_sleeper_29 : decode cX10_sleeper 29 = .ok (.getfield 123, 3) := by decide +kernel
theorem dX10_sleeper_32 : decode cX10_sleeper 32 = .ok (.iconst 5, 1) := by decide +kernel
theorem dX10_sleeper_33 : decode cX10_sleeper 33 = .ok (.if_icmp .lt 6, 3) := by decide +kernel
theorem dX10_sleeper_36 : decode cX10_sleeper 36 = .ok (.bipush (-4), 2) := by decide +kernel
theorem dX10_sleeper_38 : decode cX10_sleeper 38 = .ok (.ireturn, 1) := by decide +kernel
theorem dX10_sleeper_39 : decode cX10_sleeper 39 = .ok (.aload_n 0, 1) := by decide +kernel
theorem dX10_sleeper_40 : decode cX10_sleeper 40 = .ok (.getfield 26, 3) := by decide +kernel
theorem dX10_sleeper_43 : decode cX10_sleeper 43 = .ok (.aload_n 0, 1) := by decide +kernel
theorem dX10_sleeper_44 : decode cX10_sleeper 44 = .ok (.getfield 10, 3) := by decide +kernel
theorem dX10_sleeper_47 : decode cX10_sleeper 47 = .ok (.invokevirtual 50, 3) := by decide +kernel
theorem dX10_sleeper_50 : decode cX10_sleeper 50 = .ok (.aload_n 0, 1) := by decide +kernel
theorem dX10_sleeper_51 : decode cX10_sleeper 51 = .ok (.getfield 10, 3) := by decide +kernel
theorem dX10_sleeper_54 : decode cX10_sleeper 54 = .ok (.getfield 119, 3) := by decide +kernel
theorem dX10_sleeper_57 : decode cX10_sleeper 57 = .ok (.iload_n 1, 1) := by decide +kernel
theorem dX10_sleeper_58 : decode cX10_sleeper 58 = .ok (.iload_n 2, 1) := by decide +kernel
theorem dX10_sleeper_59 : decode cX10_sleeper 59 = .ok (.invokevirtual 128, 3) := by decide +kernel
theorem dX10_sleeper_62 : decode cX10_sleeper 62 = .ok (.aload_n 0, 1) := by decide +kernel
theorem dX10_sleeper_63 : decode cX10_sleeper 63 = .ok (.getfield 10, 3) := by decide +kernel
theorem dX10_sleeper_66 : decode cX10_sleeper 66 = .ok (.getfield 119, 3) := by decide +kernel
theorem dX10_sleeper_69 : decode cX10_sleeper 69 = .ok (.getfield 123, 3) := by decide +kernel
theorem dX10_sleeper_72 : decode cX10_sleeper 72 = .ok (.iconst 1, 1) := by decide +kernel
theorem dX10_sleeper_73 : decode cX10_sleeper 73 = .ok (.isub, 1) := by decide +kernel
theorem dX10_sleeper_74 : decode cX10_sleeper 74 = .ok (.ireturn, 1) := by decide +kernel
theorem dX10_put_0 : decode cX10_put 0 = .ok (.iload_n 1, 1) := by decide +kernel
theorem dX10_put_1 : decode cX10_put 1 = .ok (.invokestatic 130, 3) := by decide +kernel
theorem dX10_put_4 : decode cX10_put 4 = .ok (.ifCond .eq 10, 3) := by decide +kernel
theorem dX10_put_7 : decode cX10_put 7 = .ok (.iload_n 2, 1) := by decide +kernel
theorem dX10_put_8 : decode cX10_put 8 = .ok (.invokestatic 68, 3) := by decide +kernel
theorem dX10_put_11 : decode cX10_put 11 = .ok (.ifCond .ne 5, 3) := by decide +kernel
theorem dX10_put_14 : decode cX10_put 14 = .ok (.iconst (-1), 1) := by decide +kernel
theorem dX10_put_15 : decode cX10_put 15 = .ok (.ireturn, 1) := by decide +kernel
theorem dX10_put_16 : decode cX10_put 16 = .ok (.aload_n 0, 1) := by decide +kernel
theorem dX10_put_17 : decode cX10_put 17 = .ok (.getfield 26, 3) := by decide +kernel
theorem dX10_put_20 : decode cX10_put 20 = .ok (.aload_n 0, 1) := by decide +kernel
theorem dX10_put_21 : decode cX10_put 21 = .ok (.getfield 10, 3) := by decide +kernel
theorem dX10_put_24 : decode cX10_put 24 = .ok (.invokevirtual 50, 3) := by decide +kernel
theorem dX10_put_27 : decode cX10_put 27 = .ok (.aload_n 0, 1) := by decide +kernel
theorem dX10_put_28 : decode cX10_put 28 = .ok (.getfield 10, 3) := by decide +kernel
theorem dX10_put_31 : decode cX10_put 31 = .ok (.getfield 110, 3) := by decide +kernel
theorem dX10_put_34 : decode cX10_put 34 = .ok (.getfield 133, 3) := by decide +kernel
theorem dX10_put_37 : decode cX10_put 37 = .ok (.iload_n 1, 1) := by decide +kernel
theorem dX10_put_38 : decode cX10_put 38 = .ok (.invokevirtual 58, 3) := by decide +kernel
theorem dX10_put_41 : decode cX10_put 41 = .ok (.istore_n 3, 1) := by decide +kernel
theorem dX10_put_42 : decode cX10_put 42 = .ok (.aload_n 0, 1) := by decide +kernel
theorem dX10_put_43 : decode cX10_put 43 = .ok (.getfield 10, 3) := by decide +kernel
theorem dX10_put_46 : decode cX10_put 46 = .ok (.getfield 110, 3) := by decide +kernel
theorem dX10_put_49 : decode cX10_put 49 = .ok (.getfield 133, 3) := by decide +kernel
theorem dX10_put_52 : decode cX10_put 52 = .ok (.iload_n 1, 1) := by decide +kernel
theorem dX10_put_53 : decode cX10_put 53 = .ok (.iload_n 2, 1) := by decide +kernel
theorem dX10_put_54 : decode cX10_put 54 = .ok (.invokevirtual 64, 3) := by decide +kernel
theorem dX10_put_57 : decode cX10_put 57 = .ok (.iload_n 3, 1) := by decide +kernel
theorem dX10_put_58 : decode cX10_put 58 = .ok (.ireturn, 1) := by decide +kernel
theorem dX10_glide_0 : decode cX10_glide 0 = .ok (.iload_n 1, 1) := by decide +kernel
theorem dX10_glide_1 : decode cX10_glide 1 = .ok (.invokestatic 130, 3) := by decide +kernel
theorem dX10_glide_4 : decode cX10_glide 4 = .ok (.ifCond .eq 17, 3) := by decide +kernel
theorem dX10_glide_7 : decode cX10_glide 7 = .ok (.aload_n 0, 1) := by decide +kernel
theorem dX10_glide_8 : decode cX10_glide 8 = .ok (.getfield 10, 3) := by decide +kernel
theorem dX10_glide_11 : decode cX10_glide 11 = .ok (.getfield 76, 3) := by decide +kernel
theorem dX10_glide_14 : decode cX10_glide 14 = .ok (.iload_n 2, 1) := by decide +kernel
theorem dX10_glide_15 : decode cX10_glide 15 = .ok (.invokevirtual 104, 3) := by decide +kernel
theorem dX10_glide_18 : decode cX10_glide 18 = .ok (.ifCond .ne 5, 3) := by decide +kernel
theorem dX10_glide_21 : decode cX10_glide 21 = .ok (.iconst (-1), 1) := by decide +kernel
theorem dX10_glide_22 : decode cX10_glide 22 = .ok (.ireturn, 1) := by decide +kernel
theorem dX10_glide_23 : decode cX10_glide 23 = .ok (.aload_n 0, 1) := by decide +kernel
theorem dX10_glide_24 : decode cX10_glide 24 = .ok (.getfield 10, 3) := by decide +kernel
theorem dX10_glide_27 : decode cX10_glide 27 = .ok (.iload_n 1, 1) := by decide +kernel
theorem dX10_glide_28 : decode cX10_glide 28 = .ok (.invokevirtual 136, 3) := by decide +kernel
theorem dX10_glide_31 : decode cX10_glide 31 = .ok (.iload_n 2, 1) := by decide +kernel
theorem dX10_glide_32 : decode cX10_glide 32 = .ok (.invokestatic 139, 3) := by decide +kernel
theorem dX10_glide_35 : decode cX10_glide 35 = .ok (.ifCond .ne 6, 3) := by decide +kernel
theorem dX10_glide_38 : decode cX10_glide 38 = .ok (.bipush (-5), 2) := by decide +kernel
theorem dX10_glide_40 : decode cX10_glide 40 = .ok (.ireturn, 1) := by decide +kernel
theorem dX10_glide_41 : decode cX10_glide 41 = .ok (.aload_n 0, 1) := by decide +kernel
theorem dX10_glide_42 : decode cX10_glide 42 = .ok (.getfield 26, 3) := by decide +kernel
theorem dX10_glide_45 : decode cX10_glide 45 = .ok (.aload_n 0, 1) := by decide +kernel
theorem dX10_glide_46 : decode cX10_glide 46 = .ok (.getfield 10, 3) := by decide +kernel
theorem dX10_glide_49 : decode cX10_glide 49 = .ok (.invokevirtual 50, 3) := by decide +kernel
theorem dX10_glide_52 : decode cX10_glide 52 = .ok (.aload_n 0, 1) := by decide +kernel
theorem dX10_glide_53 : decode cX10_glide 53 = .ok (.getfield 10, 3) := by decide +kernel
theorem dX10_glide_56 : decode cX10_glide 56 = .ok (.iload_n 1, 1) := by decide +kernel
theorem dX10_glide_57 : decode cX10_glide 57 = .ok (.iload_n 2, 1) := by decide +kernel
theorem dX10_glide_58 : decode cX10_glide 58 = .ok (.invokevirtual 142, 3) := by decide +kernel
theorem dX10_glide_61 : decode cX10_glide 61 = .ok (.ireturn, 1) := by decide +kernel
theorem dX10_go_0 : decode cX10_go 0 = .ok (.iload_n 1, 1) := by decide +kernel
theorem dX10_go_1 : decode cX10_go 1 = .ok (.invokestatic 130, 3) := by decide +kernel
theorem dX10_go_4 : decode cX10_go 4 = .ok (.ifCond .eq 10, 3) := by decide +kernel
theorem dX10_go_7 : decode cX10_go 7 = .ok (.iload_n 2, 1) := by decide +kernel
theorem dX10_go_8 : decode cX10_go 8 = .ok (.invokestatic 68, 3) := by decide +kernel
theorem dX10_go_11 : decode cX10_go 11 = .ok (.ifCond .ne 5, 3) := by decide +kernel
theorem dX10_go_14 : decode cX10_go 14 = .ok (.iconst (-1), 1) := by decide +kernel
theorem dX10_go_15 : decode cX10_go 15 = .ok (.ireturn, 1) := by decide +kernel
theorem dX10_go_16 : decode cX10_go 16 = .ok (.aload_n 0, 1) := by decide +kernel
theorem dX10_go_17 : decode cX10_go 17 = .ok (.iload_n 1, 1) := by decide +kernel
theorem dX10_go_18 : decode cX10_go 18 = .ok (.iload_n 2, 1) := by decide +kernel
theorem dX10_go_19 : decode cX10_go 19 = .ok (.invokevirtual 146, 3) := by decide +kernel
theorem dX10_go_22 : decode cX10_go 22 = .ok (.aload_n 0, 1) := by decide +kernel
theorem dX10_go_23 : decode cX10_go 23 = .ok (.getfield 42, 3) := by decide +kernel
theorem dX10_go_26 : decode cX10_go 26 = .ok (.getfield 149, 3) := by decide +kernel
theorem dX10_go_29 : decode cX10_go 29 = .ok (.ifCond .ne 6, 3) := by decide +kernel
theorem dX10_go_32 : decode cX10_go 32 = .ok (.bipush (-5), 2) := by decide +kernel
theorem dX10_go_34 : decode cX10_go 34 = .ok (.ireturn, 1) := by decide +kernel
theorem dX10_go_35 : decode cX10_go 35 = .ok (.aload_n 0, 1) := by decide +kernel
theorem dX10_go_36 : decode cX10_go 36 = .ok (.getfield 26, 3) := by decide +kernel
theorem dX10_go_39 : decode cX10_go 39 = .ok (.aload_n 0, 1) := by decide +kernel
theorem dX10_go_40 : decode cX10_go 40 = .ok (.getfield 10, 3) := by decide +kernel
theorem dX10_go_43 : decode cX10_go 43 = .ok (.invokevirtual 50, 3) := by decide +kernel
theorem dX10_go_46 : decode cX10_go 46 = .ok (.iconst 0, 1) := by decide +kernel
theorem dX10_go_47 : decode cX10_go 47 = .ok (.istore_n 3, 1) := by decide +kernel
theorem dX10_go_48 : decode cX10_go 48 = .ok (.iload_n 3, 1) := by decide +kernel
theorem dX10_go_49 : decode cX10_go 49 = .ok (.aload_n 0, 1) := by decide +kernel
theorem dX10_go_50 : decode cX10_go 50 = .ok (.getfield 42, 3) := by decide +kernel
theorem dX10_go_53 : decode cX10_go 53 = .ok (.getfield 153, 3) := by decide +kernel
theorem dX10_go_56 : decode cX10_go 56 = .ok (.if_icmp .ge 52, 3) := by decide +kernel
theorem dX10_go_59 : decode cX10_go 59 = .ok (.aload_n 0, 1) := by decide +kernel
theorem dX10_go_60 : decode cX10_go 60 = .ok (.getfield 42, 3) := by decide +kernel
theorem dX10_go_63 : decode cX10_go 63 = .ok (.getfield 154, 3) := by decide +kernel
theorem dX10_go_66 : decode cX10_go 66 = .ok (.iload_n 3, 1) := by decide +kernel
theorem dX10_go_67 : decode cX10_go 67 = .ok (.invokevirtual 58, 3) := by decide +kernel
theorem dX10_go_70 : decode cX10_go 70 = .ok (.istore 4, 2) := by decide +kernel
theorem dX10_go_72 : decode cX10_go 72 = .ok (.aload_n 0, 1) := by decide +kernel
theorem dX10_go_73 : decode cX10_go 73 = .ok (.getfield 10, 3) := by decide +kernel
theorem dX10_go_76 : decode cX10_go 76 = .ok (.iload_n 1, 1) := by decide +kernel
theorem dX10_go_77 : decode cX10_go 77 = .ok (.invokevirtual 136, 3) := by decide +kernel
theorem dX10_go_80 : decode cX10_go 80 = .ok (.iload 4, 2) := by decide +kernel
theorem dX10_go_82 : decode cX10_go 82 = .ok (.invokestatic 139, 3) := by decide +kernel
theorem dX10_go_85 : decode cX10_go 85 = .ok (.ifCond .ne 6, 3) := by decide +kernel
theorem dX10_go_88 : decode cX10_go 88 = .ok (.goto 20, 3) := by decide +kernel
theorem dX10_go_91 : decode cX10_go 91 = .ok (.aload_n 0, 1) := by decide +kernel
theorem dX10_go_92 : decode cX10_go 92 = .ok (.getfield 10, 3) := by decide +kernel
theorem dX10_go_95 : decode cX10_go 95 = .ok (.iload_n 1, 1) := by decide +kernel
theorem dX10_go_96 : decode cX10_go 96 = .ok (.iload 4, 2) := by decide +kernel
theorem dX10_go_98 : decode cX10_go 98 = .ok (.invokevirtual 142, 3) := by decide +kernel
theorem dX10_go_101 : decode cX10_go 101 = .ok (.pop, 1) := by decide +kernel
theorem dX10_go_102 : decode cX10_go 102 = .ok (.iinc 3 1, 3) := by decide +kernel
theorem dX10_go_105 : decode cX10_go 105 = .ok (.goto (-57), 3) := by decide +kernel
theorem dX10_go_108 : decode cX10_go 108 = .ok (.aload_n 0, 1) := by decide +kernel
theorem dX10_go_109 : decode cX10_go 109 = .ok (.getfield 10, 3) := by decide +kernel
theorem dX10_go_112 : decode cX10_go 112 = .ok (.getfield 110, 3) := by decide +kernel
theorem dX10_go_115 : decode cX10_go 115 = .ok (.getfield 133, 3) := by decide +kernel
theorem dX10_go_118 : decode cX10_go 118 = .ok (.iload_n 1, 1) := by decide +kernel
theorem dX10_go_119 : decode cX10_go 119 = .ok (.invokevirtual 58, 3) := by decide +kernel
theorem dX10_go_122 : decode cX10_go 122 = .ok (.ireturn, 1) := by decide +kernel
theorem dX10_pass_0 : decode cX10_pass 0 = .ok (.iload_n 1, 1) := by decide +kernel
theorem dX10_pass_1 : decode cX10_pass 1 = .ok (.iconst 1, 1) := by decide +kernel
theorem dX10_pass_2 : decode cX10_pass 2 = .ok (.sipush 200, 3) := by decide +kernel
theorem dX10_pass_5 : decode cX10_pass 5 = .ok (.invokestatic 72, 3) := by decide +kernel
theorem dX10_pass_8 : decode cX10_pass 8 = .ok (.ifCond .ne 6, 3) := by decide +kernel
theorem dX10_pass_11 : decode cX10_pass 11 = .ok (.bipush (-2), 2) := by decide +kernel
theorem dX10_pass_13 : decode cX10_pass 13 = .ok (.ireturn, 1) := by decide +kernel
theorem dX10_pass_14 : decode cX10_pass 14 = .ok (.aload_n 0, 1) := by decide +kernel
theorem dX10_pass_15 : decode cX10_pass 15 = .ok (.getfield 10, 3) := by decide +kernel
theorem dX10_pass_18 : decode cX10_pass 18 = .ok (.getfield 157, 3) := by decide +kernel
theorem dX10_pass_21 : decode cX10_pass 21 = .ok (.iload_n 1, 1) := by decide +kernel
theorem dX10_pass_22 : decode cX10_pass 22 = .ok (.iadd, 1) := by decide +kernel
theorem dX10_pass_23 : decode cX10_pass 23 = .ok (.ldc 160, 2) := by decide +kernel
theorem dX10_pass_25 : decode cX10_pass 25 = .ok (.if_icmp .le 6, 3) := by decide +kernel
theorem dX10_pass_28 : decode cX10_pass 28 = .ok (.bipush (-4), 2) := by decide +kernel
theorem dX10_pass_30 : decode cX10_pass 30 = .ok (.ireturn, 1) := by decide +kernel
theorem dX10_pass_31 : decode cX10_pass 31 = .ok (.aload_n 0, 1) := by decide +kernel
theorem dX10_pass_32 : decode cX10_pass 32 = .ok (.getfield 26, 3) := by decide +kernel
theorem dX10_pass_35 : decode cX10_pass 35 = .ok (.aload_n 0, 1) := by decide +kernel
theorem dX10_pass_36 : decode cX10_pass 36 = .ok (.getfield 10, 3) := by decide +kernel
theorem dX10_pass_39 : decode cX10_pass 39 = .ok (.invokevirtual 50, 3) := by decide +kernel
theorem dX10_pass_42 : decode cX10_pass 42 = .ok (.aload_n 0, 1) := by decide +kernel
theorem dX10_pass_43 : decode cX10_pass 43 = .ok (.getfield 10, 3) := by decide +kernel
theorem dX10_pass_46 : decode cX10_pass 46 = .ok (.iload_n 1, 1) := by decide +kernel
theorem dX10_pass_47 : decode cX10_pass 47 = .ok (.invokevirtual 161, 3) := by decide +kernel
theorem dX10_pass_50 : decode cX10_pass 50 = .ok (.ireturn, 1) := by decide +kernel
theorem dX10_board_0 : decode cX10_board 0 = .ok (.aload_n 0, 1) := by decide +kernel
theorem dX10_board_1 : decode cX10_board 1 = .ok (.getfield 10, 3) := by decide +kernel
theorem dX10_board_4 : decode cX10_board 4 = .ok (.getfield 76, 3) := by decide +kernel
theorem dX10_board_7 : decode cX10_board 7 = .ok (.iload_n 1, 1) := by decide +kernel
theorem dX10_board_8 : decode cX10_board 8 = .ok (.invokevirtual 104, 3) := by decide +kernel
theorem dX10_board_11 : decode cX10_board 11 = .ok (.ifCond .ne 5, 3) := by decide +kernel
theorem dX10_board_14 : decode cX10_board 14 = .ok (.iconst (-1), 1) := by decide +kernel
theorem dX10_board_15 : decode cX10_board 15 = .ok (.ireturn, 1) := by decide +kernel
theorem dX10_board_16 : decode cX10_board 16 = .ok (.iload_n 2, 1) := by decide +kernel
theorem dX10_board_17 : decode cX10_board 17 = .ok (.tableswitch 139 0 6 #[43, 58, 73, 88, 103, 115, 124], 43) := by decide +kernel
theorem dX10_board_60 : decode cX10_board 60 = .ok (.aload_n 0, 1) := by decide +kernel
theorem dX10_board_61 : decode cX10_board 61 = .ok (.getfield 10, 3) := by decide +kernel
theorem dX10_board_64 : decode cX10_board 64 = .ok (.getfield 76, 3) := by decide +kernel
theorem dX10_board_67 : decode cX10_board 67 = .ok (.getfield 164, 3) := by decide +kernel
theorem dX10_board_70 : decode cX10_board 70 = .ok (.iload_n 1, 1) := by decide +kernel
theorem dX10_board_71 : decode cX10_board 71 = .ok (.invokevirtual 58, 3) := by decide +kernel
theorem dX10_board_74 : decode cX10_board 74 = .ok (.ireturn, 1) := by decide +kernel
theorem dX10_board_75 : decode cX10_board 75 = .ok (.aload_n 0, 1) := by decide +kernel
theorem dX10_board_76 : decode cX10_board 76 = .ok (.getfield 10, 3) := by decide +kernel
theorem dX10_board_79 : decode cX10_board 79 = .ok (.getfield 76, 3) := by decide +kernel
theorem dX10_board_82 : decode cX10_board 82 = .ok (.getfield 167, 3) := by decide +kernel
theorem dX10_board_85 : decode cX10_board 85 = .ok (.iload_n 1, 1) := by decide +kernel
theorem dX10_board_86 : decode cX10_board 86 = .ok (.invokevirtual 58, 3) := by decide +kernel
theorem dX10_board_89 : decode cX10_board 89 = .ok (.ireturn, 1) := by decide +kernel
theorem dX10_board_90 : decode cX10_board 90 = .ok (.aload_n 0, 1) := by decide +kernel
theorem dX10_board_91 : decode cX10_board 91 = .ok (.getfield 10, 3) := by decide +kernel
theorem dX10_board_94 : decode cX10_board 94 = .ok (.getfield 76, 3) := by decide +kernel
theorem dX10_board_97 : decode cX10_board 97 = .ok (.getfield 170, 3) := by decide +kernel
theorem dX10_board_100 : decode cX10_board 100 = .ok (.iload_n 1, 1) := by decide +kernel
theorem dX10_board_101 : decode cX10_board 101 = .ok (.invokevirtual 58, 3) := by decide +kernel
theorem dX10_board_104 : decode cX10_board 104 = .ok (.ireturn, 1) := by decide +kernel
theorem dX10_board_105 : decode cX10_board 105 = .ok (.aload_n 0, 1) := by decide +kernel
theorem dX10_board_106 : decode cX10_board 106 = .ok (.getfield 10, 3) := by decide +kernel
theorem dX10_board_109 : decode cX10_board 109 = .ok (.getfield 76, 3) := by decide +kernel
theorem dX10_board_112 : decode cX10_board 112 = .ok (.getfield 173, 3) := by decide +kernel
theorem dX10_board_115 : decode cX10_board 115 = .ok (.iload_n 1, 1) := by decide +kernel
theorem dX10_board_116 : decode cX10_board 116 = .ok (.invokevirtual 58, 3) := by decide +kernel
theorem dX10_board_119 : decode cX10_board 119 = .ok (.ireturn, 1) := by decide +kernel
theorem dX10_board_120 : decode cX10_board 120 = .ok (.aload_n 0, 1) := by decide +kernel
theorem dX10_board_121 : decode cX10_board 121 = .ok (.getfield 10, 3) := by decide +kernel
theorem dX10_board_124 : decode cX10_board 124 = .ok (.getfield 110, 3) := by decide +kernel
theorem dX10_board_127 : decode cX10_board 127 = .ok (.iload_n 1, 1) := by decide +kernel
theorem dX10_board_128 : decode cX10_board 128 = .ok (.invokevirtual 175, 3) := by decide +kernel
theorem dX10_board_131 : decode cX10_board 131 = .ok (.ireturn, 1) := by decide +kernel
theorem dX10_board_132 : decode cX10_board 132 = .ok (.aload_n 0, 1) := by decide +kernel
theorem dX10_board_133 : decode cX10_board 133 = .ok (.getfield 10, 3) := by decide +kernel
theorem dX10_board_136 : decode cX10_board 136 = .ok (.iload_n 1, 1) := by decide +kernel
theorem dX10_board_137 : decode cX10_board 137 = .ok (.invokevirtual 178, 3) := by decide +kernel
theorem dX10_board_140 : decode cX10_board 140 = .ok (.ireturn, 1) := by decide +kernel
theorem dX10_board_141 : decode cX10_board 141 = .ok (.aload_n 0, 1) := by decide +kernel
theorem dX10_board_142 : decode cX10_board 142 = .ok (.getfield 10, 3) := by decide +kernel
theorem dX10_board_145 : decode cX10_board 145 = .ok (.getfield 76, 3) := by decide +kernel
theorem dX10_board_148 : decode cX10_board 148 = .ok (.getfield 181, 3) := by decide +kernel
theorem dX10_board_151 : decode cX10_board 151 = .ok (.iload_n 1, 1) := by decide +kernel
theorem dX10_board_152 : decode cX10_board 152 = .ok (.invokevirtual 58, 3) := by decide +kernel
theorem dX10_board_155 : decode cX10_board 155 = .ok (.ireturn, 1) := by decide +kernel
theorem dX10_board_156 : decode cX10_board 156 = .ok (.bipush (-2), 2) := by decide +kernel
theorem dX10_board_158 : decode cX10_board 158 = .ok (.ireturn, 1) := by decide +kernel
theorem dX10_ghost_0 : decode cX10_ghost 0 = .ok (.iload_n 1, 1) := by decide +kernel
theorem dX10_ghost_1 : decode cX10_ghost 1 = .ok (.invokestatic 130, 3) := by decide +kernel
theorem dX10_ghost_4 : decode cX10_ghost 4 = .ok (.ifCond .ne 5, 3) := by decide +kernel
theorem dX10_ghost_7 : decode cX10_ghost 7 = .ok (.iconst (-1), 1) := by decide +kernel
theorem dX10_ghost_8 : decode cX10_ghost 8 = .ok (.ireturn, 1) := by decide +kernel
theorem dX10_ghost_9 : decode cX10_ghost 9 = .ok (.iload_n 2, 1) := by decide +kernel
theorem dX10_ghost_10 : decode cX10_ghost 10 = .ok (.tableswitch 121 0 4 #[34, 49, 64, 73, 106], 34) := by decide +kernel
theorem dX10_ghost_44 : decode cX10_ghost 44 = .ok (.aload_n 0, 1) := by decide +kernel
theorem dX10_ghost_45 : decode cX10_ghost 45 = .ok (.getfield 10, 3) := by decide +kernel
theorem dX10_ghost_48 : decode cX10_ghost 48 = .ok (.getfield 110, 3) := by decide +kernel
theorem dX10_ghost_51 : decode cX10_ghost 51 = .ok (.getfield 133, 3) := by decide +kernel
theorem dX10_ghost_54 : decode cX10_ghost 54 = .ok (.iload_n 1, 1) := by decide +kernel
theorem dX10_ghost_55 : decode cX10_ghost 55 = .ok (.invokevirtual 58, 3) := by decide +kernel
theorem dX10_ghost_58 : decode cX10_ghost 58 = .ok (.ireturn, 1) := by decide +kernel
theorem dX10_ghost_59 : decode cX10_ghost 59 = .ok (.aload_n 0, 1) := by decide +kernel
theorem dX10_ghost_60 : decode cX10_ghost 60 = .ok (.getfield 10, 3) := by decide +kernel
theorem dX10_ghost_63 : decode cX10_ghost 63 = .ok (.getfield 110, 3) := by decide +kernel
theorem dX10_ghost_66 : decode cX10_ghost 66 = .ok (.getfield 184, 3) := by decide +kernel
theorem dX10_ghost_69 : decode cX10_ghost 69 = .ok (.iload_n 1, 1) := by decide +kernel
theorem dX10_ghost_70 : decode cX10_ghost 70 = .ok (.invokevirtual 58, 3) := by decide +kernel
theorem dX10_ghost_73 : decode cX10_ghost 73 = .ok (.ireturn, 1) := by decide +kernel
theorem dX10_ghost_74 : decode cX10_ghost 74 = .ok (.aload_n 0, 1) := by decide +kernel
theorem dX10_ghost_75 : decode cX10_ghost 75 = .ok (.getfield 10, 3) := by decide +kernel
theorem dX10_ghost_78 : decode cX10_ghost 78 = .ok (.iload_n 1, 1) := by decide +kernel
theorem dX10_ghost_79 : decode cX10_ghost 79 = .ok (.invokevirtual 136, 3) := by decide +kernel
theorem dX10_ghost_82 : decode cX10_ghost 82 = .ok (.ireturn, 1) := by decide +kernel
theorem dX10_ghost_83 : decode cX10_ghost 83 = .ok (.aload_n 0, 1) := by decide +kernel
theorem dX10_ghost_84 : decode cX10_ghost 84 = .ok (.getfield 10, 3) := by decide +kernel
theorem dX10_ghost_87 : decode cX10_ghost 87 = .ok (.getfield 76, 3) := by decide +kernel
theorem dX10_ghost_90 : decode cX10_ghost 90 = .ok (.aload_n 0, 1) := by decide +kernel
theorem dX10_ghost_91 : decode cX10_ghost 91 = .ok (.getfield 10, 3) := by decide +kernel
theorem dX10_ghost_94 : decode cX10_ghost 94 = .ok (.getfield 110, 3) := by decide +kernel
theorem dX10_ghost_97 : decode cX10_ghost 97 = .ok (.getfield 133, 3) := by decide +kernel
theorem dX10_ghost_100 : decode cX10_ghost 100 = .ok (.iload_n 1, 1) := by decide +kernel
theorem dX10_ghost_101 : decode cX10_ghost 101 = .ok (.invokevirtual 58, 3) := by decide +kernel
theorem dX10_ghost_104 : decode cX10_ghost 104 = .ok (.aload_n 0, 1) := by decide +kernel
theorem dX10_ghost_105 : decode cX10_ghost 105 = .ok (.getfield 10, 3) := by decide +kernel
theorem dX10_ghost_108 : decode cX10_ghost 108 = .ok (.iload_n 1, 1) := by decide +kernel
theorem dX10_ghost_109 : decode cX10_ghost 109 = .ok (.invokevirtual 187, 3) := by decide +kernel
theorem dX10_ghost_112 : decode cX10_ghost 112 = .ok (.invokevirtual 190, 3) := by decide +kernel
theorem dX10_ghost_115 : decode cX10_ghost 115 = .ok (.ireturn, 1) := by decide +kernel
theorem dX10_ghost_116 : decode cX10_ghost 116 = .ok (.aload_n 0, 1) := by decide +kernel
theorem dX10_ghost_117 : decode cX10_ghost 117 = .ok (.getfield 10, 3) := by decide +kernel
theorem dX10_ghost_120 : decode cX10_ghost 120 = .ok (.getfield 110, 3) := by decide +kernel
theorem dX10_ghost_123 : decode cX10_ghost 123 = .ok (.getfield 193, 3) := by decide +kernel
theorem dX10_ghost_126 : decode cX10_ghost 126 = .ok (.iload_n 1, 1) := by decide +kernel
theorem dX10_ghost_127 : decode cX10_ghost 127 = .ok (.invokevirtual 58, 3) := by decide +kernel
theorem dX10_ghost_130 : decode cX10_ghost 130 = .ok (.ireturn, 1) := by decide +kernel
theorem dX10_ghost_131 : decode cX10_ghost 131 = .ok (.bipush (-2), 2) := by decide +kernel
theorem dX10_ghost_133 : decode cX10_ghost 133 = .ok (.ireturn, 1) := by decide +kernel
theorem dX10_sleeperOf_0 : decode cX10_sleeperOf 0 = .ok (.aload_n 0, 1) := by decide +kernel
theorem dX10_sleeperOf_1 : decode cX10_sleeperOf 1 = .ok (.getfield 10, 3) := by decide +kernel
theorem dX10_sleeperOf_4 : decode cX10_sleeperOf 4 = .ok (.getfield 119, 3) := by decide +kernel
theorem dX10_sleeperOf_7 : decode cX10_sleeperOf 7 = .ok (.iload_n 1, 1) := by decide +kernel
theorem dX10_sleeperOf_8 : decode cX10_sleeperOf 8 = .ok (.invokevirtual 196, 3) := by decide +kernel
theorem dX10_sleeperOf_11 : decode cX10_sleeperOf 11 = .ok (.ifCond .ne 5, 3) := by decide +kernel
theorem dX10_sleeperOf_14 : decode cX10_sleeperOf 14 = .ok (.iconst (-1), 1) := by decide +kernel
theorem dX10_sleeperOf_15 : decode cX10_sleeperOf 15 = .ok (.ireturn, 1) := by decide +kernel
theorem dX10_sleeperOf_16 : decode cX10_sleeperOf 16 = .ok (.iload_n 2, 1) := by decide +kernel
theorem dX10_sleeperOf_17 : decode cX10_sleeperOf 17 = .ok (.tableswitch 104 0 4 #[35, 50, 65, 80, 95], 35) := by decide +kernel
theorem dX10_sleeperOf_52 : decode cX10_sleeperOf 52 = .ok (.aload_n 0, 1) := by decide +kernel
theorem dX10_sleeperOf_53 : decode cX10_sleeperOf 53 = .ok (.getfield 10, 3) := by decide +kernel
theorem dX10_sleeperOf_56 : decode cX10_sleeperOf 56 = .ok (.getfield 119, 3) := by decide +kernel
theorem dX10_sleeperOf_59 : decode cX10_sleeperOf 59 = .ok (.getfield 197, 3) := by decide +kernel
theorem dX10_sleeperOf_62 : decode cX10_sleeperOf 62 = .ok (.iload_n 1, 1) := by decide +kernel
theorem dX10_sleeperOf_63 : decode cX10_sleeperOf 63 = .ok (.invokevirtual 58, 3) := by decide +kernel
theorem dX10_sleeperOf_66 : decode cX10_sleeperOf 66 = .ok (.ireturn, 1) := by decide +kernel
theorem dX10_sleeperOf_67 : decode cX10_sleeperOf 67 = .ok (.aload_n 0, 1) := by decide +kernel
theorem dX10_sleeperOf_68 : decode cX10_sleeperOf 68 = .ok (.getfield 10, 3) := by decide +kernel
theorem dX10_sleeperOf_71 : decode cX10_sleeperOf 71 = .ok (.getfield 119, 3) := by decide +kernel
theorem dX10_sleeperOf_74 : decode cX10_sleeperOf 74 = .ok (.getfield 198, 3) := by decide +kernel
theorem dX10_sleeperOf_77 : decode cX10_sleeperOf 77 = .ok (.iload_n 1, 1) := by decide +kernel
theorem dX10_sleeperOf_78 : decode cX10_sleeperOf 78 = .ok (.invokevirtual 58, 3) := by decide +kernel
theorem dX10_sleeperOf_81 : decode cX10_sleeperOf 81 = .ok (.ireturn, 1) := by decide +kernel
theorem dX10_sleeperOf_82 : decode cX10_sleeperOf 82 = .ok (.aload_n 0, 1) := by decide +kernel
theorem dX10_sleeperOf_83 : decode cX10_sleeperOf 83 = .ok (.getfield 10, 3) := by decide +kernel
theorem dX10_sleeperOf_86 : decode cX10_sleeperOf 86 = .ok (.getfield 119, 3) := by decide +kernel
theorem dX10_sleeperOf_89 : decode cX10_sleeperOf 89 = .ok (.getfield 201, 3) := by decide +kernel
theorem dX10_sleeperOf_92 : decode cX10_sleeperOf 92 = .ok (.iload_n 1, 1) := by decide +kernel
theorem dX10_sleeperOf_93 : decode cX10_sleeperOf 93 = .ok (.invokevirtual 58, 3) := by decide +kernel
theorem dX10_sleeperOf_96 : decode cX10_sleeperOf 96 = .ok (.ireturn, 1) := by decide +kernel
theorem dX10_sleeperOf_97 : decode cX10_sleeperOf 97 = .ok (.aload_n 0, 1) := by decide +kernel
theorem dX10_sleeperOf_98 : decode cX10_sleeperOf 98 = .ok (.getfield 10, 3) := by decide +kernel
theorem dX10_sleeperOf_101 : decode cX10_sleeperOf 101 = .ok (.getfield 119, 3) := by decide +kernel
theorem dX10_sleeperOf_104 : decode cX10_sleeperOf 104 = .ok (.getfield 204, 3) := by decide +kernel
theorem dX10_sleeperOf_107 : decode cX10_sleeperOf 107 = .ok (.iload_n 1, 1) := by decide +kernel
theorem dX10_sleeperOf_108 : decode cX10_sleeperOf 108 = .ok (.invokevirtual 58, 3) := by decide +kernel
theorem dX10_sleeperOf_111 : decode cX10_sleeperOf 111 = .ok (.ireturn, 1) := by decide +kernel
theorem dX10_sleeperOf_112 : decode cX10_sleeperOf 112 = .ok (.aload_n 0, 1) := by decide +kernel
theorem dX10_sleeperOf_113 : decode cX10_sleeperOf 113 = .ok (.getfield 10, 3) := by decide +kernel
theorem dX10_sleeperOf_116 : decode cX10_sleeperOf 116 = .ok (.iload_n 1, 1) := by decide +kernel
theorem dX10_sleeperOf_117 : decode cX10_sleeperOf 117 = .ok (.invokevirtual 207, 3) := by decide +kernel
theorem dX10_sleeperOf_120 : decode cX10_sleeperOf 120 = .ok (.ireturn, 1) := by decide +kernel
theorem dX10_sleeperOf_121 : decode cX10_sleeperOf 121 = .ok (.bipush (-2), 2) := by decide +kernel
theorem dX10_sleeperOf_123 : decode cX10_sleeperOf 123 = .ok (.ireturn, 1) := by decide +kernel
theorem dX10_loudness_0 : decode cX10_loudness 0 = .ok (.aload_n 0, 1) := by decide +kernel
theorem dX10_loudness_1 : decode cX10_loudness 1 = .ok (.getfield 10, 3) := by decide +kernel
theorem dX10_loudness_4 : decode cX10_loudness 4 = .ok (.getfield 76, 3) := by decide +kernel
theorem dX10_loudness_7 : decode cX10_loudness 7 = .ok (.iload_n 1, 1) := by decide +kernel
theorem dX10_loudness_8 : decode cX10_loudness 8 = .ok (.invokevirtual 104, 3) := by decide +kernel
theorem dX10_loudness_11 : decode cX10_loudness 11 = .ok (.ifCond .eq 17, 3) := by decide +kernel
theorem dX10_loudness_14 : decode cX10_loudness 14 = .ok (.aload_n 0, 1) := by decide +kernel
theorem dX10_loudness_15 : decode cX10_loudness 15 = .ok (.getfield 10, 3) := by decide +kernel
theorem dX10_loudness_18 : decode cX10_loudness 18 = .ok (.getfield 119, 3) := by decide +kernel
theorem dX10_loudness_21 : decode cX10_loudness 21 = .ok (.iload_n 2, 1) := by decide +kernel
theorem dX10_loudness_22 : decode cX10_loudness 22 = .ok (.invokevirtual 196, 3) := by decide +kernel
theorem dX10_loudness_25 : decode cX10_loudness 25 = .ok (.ifCond .ne 5, 3) := by decide +kernel
theorem dX10_loudness_28 : decode cX10_loudness 28 = .ok (.iconst (-1), 1) := by decide +kernel
theorem dX10_loudness_29 : decode cX10_loudness 29 = .ok (.ireturn, 1) := by decide +kernel
theorem dX10_loudness_30 : decode cX10_loudness 30 = .ok (.aload_n 0, 1) := by decide +kernel
theorem dX10_loudness_31 : decode cX10_loudness 31 = .ok (.getfield 10, 3) := by decide +kernel
theorem dX10_loudness_34 : decode cX10_loudness 34 = .ok (.getfield 76, 3) := by decide +kernel
theorem dX10_loudness_37 : decode cX10_loudness 37 = .ok (.aload_n 0, 1) := by decide +kernel
theorem dX10_loudness_38 : decode cX10_loudness 38 = .ok (.getfield 10, 3) := by decide +kernel
theorem dX10_loudness_41 : decode cX10_loudness 41 = .ok (.getfield 119, 3) := by decide +kernel
theorem dX10_loudness_44 : decode cX10_loudness 44 = .ok (.getfield 197, 3) := by decide +kernel
theorem dX10_loudness_47 : decode cX10_loudness 47 = .ok (.iload_n 2, 1) := by decide +kernel
theorem dX10_loudness_48 : decode cX10_loudness 48 = .ok (.invokevirtual 58, 3) := by decide +kernel
theorem dX10_loudness_51 : decode cX10_loudness 51 = .ok (.iload_n 1, 1) := by decide +kernel
theorem dX10_loudness_52 : decode cX10_loudness 52 = .ok (.invokevirtual 210, 3) := by decide +kernel
theorem dX10_loudness_55 : decode cX10_loudness 55 = .ok (.ireturn, 1) := by decide +kernel
theorem dX10_far_0 : decode cX10_far 0 = .ok (.iload_n 1, 1) := by decide +kernel
theorem dX10_far_1 : decode cX10_far 1 = .ok (.invokestatic 68, 3) := by decide +kernel
theorem dX10_far_4 : decode cX10_far 4 = .ok (.ifCond .eq 10, 3) := by decide +kernel
theorem dX10_far_7 : decode cX10_far 7 = .ok (.iload_n 2, 1) := by decide +kernel
theorem dX10_far_8 : decode cX10_far 8 = .ok (.invokestatic 68, 3) := by decide +kernel
theorem dX10_far_11 : decode cX10_far 11 = .ok (.ifCond .ne 5, 3) := by decide +kernel
theorem dX10_far_14 : decode cX10_far 14 = .ok (.iconst (-1), 1) := by decide +kernel
theorem dX10_far_15 : decode cX10_far 15 = .ok (.ireturn, 1) := by decide +kernel
theorem dX10_far_16 : decode cX10_far 16 = .ok (.aload_n 0, 1) := by decide +kernel
theorem dX10_far_17 : decode cX10_far 17 = .ok (.getfield 10, 3) := by decide +kernel
theorem dX10_far_20 : decode cX10_far 20 = .ok (.getfield 76, 3) := by decide +kernel
theorem dX10_far_23 : decode cX10_far 23 = .ok (.iload_n 1, 1) := by decide +kernel
theorem dX10_far_24 : decode cX10_far 24 = .ok (.iconst 1, 1) := by decide +kernel
theorem dX10_far_25 : decode cX10_far 25 = .ok (.iload_n 2, 1) := by decide +kernel
theorem dX10_far_26 : decode cX10_far 26 = .ok (.ishl, 1) := by decide +kernel
theorem dX10_far_27 : decode cX10_far 27 = .ok (.invokevirtual 213, 3) := by decide +kernel
theorem dX10_far_30 : decode cX10_far 30 = .ok (.ireturn, 1) := by decide +kernel
theorem dX10_count_0 : decode cX10_count 0 = .ok (.iload_n 1, 1) := by decide +kernel
theorem dX10_count_1 : decode cX10_count 1 = .ok (.tableswitch 167 0 10 #[59, 71, 83, 91, 102, 113, 124, 135, 143, 151, 159], 59) := by decide +kernel
theorem dX10_count_60 : decode cX10_count 60 = .ok (.aload_n 0, 1) := by decide +kernel
theorem dX10_count_61 : decode cX10_count 61 = .ok (.getfield 10, 3) := by decide +kernel
theorem dX10_count_64 : decode cX10_count 64 = .ok (.getfield 54, 3) := by decide +kernel
theorem dX10_count_67 : decode cX10_count 67 = .ok (.iconst 0, 1) := by decide +kernel
theorem dX10_count_68 : decode cX10_count 68 = .ok (.invokevirtual 58, 3) := by decide +kernel
theorem dX10_count_71 : decode cX10_count 71 = .ok (.ireturn, 1) := by decide +kernel
theorem dX10_count_72 : decode cX10_count 72 = .ok (.aload_n 0, 1) := by decide +kernel
theorem dX10_count_73 : decode cX10_count 73 = .ok (.getfield 10, 3) := by decide +kernel
theorem dX10_count_76 : decode cX10_count 76 = .ok (.getfield 54, 3) := by decide +kernel
theorem dX10_count_79 : decode cX10_count 79 = .ok (.iconst 1, 1) := by decide +kernel
theorem dX10_count_80 : decode cX10_count 80 = .ok (.invokevirtual 58, 3) := by decide +kernel
theorem dX10_count_83 : decode cX10_count 83 = .ok (.ireturn, 1) := by decide +kernel
theorem dX10_count_84 : decode cX10_count 84 = .ok (.aload_n 0, 1) := by decide +kernel
theorem dX10_count_85 : decode cX10_count 85 = .ok (.getfield 10, 3) := by decide +kernel
theorem dX10_count_88 : decode cX10_count 88 = .ok (.getfield 157, 3) := by decide +kernel
theorem dX10_count_91 : decode cX10_count 91 = .ok (.ireturn, 1) := by decide +kernel
theorem dX10_count_92 : decode cX10_count 92 = .ok (.aload_n 0, 1) := by decide +kernel
theorem dX10_count_93 : decode cX10_count 93 = .ok (.getfield 10, 3) := by decide +kernel
theorem dX10_count_96 : decode cX10_count 96 = .ok (.getfield 76, 3) := by decide +kernel
theorem dX10_count_99 : decode cX10_count 99 = .ok (.getfield 80, 3) := by decide +kernel
theorem dX10_count_102 : decode cX10_count 102 = .ok (.ireturn, 1) := by decide +kernel
theorem dX10_count_103 : decode cX10_count 103 = .ok (.aload_n 0, 1) := by decide +kernel
theorem dX10_count_104 : decode cX10_count 104 = .ok (.getfield 10, 3) := by decide +kernel
theorem dX10_count_107 : decode cX10_count 107 = .ok (.getfield 119, 3) := by decide +kernel
theorem dX10_count_110 : decode cX10_count 110 = .ok (.getfield 123, 3) := by decide +kernel
theorem dX10_count_113 : decode cX10_count 113 = .ok (.ireturn, 1) := by decide +kernel
theorem dX10_count_114 : decode cX10_count 114 = .ok (.aload_n 0, 1) := by decide +kernel
theorem dX10_count_115 : decode cX10_count 115 = .ok (.getfield 10, 3) := by decide +kernel
theorem dX10_count_118 : decode cX10_count 118 = .ok (.getfield 119, 3) := by decide +kernel
theorem dX10_count_121 : decode cX10_count 121 = .ok (.invokevirtual 216, 3) := by decide +kernel
theorem dX10_count_124 : decode cX10_count 124 = .ok (.ireturn, 1) := by decide +kernel
theorem dX10_count_125 : decode cX10_count 125 = .ok (.aload_n 0, 1) := by decide +kernel
theorem dX10_count_126 : decode cX10_count 126 = .ok (.getfield 10, 3) := by decide +kernel
theorem dX10_count_129 : decode cX10_count 129 = .ok (.getfield 119, 3) := by decide +kernel
theorem dX10_count_132 : decode cX10_count 132 = .ok (.invokevirtual 219, 3) := by decide +kernel
theorem dX10_count_135 : decode cX10_count 135 = .ok (.ireturn, 1) := by decide +kernel
theorem dX10_count_136 : decode cX10_count 136 = .ok (.aload_n 0, 1) := by decide +kernel
theorem dX10_count_137 : decode cX10_count 137 = .ok (.getfield 10, 3) := by decide +kernel
theorem dX10_count_140 : decode cX10_count 140 = .ok (.getfield 222, 3) := by decide +kernel
theorem dX10_count_143 : decode cX10_count 143 = .ok (.ireturn, 1) := by decide +kernel
theorem dX10_count_144 : decode cX10_count 144 = .ok (.aload_n 0, 1) := by decide +kernel
theorem dX10_count_145 : decode cX10_count 145 = .ok (.getfield 10, 3) := by decide +kernel
theorem dX10_count_148 : decode cX10_count 148 = .ok (.invokevirtual 225, 3) := by decide +kernel
theorem dX10_count_151 : decode cX10_count 151 = .ok (.ireturn, 1) := by decide +kernel
theorem dX10_count_152 : decode cX10_count 152 = .ok (.aload_n 0, 1) := by decide +kernel
theorem dX10_count_153 : decode cX10_count 153 = .ok (.getfield 19, 3) := by decide +kernel
theorem dX10_count_156 : decode cX10_count 156 = .ok (.getfield 101, 3) := by decide +kernel
theorem dX10_count_159 : decode cX10_count 159 = .ok (.ireturn, 1) := by decide +kernel
theorem dX10_count_160 : decode cX10_count 160 = .ok (.aload_n 0, 1) := by decide +kernel
theorem dX10_count_161 : decode cX10_count 161 = .ok (.getfield 26, 3) := by decide +kernel
theorem dX10_count_164 : decode cX10_count 164 = .ok (.getfield 228, 3) := by decide +kernel
theorem dX10_count_167 : decode cX10_count 167 = .ok (.ireturn, 1) := by decide +kernel
theorem dX10_count_168 : decode cX10_count 168 = .ok (.bipush (-2), 2) := by decide +kernel
theorem dX10_count_170 : decode cX10_count 170 = .ok (.ireturn, 1) := by decide +kernel
theorem dX10_soonest_0 : decode cX10_soonest 0 = .ok (.iload_n 1, 1) := by decide +kernel
theorem dX10_soonest_1 : decode cX10_soonest 1 = .ok (.invokestatic 130, 3) := by decide +kernel
theorem dX10_soonest_4 : decode cX10_soonest 4 = .ok (.ifCond .eq 10, 3) := by decide +kernel
theorem dX10_soonest_7 : decode cX10_soonest 7 = .ok (.iload_n 2, 1) := by decide +kernel
theorem dX10_soonest_8 : decode cX10_soonest 8 = .ok (.invokestatic 68, 3) := by decide +kernel
theorem dX10_soonest_11 : decode cX10_soonest 11 = .ok (.ifCond .ne 5, 3) := by decide +kernel
theorem dX10_soonest_14 : decode cX10_soonest 14 = .ok (.iconst (-1), 1) := by decide +kernel
theorem dX10_soonest_15 : decode cX10_soonest 15 = .ok (.ireturn, 1) := by decide +kernel
theorem dX10_soonest_16 : decode cX10_soonest 16 = .ok (.iload_n 3, 1) := by decide +kernel
theorem dX10_soonest_17 : decode cX10_soonest 17 = .ok (.ifCond .ge 6, 3) := by decide +kernel
theorem dX10_soonest_20 : decode cX10_soonest 20 = .ok (.bipush (-2), 2) := by decide +kernel
theorem dX10_soonest_22 : decode cX10_soonest 22 = .ok (.ireturn, 1) := by decide +kernel
theorem dX10_soonest_23 : decode cX10_soonest 23 = .ok (.aload_n 0, 1) := by decide +kernel
theorem dX10_soonest_24 : decode cX10_soonest 24 = .ok (.iload_n 1, 1) := by decide +kernel
theorem dX10_soonest_25 : decode cX10_soonest 25 = .ok (.iload_n 2, 1) := by decide +kernel
theorem dX10_soonest_26 : decode cX10_soonest 26 = .ok (.invokevirtual 146, 3) := by decide +kernel
theorem dX10_soonest_29 : decode cX10_soonest 29 = .ok (.aload_n 0, 1) := by decide +kernel
theorem dX10_soonest_30 : decode cX10_soonest 30 = .ok (.getfield 42, 3) := by decide +kernel
theorem dX10_soonest_33 : decode cX10_soonest 33 = .ok (.getfield 149, 3) := by decide +kernel
theorem dX10_soonest_36 : decode cX10_soonest 36 = .ok (.ifCond .ne 6, 3) := by decide +kernel
theorem dX10_soonest_39 : decode cX10_soonest 39 = .ok (.bipush (-6), 2) := by decide +kernel
theorem dX10_soonest_41 : decode cX10_soonest 41 = .ok (.ireturn, 1) := by decide +kernel
theorem dX10_soonest_42 : decode cX10_soonest 42 = .ok (.iload_n 3, 1) := by decide +kernel
theorem dX10_soonest_43 : decode cX10_soonest 43 = .ok (.ifCond .ne 11, 3) := by decide +kernel
theorem dX10_soonest_46 : decode cX10_soonest 46 = .ok (.aload_n 0, 1) := by decide +kernel
theorem dX10_soonest_47 : decode cX10_soonest 47 = .ok (.getfield 42, 3) := by decide +kernel
theorem dX10_soonest_50 : decode cX10_soonest 50 = .ok (.getfield 231, 3) := by decide +kernel
theorem dX10_soonest_53 : decode cX10_soonest 53 = .ok (.ireturn, 1) := by decide +kernel
theorem dX10_soonest_54 : decode cX10_soonest 54 = .ok (.iload_n 3, 1) := by decide +kernel
theorem dX10_soonest_55 : decode cX10_soonest 55 = .ok (.iconst 1, 1) := by decide +kernel
theorem dX10_soonest_56 : decode cX10_soonest 56 = .ok (.if_icmp .ne 11, 3) := by decide +kernel
theorem dX10_soonest_59 : decode cX10_soonest 59 = .ok (.aload_n 0, 1) := by decide +kernel
theorem dX10_soonest_60 : decode cX10_soonest 60 = .ok (.getfield 42, 3) := by decide +kernel
theorem dX10_soonest_63 : decode cX10_soonest 63 = .ok (.getfield 153, 3) := by decide +kernel
theorem dX10_soonest_66 : decode cX10_soonest 66 = .ok (.ireturn, 1) := by decide +kernel
theorem dX10_soonest_67 : decode cX10_soonest 67 = .ok (.iload_n 3, 1) := by decide +kernel
theorem dX10_soonest_68 : decode cX10_soonest 68 = .ok (.iconst 2, 1) := by decide +kernel
theorem dX10_soonest_69 : decode cX10_soonest 69 = .ok (.isub, 1) := by decide +kernel
theorem dX10_soonest_70 : decode cX10_soonest 70 = .ok (.aload_n 0, 1) := by decide +kernel
theorem dX10_soonest_71 : decode cX10_soonest 71 = .ok (.getfield 42, 3) := by decide +kernel
theorem dX10_soonest_74 : decode cX10_soonest 74 = .ok (.getfield 153, 3) := by decide +kernel
theorem dX10_soonest_77 : decode cX10_soonest 77 = .ok (.if_icmp .ge 19, 3) := by decide +kernel
theorem dX10_soonest_80 : decode cX10_soonest 80 = .ok (.aload_n 0, 1) := by decide +kernel
theorem dX10_soonest_81 : decode cX10_soonest 81 = .ok (.getfield 42, 3) := by decide +kernel
theorem dX10_soonest_84 : decode cX10_soonest 84 = .ok (.getfield 154, 3) := by decide +kernel
theorem dX10_soonest_87 : decode cX10_soonest 87 = .ok (.iload_n 3, 1) := by decide +kernel
theorem dX10_soonest_88 : decode cX10_soonest 88 = .ok (.iconst 2, 1) := by decide +kernel
theorem dX10_soonest_89 : decode cX10_soonest 89 = .ok (.isub, 1) := by decide +kernel
theorem dX10_soonest_90 : decode cX10_soonest 90 = .ok (.invokevirtual 58, 3) := by decide +kernel
theorem dX10_soonest_93 : decode cX10_soonest 93 = .ok (.goto 5, 3) := by decide +kernel
theorem dX10_soonest_96 : decode cX10_soonest 96 = .ok (.bipush (-6), 2) := by decide +kernel
theorem dX10_soonest_98 : decode cX10_soonest 98 = .ok (.ireturn, 1) := by decide +kernel
theorem dX10_quietest_0 : decode cX10_quietest 0 = .ok (.iload_n 1, 1) := by decide +kernel
theorem dX10_quietest_1 : decode cX10_quietest 1 = .ok (.invokestatic 130, 3) := by decide +kernel
theorem dX10_quietest_4 : decode cX10_quietest 4 = .ok (.ifCond .eq 10, 3) := by decide +kernel
theorem dX10_quietest_7 : decode cX10_quietest 7 = .ok (.iload_n 2, 1) := by decide +kernel
theorem dX10_quietest_8 : decode cX10_quietest 8 = .ok (.invokestatic 68, 3) := by decide +kernel
theorem dX10_quietest_11 : decode cX10_quietest 11 = .ok (.ifCond .ne 5, 3) := by decide +kernel
theorem dX10_quietest_14 : decode cX10_quietest 14 = .ok (.iconst (-1), 1) := by decide +kernel
theorem dX10_quietest_15 : decode cX10_quietest 15 = .ok (.ireturn, 1) := by decide +kernel
theorem dX10_quietest_16 : decode cX10_quietest 16 = .ok (.aload_n 0, 1) := by decide +kernel
theorem dX10_quietest_17 : decode cX10_quietest 17 = .ok (.getfield 10, 3) := by decide +kernel
theorem dX10_quietest_20 : decode cX10_quietest 20 = .ok (.getfield 110, 3) := by decide +kernel
theorem dX10_quietest_23 : decode cX10_quietest 23 = .ok (.getfield 133, 3) := by decide +kernel
theorem dX10_quietest_26 : decode cX10_quietest 26 = .ok (.iload_n 1, 1) := by decide +kernel
theorem dX10_quietest_27 : decode cX10_quietest 27 = .ok (.invokevirtual 58, 3) := by decide +kernel
theorem dX10_quietest_30 : decode cX10_quietest 30 = .ok (.istore_n 3, 1) := by decide +kernel
theorem dX10_quietest_31 : decode cX10_quietest 31 = .ok (.aload_n 0, 1) := by decide +kernel
theorem dX10_quietest_32 : decode cX10_quietest 32 = .ok (.getfield 10, 3) := by decide +kernel
theorem dX10_quietest_35 : decode cX10_quietest 35 = .ok (.iload_n 1, 1) := by decide +kernel
theorem dX10_quietest_36 : decode cX10_quietest 36 = .ok (.invokevirtual 187, 3) := by decide +kernel
theorem dX10_quietest_39 : decode cX10_quietest 39 = .ok (.istore 4, 2) := by decide +kernel
theorem dX10_quietest_41 : decode cX10_quietest 41 = .ok (.iconst 0, 1) := by decide +kernel
theorem dX10_quietest_42 : decode cX10_quietest 42 = .ok (.istore 5, 2) := by decide +kernel
theorem dX10_quietest_44 : decode cX10_quietest 44 = .ok (.iload 5, 2) := by decide +kernel
theorem dX10_quietest_46 : decode cX10_quietest 46 = .ok (.bipush 9, 2) := by decide +kernel
theorem dX10_quietest_48 : decode cX10_quietest 48 = .ok (.if_icmp .gt 45, 3) := by decide +kernel
theorem dX10_quietest_51 : decode cX10_quietest 51 = .ok (.aload_n 0, 1) := by decide +kernel
theorem dX10_quietest_52 : decode cX10_quietest 52 = .ok (.getfield 10, 3) := by decide +kernel
theorem dX10_quietest_55 : decode cX10_quietest 55 = .ok (.getfield 76, 3) := by decide +kernel
theorem dX10_quietest_58 : decode cX10_quietest 58 = .ok (.iload_n 3, 1) := by decide +kernel
theorem dX10_quietest_59 : decode cX10_quietest 59 = .ok (.iload 4, 2) := by decide +kernel
theorem dX10_quietest_61 : decode cX10_quietest 61 = .ok (.aload_n 0, 1) := by decide +kernel
theorem dX10_quietest_62 : decode cX10_quietest 62 = .ok (.getfield 10, 3) := by decide +kernel
theorem dX10_quietest_65 : decode cX10_quietest 65 = .ok (.getfield 76, 3) := by decide +kernel
theorem dX10_quietest_68 : decode cX10_quietest 68 = .ok (.iload 5, 2) := by decide +kernel
theorem dX10_quietest_70 : decode cX10_quietest 70 = .ok (.invokevirtual 232, 3) := by decide +kernel
theorem dX10_quietest_73 : decode cX10_quietest 73 = .ok (.iand, 1) := by decide +kernel
theorem dX10_quietest_74 : decode cX10_quietest 74 = .ok (.invokevirtual 190, 3) := by decide +kernel
theorem dX10_quietest_77 : decode cX10_quietest 77 = .ok (.iload_n 2, 1) := by decide +kernel
theorem dX10_quietest_78 : decode cX10_quietest 78 = .ok (.invokestatic 139, 3) := by decide +kernel
theorem dX10_quietest_81 : decode cX10_quietest 81 = .ok (.ifCond .eq 6, 3) := by decide +kernel
theorem dX10_quietest_84 : decode cX10_quietest 84 = .ok (.iload 5, 2) := by decide +kernel
theorem dX10_quietest_86 : decode cX10_quietest 86 = .ok (.ireturn, 1) := by decide +kernel
theorem dX10_quietest_87 : decode cX10_quietest 87 = .ok (.iinc 5 1, 3) := by decide +kernel
theorem dX10_quietest_90 : decode cX10_quietest 90 = .ok (.goto (-46), 3) := by decide +kernel
theorem dX10_quietest_93 : decode cX10_quietest 93 = .ok (.bipush (-6), 2) := by decide +kernel
theorem dX10_quietest_95 : decode cX10_quietest 95 = .ok (.ireturn, 1) := by decide +kernel
theorem dX10_reason_0 : decode cX10_reason 0 = .ok (.iload_n 1, 1) := by decide +kernel
theorem dX10_reason_1 : decode cX10_reason 1 = .ok (.invokestatic 130, 3) := by decide +kernel
theorem dX10_reason_4 : decode cX10_reason 4 = .ok (.ifCond .ne 5, 3) := by decide +kernel
theorem dX10_reason_7 : decode cX10_reason 7 = .ok (.iconst (-1), 1) := by decide +kernel
theorem dX10_reason_8 : decode cX10_reason 8 = .ok (.ireturn, 1) := by decide +kernel
theorem dX10_reason_9 : decode cX10_reason 9 = .ok (.aload_n 0, 1) := by decide +kernel
theorem dX10_reason_10 : decode cX10_reason 10 = .ok (.getfield 10, 3) := by decide +kernel
theorem dX10_reason_13 : decode cX10_reason 13 = .ok (.getfield 76, 3) := by decide +kernel
theorem dX10_reason_16 : decode cX10_reason 16 = .ok (.aload_n 0, 1) := by decide +kernel
theorem dX10_reason_17 : decode cX10_reason 17 = .ok (.getfield 10, 3) := by decide +kernel
theorem dX10_reason_20 : decode cX10_reason 20 = .ok (.iload_n 1, 1) := by decide +kernel
theorem dX10_reason_21 : decode cX10_reason 21 = .ok (.invokevirtual 235, 3) := by decide +kernel
theorem dX10_reason_24 : decode cX10_reason 24 = .ok (.aload_n 0, 1) := by decide +kernel
theorem dX10_reason_25 : decode cX10_reason 25 = .ok (.getfield 10, 3) := by decide +kernel
theorem dX10_reason_28 : decode cX10_reason 28 = .ok (.getfield 110, 3) := by decide +kernel
theorem dX10_reason_31 : decode cX10_reason 31 = .ok (.getfield 133, 3) := by decide +kernel
theorem dX10_reason_34 : decode cX10_reason 34 = .ok (.iload_n 1, 1) := by decide +kernel
theorem dX10_reason_35 : decode cX10_reason 35 = .ok (.invokevirtual 58, 3) := by decide +kernel
theorem dX10_reason_38 : decode cX10_reason 38 = .ok (.invokestatic 238, 3) := by decide +kernel
theorem dX10_reason_41 : decode cX10_reason 41 = .ok (.ireturn, 1) := by decide +kernel
theorem dX10_trail_0 : decode cX10_trail 0 = .ok (.iload_n 1, 1) := by decide +kernel
theorem dX10_trail_1 : decode cX10_trail 1 = .ok (.invokestatic 130, 3) := by decide +kernel
theorem dX10_trail_4 : decode cX10_trail 4 = .ok (.ifCond .eq 7, 3) := by decide +kernel
theorem dX10_trail_7 : decode cX10_trail 7 = .ok (.iload_n 2, 1) := by decide +kernel
theorem dX10_trail_8 : decode cX10_trail 8 = .ok (.ifCond .ge 5, 3) := by decide +kernel
theorem dX10_trail_11 : decode cX10_trail 11 = .ok (.iconst (-1), 1) := by decide +kernel
theorem dX10_trail_12 : decode cX10_trail 12 = .ok (.ireturn, 1) := by decide +kernel
theorem dX10_trail_13 : decode cX10_trail 13 = .ok (.aload_n 0, 1) := by decide +kernel
theorem dX10_trail_14 : decode cX10_trail 14 = .ok (.getfield 10, 3) := by decide +kernel
theorem dX10_trail_17 : decode cX10_trail 17 = .ok (.iload_n 1, 1) := by decide +kernel
theorem dX10_trail_18 : decode cX10_trail 18 = .ok (.invokevirtual 235, 3) := by decide +kernel
theorem dX10_trail_21 : decode cX10_trail 21 = .ok (.istore_n 3, 1) := by decide +kernel
theorem dX10_trail_22 : decode cX10_trail 22 = .ok (.aload_n 0, 1) := by decide +kernel
theorem dX10_trail_23 : decode cX10_trail 23 = .ok (.getfield 10, 3) := by decide +kernel
theorem dX10_trail_26 : decode cX10_trail 26 = .ok (.getfield 110, 3) := by decide +kernel
theorem dX10_trail_29 : decode cX10_trail 29 = .ok (.getfield 133, 3) := by decide +kernel
theorem dX10_trail_32 : decode cX10_trail 32 = .ok (.iload_n 1, 1) := by decide +kernel
theorem dX10_trail_33 : decode cX10_trail 33 = .ok (.invokevirtual 58, 3) := by decide +kernel
theorem dX10_trail_36 : decode cX10_trail 36 = .ok (.istore 4, 2) := by decide +kernel
theorem dX10_trail_38 : decode cX10_trail 38 = .ok (.aload_n 0, 1) := by decide +kernel
theorem dX10_trail_39 : decode cX10_trail 39 = .ok (.getfield 10, 3) := by decide +kernel
theorem dX10_trail_42 : decode cX10_trail 42 = .ok (.getfield 76, 3) := by decide +kernel
theorem dX10_trail_45 : decode cX10_trail 45 = .ok (.iload_n 3, 1) := by decide +kernel
theorem dX10_trail_46 : decode cX10_trail 46 = .ok (.iload 4, 2) := by decide +kernel
theorem dX10_trail_48 : decode cX10_trail 48 = .ok (.invokestatic 238, 3) := by decide +kernel
theorem dX10_trail_51 : decode cX10_trail 51 = .ok (.ifCond .eq 6, 3) := by decide +kernel
theorem dX10_trail_54 : decode cX10_trail 54 = .ok (.bipush (-5), 2) := by decide +kernel
theorem dX10_trail_56 : decode cX10_trail 56 = .ok (.ireturn, 1) := by decide +kernel
theorem dX10_trail_57 : decode cX10_trail 57 = .ok (.aload_n 0, 1) := by decide +kernel
theorem dX10_trail_58 : decode cX10_trail 58 = .ok (.getfield 10, 3) := by decide +kernel
theorem dX10_trail_61 : decode cX10_trail 61 = .ok (.getfield 76, 3) := by decide +kernel
theorem dX10_trail_64 : decode cX10_trail 64 = .ok (.iload_n 3, 1) := by decide +kernel
theorem dX10_trail_65 : decode cX10_trail 65 = .ok (.iload 4, 2) := by decide +kernel
theorem dX10_trail_67 : decode cX10_trail 67 = .ok (.iload_n 2, 1) := by decide +kernel
theorem dX10_trail_68 : decode cX10_trail 68 = .ok (.invokestatic 244, 3) := by decide +kernel
theorem dX10_trail_71 : decode cX10_trail 71 = .ok (.ireturn, 1) := by decide +kernel
theorem dX10_worstGap_0 : decode cX10_worstGap 0 = .ok (.iload_n 1, 1) := by decide +kernel
theorem dX10_worstGap_1 : decode cX10_worstGap 1 = .ok (.ifCond .eq 11, 3) := by decide +kernel
theorem dX10_worstGap_4 : decode cX10_worstGap 4 = .ok (.iload_n 1, 1) := by decide +kernel
theorem dX10_worstGap_5 : decode cX10_worstGap 5 = .ok (.iconst 1, 1) := by decide +kernel
theorem dX10_worstGap_6 : decode cX10_worstGap 6 = .ok (.if_icmp .eq 6, 3) := by decide +kernel
theorem dX10_worstGap_9 : decode cX10_worstGap 9 = .ok (.bipush (-2), 2) := by decide +kernel
theorem dX10_worstGap_11 : decode cX10_worstGap 11 = .ok (.ireturn, 1) := by decide +kernel
theorem dX10_worstGap_12 : decode cX10_worstGap 12 = .ok (.bipush (-6), 2) := by decide +kernel
theorem dX10_worstGap_14 : decode cX10_worstGap 14 = .ok (.istore_n 2, 1) := by decide +kernel
theorem dX10_worstGap_15 : decode cX10_worstGap 15 = .ok (.iconst 0, 1) := by decide +kernel
theorem dX10_worstGap_16 : decode cX10_worstGap 16 = .ok (.istore_n 3, 1) := by decide +kernel
theorem dX10_worstGap_17 : decode cX10_worstGap 17 = .ok (.iconst 0, 1) := by decide +kernel
theorem dX10_worstGap_18 : decode cX10_worstGap 18 = .ok (.istore 4, 2) := by decide +kernel
theorem dX10_worstGap_20 : decode cX10_worstGap 20 = .ok (.iload 4, 2) := by decide +kernel
theorem dX10_worstGap_22 : decode cX10_worstGap 22 = .ok (.aload_n 0, 1) := by decide +kernel
theorem dX10_worstGap_23 : decode cX10_worstGap 23 = .ok (.getfield 10, 3) := by decide +kernel
theorem dX10_worstGap_26 : decode cX10_worstGap 26 = .ok (.getfield 76, 3) := by decide +kernel
theorem dX10_worstGap_29 : decode cX10_worstGap 29 = .ok (.getfield 80, 3) := by decide +kernel
theorem dX10_worstGap_32 : decode cX10_worstGap 32 = .ok (.if_icmp .ge 35, 3) := by decide +kernel
theorem dX10_worstGap_35 : decode cX10_worstGap 35 = .ok (.aload_n 0, 1) := by decide +kernel
theorem dX10_worstGap_36 : decode cX10_worstGap 36 = .ok (.getfield 10, 3) := by decide +kernel
theorem dX10_worstGap_39 : decode cX10_worstGap 39 = .ok (.getfield 76, 3) := by decide +kernel
theorem dX10_worstGap_42 : decode cX10_worstGap 42 = .ok (.iload 4, 2) := by decide +kernel
theorem dX10_worstGap_44 : decode cX10_worstGap 44 = .ok (.invokevirtual 248, 3) := by decide +kernel
theorem dX10_worstGap_47 : decode cX10_worstGap 47 = .ok (.istore 5, 2) := by decide +kernel
theorem dX10_worstGap_49 : decode cX10_worstGap 49 = .ok (.iload 5, 2) := by decide +kernel
theorem dX10_worstGap_51 : decode cX10_worstGap 51 = .ok (.iload_n 3, 1) := by decide +kernel
theorem dX10_worstGap_52 : decode cX10_worstGap 52 = .ok (.if_icmp .le 9, 3) := by decide +kernel
theorem dX10_worstGap_55 : decode cX10_worstGap 55 = .ok (.iload 5, 2) := by decide +kernel
theorem dX10_worstGap_57 : decode cX10_worstGap 57 = .ok (.istore_n 3, 1) := by decide +kernel
theorem dX10_worstGap_58 : decode cX10_worstGap 58 = .ok (.iload 4, 2) := by decide +kernel
theorem dX10_worstGap_60 : decode cX10_worstGap 60 = .ok (.istore_n 2, 1) := by decide +kernel
theorem dX10_worstGap_61 : decode cX10_worstGap 61 = .ok (.iinc 4 1, 3) := by decide +kernel
theorem dX10_worstGap_64 : decode cX10_worstGap 64 = .ok (.goto (-44), 3) := by decide +kernel
theorem dX10_worstGap_67 : decode cX10_worstGap 67 = .ok (.iload_n 3, 1) := by decide +kernel
theorem dX10_worstGap_68 : decode cX10_worstGap 68 = .ok (.ifCond .ne 6, 3) := by decide +kernel
theorem dX10_worstGap_71 : decode cX10_worstGap 71 = .ok (.bipush (-6), 2) := by decide +kernel
theorem dX10_worstGap_73 : decode cX10_worstGap 73 = .ok (.ireturn, 1) := by decide +kernel
theorem dX10_worstGap_74 : decode cX10_worstGap 74 = .ok (.iload_n 1, 1) := by decide +kernel
theorem dX10_worstGap_75 : decode cX10_worstGap 75 = .ok (.ifCond .ne 7, 3) := by decide +kernel
theorem dX10_worstGap_78 : decode cX10_worstGap 78 = .ok (.iload_n 2, 1) := by decide +kernel
theorem dX10_worstGap_79 : decode cX10_worstGap 79 = .ok (.goto 4, 3) := by decide +kernel
theorem dX10_worstGap_82 : decode cX10_worstGap 82 = .ok (.iload_n 3, 1) := by decide +kernel
theorem dX10_worstGap_83 : decode cX10_worstGap 83 = .ok (.ireturn, 1) := by decide +kernel
theorem dX10_findWay_0 : decode cX10_findWay 0 = .ok (.aload_n 0, 1) := by decide +kernel
theorem dX10_findWay_1 : decode cX10_findWay 1 = .ok (.getfield 42, 3) := by decide +kernel
theorem dX10_findWay_4 : decode cX10_findWay 4 = .ok (.aload_n 0, 1) := by decide +kernel
theorem dX10_findWay_5 : decode cX10_findWay 5 = .ok (.getfield 10, 3) := by decide +kernel
theorem dX10_findWay_8 : decode cX10_findWay 8 = .ok (.getfield 76, 3) := by decide +kernel
theorem dX10_findWay_11 : decode cX10_findWay 11 = .ok (.aload_n 0, 1) := by decide +kernel
theorem dX10_findWay_12 : decode cX10_findWay 12 = .ok (.getfield 10, 3) := by decide +kernel
theorem dX10_findWay_15 : decode cX10_findWay 15 = .ok (.iload_n 1, 1) := by decide +kernel
theorem dX10_findWay_16 : decode cX10_findWay 16 = .ok (.invokevirtual 187, 3) := by decide +kernel
theorem dX10_findWay_19 : decode cX10_findWay 19 = .ok (.aload_n 0, 1) := by decide +kernel
theorem dX10_findWay_20 : decode cX10_findWay 20 = .ok (.getfield 10, 3) := by decide +kernel
theorem dX10_findWay_23 : decode cX10_findWay 23 = .ok (.getfield 110, 3) := by decide +kernel
theorem dX10_findWay_26 : decode cX10_findWay 26 = .ok (.getfield 133, 3) := by decide +kernel
theorem dX10_findWay_29 : decode cX10_findWay 29 = .ok (.iload_n 1, 1) := by decide +kernel
theorem dX10_findWay_30 : decode cX10_findWay 30 = .ok (.invokevirtual 58, 3) := by decide +kernel
theorem dX10_findWay_33 : decode cX10_findWay 33 = .ok (.iload_n 2, 1) := by decide +kernel
theorem dX10_findWay_34 : decode cX10_findWay 34 = .ok (.invokevirtual 274, 3) := by decide +kernel
theorem dX10_findWay_37 : decode cX10_findWay 37 = .ok (.return_, 1) := by decide +kernel
theorem dX10_isWithin_0 : decode cX10_isWithin 0 = .ok (.iload_n 0, 1) := by decide +kernel
theorem dX10_isWithin_1 : decode cX10_isWithin 1 = .ok (.iload_n 1, 1) := by decide +kernel
theorem dX10_isWithin_2 : decode cX10_isWithin 2 = .ok (.if_icmp .lt 12, 3) := by decide +kernel
theorem dX10_isWithin_5 : decode cX10_isWithin 5 = .ok (.iload_n 0, 1) := by decide +kernel
theorem dX10_isWithin_6 : decode cX10_isWithin 6 = .ok (.iload_n 2, 1) := by decide +kernel
theorem dX10_isWithin_7 : decode cX10_isWithin 7 = .ok (.if_icmp .gt 7, 3) := by decide +kernel
theorem dX10_isWithin_10 : decode cX10_isWithin 10 = .ok (.iconst 1, 1) := by decide +kernel
theorem dX10_isWithin_11 : decode cX10_isWithin 11 = .ok (.goto 4, 3) := by decide +kernel
theorem dX10_isWithin_14 : decode cX10_isWithin 14 = .ok (.iconst 0, 1) := by decide +kernel
theorem dX10_isWithin_15 : decode cX10_isWithin 15 = .ok (.ireturn, 1) := by decide +kernel
theorem dX10_isSetting_0 : decode cX10_isSetting 0 = .ok (.iload_n 0, 1) := by decide +kernel
theorem dX10_isSetting_1 : decode cX10_isSetting 1 = .ok (.ifCond .ne 13, 3) := by decide +kernel
theorem dX10_isSetting_4 : decode cX10_isSetting 4 = .ok (.iload_n 1, 1) := by decide +kernel
theorem dX10_isSetting_5 : decode cX10_isSetting 5 = .ok (.bipush 10, 2) := by decide +kernel
theorem dX10_isSetting_7 : decode cX10_isSetting 7 = .ok (.sipush 200, 3) := by decide +kernel
theorem dX10_isSetting_10 : decode cX10_isSetting 10 = .ok (.invokestatic 72, 3) := by decide +kernel
theorem dX10_isSetting_13 : decode cX10_isSetting 13 = .ok (.ireturn, 1) := by decide +kernel
theorem dX10_isSetting_14 : decode cX10_isSetting 14 = .ok (.iload_n 0, 1) := by decide +kernel
theorem dX10_isSetting_15 : decode cX10_isSetting 15 = .ok (.iconst 1, 1) := by decide +kernel
theorem dX10_isSetting_16 : decode cX10_isSetting 16 = .ok (.if_icmp .ne 17, 3) := by decide +kernel
theorem dX10_isSetting_19 : decode cX10_isSetting 19 = .ok (.iload_n 1, 1) := by decide +kernel
theorem dX10_isSetting_20 : decode cX10_isSetting 20 = .ok (.iconst 0, 1) := by decide +kernel
theorem dX10_isSetting_21 : decode cX10_isSetting 21 = .ok (.bipush 60, 2) := by decide +kernel
theorem dX10_isSetting_23 : decode cX10_isSetting 23 = .ok (.invokestatic 72, 3) := by decide +kernel
theorem dX10_isSetting_26 : decode cX10_isSetting 26 = .ok (.ifCond .eq 7, 3) := by decide +kernel
theorem dX10_isSetting_29 : decode cX10_isSetting 29 = .ok (.iconst 1, 1) := by decide +kernel
theorem dX10_isSetting_30 : decode cX10_isSetting 30 = .ok (.goto 4, 3) := by decide +kernel
theorem dX10_isSetting_33 : decode cX10_isSetting 33 = .ok (.iconst 0, 1) := by decide +kernel
theorem dX10_isSetting_34 : decode cX10_isSetting 34 = .ok (.ireturn, 1) := by decide +kernel
theorem dX10_isRoom_0 : decode cX10_isRoom 0 = .ok (.iload_n 0, 1) := by decide +kernel
theorem dX10_isRoom_1 : decode cX10_isRoom 1 = .ok (.iconst 0, 1) := by decide +kernel
theorem dX10_isRoom_2 : decode cX10_isRoom 2 = .ok (.bipush 9, 2) := by decide +kernel
theorem dX10_isRoom_4 : decode cX10_isRoom 4 = .ok (.invokestatic 72, 3) := by decide +kernel
theorem dX10_isRoom_7 : decode cX10_isRoom 7 = .ok (.ireturn, 1) := by decide +kernel
theorem dX10_isGhost_0 : decode cX10_isGhost 0 = .ok (.iload_n 0, 1) := by decide +kernel
theorem dX10_isGhost_1 : decode cX10_isGhost 1 = .ok (.iconst 0, 1) := by decide +kernel
theorem dX10_isGhost_2 : decode cX10_isGhost 2 = .ok (.iconst 3, 1) := by decide +kernel
theorem dX10_isGhost_3 : decode cX10_isGhost 3 = .ok (.invokestatic 72, 3) := by decide +kernel
theorem dX10_isGhost_6 : decode cX10_isGhost 6 = .ok (.ireturn, 1) := by decide +kernel
theorem dX10_holds_0 : decode cX10_holds 0 = .ok (.iload_n 0, 1) := by decide +kernel
theorem dX10_holds_1 : decode cX10_holds 1 = .ok (.iload_n 1, 1) := by decide +kernel
theorem dX10_holds_2 : decode cX10_holds 2 = .ok (.ishr, 1) := by decide +kernel
theorem dX10_holds_3 : decode cX10_holds 3 = .ok (.iconst 1, 1) := by decide +kernel
theorem dX10_holds_4 : decode cX10_holds 4 = .ok (.iand, 1) := by decide +kernel
theorem dX10_holds_5 : decode cX10_holds 5 = .ok (.ifCond .eq 7, 3) := by decide +kernel
theorem dX10_holds_8 : decode cX10_holds 8 = .ok (.iconst 1, 1) := by decide +kernel
theorem dX10_holds_9 : decode cX10_holds 9 = .ok (.goto 4, 3) := by decide +kernel
theorem dX10_holds_12 : decode cX10_holds 12 = .ok (.iconst 0, 1) := by decide +kernel
theorem dX10_holds_13 : decode cX10_holds 13 = .ok (.ireturn, 1) := by decide +kernel
