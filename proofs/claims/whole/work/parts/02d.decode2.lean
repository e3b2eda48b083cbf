theorem dX10_passDay_36 : decode cX10_passDay 36 = .ok (.iconst 0, 1) := by decide +kernel
theorem dX10_passDay_37 : decode cX10_passDay 37 = .ok (.iload_n 1, 1) := by decide +kernel
theorem dX10_passDay_38 : decode cX10_passDay 38 = .ok (.invokevirtual 215, 3) := by decide +kernel
theorem dX10_passDay_41 : decode cX10_passDay 41 = .ok (.aload_n 0, 1) := by decide +kernel
theorem dX10_passDay_42 : decode cX10_passDay 42 = .ok (.getfield 38, 3) := by decide +kernel
theorem dX10_passDay_45 : decode cX10_passDay 45 = .ok (.iload_n 1, 1) := by decide +kernel
theorem dX10_passDay_46 : decode cX10_passDay 46 = .ok (.iaload, 1) := by decide +kernel
theorem dX10_passDay_47 : decode cX10_passDay 47 = .ok (.iadd, 1) := by decide +kernel
theorem dX10_passDay_48 : decode cX10_passDay 48 = .ok (.aload_n 0, 1) := by decide +kernel
theorem dX10_passDay_49 : decode cX10_passDay 49 = .ok (.getfield 7, 3) := by decide +kernel
theorem dX10_passDay_52 : decode cX10_passDay 52 = .ok (.bipush 37, 2) := by decide +kernel
theorem dX10_passDay_54 : decode cX10_passDay 54 = .ok (.iaload, 1) := by decide +kernel
theorem dX10_passDay_55 : decode cX10_passDay 55 = .ok (.if_icmp .ne 42, 3) := by decide +kernel
theorem dX10_passDay_58 : decode cX10_passDay 58 = .ok (.aload_n 0, 1) := by decide +kernel
theorem dX10_passDay_59 : decode cX10_passDay 59 = .ok (.getfield 7, 3) := by decide +kernel
theorem dX10_passDay_62 : decode cX10_passDay 62 = .ok (.iload_n 1, 1) := by decide +kernel
theorem dX10_passDay_63 : decode cX10_passDay 63 = .ok (.iconst 2, 1) := by decide +kernel
theorem dX10_passDay_64 : decode cX10_passDay 64 = .ok (.iastore, 1) := by decide +kernel
theorem dX10_passDay_65 : decode cX10_passDay 65 = .ok (.aload_n 0, 1) := by decide +kernel
theorem dX10_passDay_66 : decode cX10_passDay 66 = .ok (.getfield 7, 3) := by decide +kernel
theorem dX10_passDay_69 : decode cX10_passDay 69 = .ok (.bipush 7, 2) := by decide +kernel
theorem dX10_passDay_71 : decode cX10_passDay 71 = .ok (.iload_n 1, 1) := by decide +kernel
theorem dX10_passDay_72 : decode cX10_passDay 72 = .ok (.iadd, 1) := by decide +kernel
theorem dX10_passDay_73 : decode cX10_passDay 73 = .ok (.aload_n 0, 1) := by decide +kernel
theorem dX10_passDay_74 : decode cX10_passDay 74 = .ok (.getfield 7, 3) := by decide +kernel
theorem dX10_passDay_77 : decode cX10_passDay 77 = .ok (.bipush 37, 2) := by decide +kernel
theorem dX10_passDay_79 : decode cX10_passDay 79 = .ok (.iaload, 1) := by decide +kernel
theorem dX10_passDay_80 : decode cX10_passDay 80 = .ok (.iastore, 1) := by decide +kernel
theorem dX10_passDay_81 : decode cX10_passDay 81 = .ok (.aload_n 0, 1) := by decide +kernel
theorem dX10_passDay_82 : decode cX10_passDay 82 = .ok (.iload_n 1, 1) := by decide +kernel
theorem dX10_passDay_83 : decode cX10_passDay 83 = .ok (.aload_n 0, 1) := by decide +kernel
theorem dX10_passDay_84 : decode cX10_passDay 84 = .ok (.getfield 41, 3) := by decide +kernel
theorem dX10_passDay_87 : decode cX10_passDay 87 = .ok (.iload_n 1, 1) := by decide +kernel
theorem dX10_passDay_88 : decode cX10_passDay 88 = .ok (.iaload, 1) := by decide +kernel
theorem dX10_passDay_89 : decode cX10_passDay 89 = .ok (.invokevirtual 241, 3) := by decide +kernel
theorem dX10_passDay_92 : decode cX10_passDay 92 = .ok (.aload_n 0, 1) := by decide +kernel
theorem dX10_passDay_93 : decode cX10_passDay 93 = .ok (.iload_n 1, 1) := by decide +kernel
theorem dX10_passDay_94 : decode cX10_passDay 94 = .ok (.invokevirtual 244, 3) := by decide +kernel
theorem dX10_passDay_97 : decode cX10_passDay 97 = .ok (.iinc 1 1, 3) := by decide +kernel
theorem dX10_passDay_100 : decode cX10_passDay 100 = .ok (.goto (-94), 3) := by decide +kernel
theorem dX10_passDay_103 : decode cX10_passDay 103 = .ok (.aload_n 0, 1) := by decide +kernel
theorem dX10_passDay_104 : decode cX10_passDay 104 = .ok (.getfield 7, 3) := by decide +kernel
theorem dX10_passDay_107 : decode cX10_passDay 107 = .ok (.bipush 37, 2) := by decide +kernel
theorem dX10_passDay_109 : decode cX10_passDay 109 = .ok (.dup2, 1) := by decide +kernel
theorem dX10_passDay_110 : decode cX10_passDay 110 = .ok (.iaload, 1) := by decide +kernel
theorem dX10_passDay_111 : decode cX10_passDay 111 = .ok (.iconst 1, 1) := by decide +kernel
theorem dX10_passDay_112 : decode cX10_passDay 112 = .ok (.iadd, 1) := by decide +kernel
theorem dX10_passDay_113 : decode cX10_passDay 113 = .ok (.iastore, 1) := by decide +kernel
theorem dX10_passDay_114 : decode cX10_passDay 114 = .ok (.return_, 1) := by decide +kernel
theorem dX10_refusedDays_0 : decode cX10_refusedDays 0 = .ok (.iload_n 1, 1) := by decide +kernel
theorem dX10_refusedDays_1 : decode cX10_refusedDays 1 = .ok (.i2l, 1) := by decide +kernel
theorem dX10_refusedDays_2 : decode cX10_refusedDays 2 = .ok (.lconst 1, 1) := by decide +kernel
theorem dX10_refusedDays_3 : decode cX10_refusedDays 3 = .ok (.ldc2_w 247, 3) := by decide +kernel
theorem dX10_refusedDays_6 : decode cX10_refusedDays 6 = .ok (.invokestatic 89, 3) := by decide +kernel
theorem dX10_refusedDays_9 : decode cX10_refusedDays 9 = .ok (.ifCond .ne 8, 3) := by decide +kernel
theorem dX10_refusedDays_12 : decode cX10_refusedDays 12 = .ok (.ldc 93, 2) := by decide +kernel
theorem dX10_refusedDays_14 : decode cX10_refusedDays 14 = .ok (.goto 34, 3) := by decide +kernel
theorem dX10_refusedDays_17 : decode cX10_refusedDays 17 = .ok (.aload_n 0, 1) := by decide +kernel
theorem dX10_refusedDays_18 : decode cX10_refusedDays 18 = .ok (.getfield 166, 3) := by decide +kernel
theorem dX10_refusedDays_21 : decode cX10_refusedDays 21 = .ok (.ifCond .ne 8, 3) := by decide +kernel
theorem dX10_refusedDays_24 : decode cX10_refusedDays 24 = .ok (.ldc 227, 2) := by decide +kernel
theorem dX10_refusedDays_26 : decode cX10_refusedDays 26 = .ok (.goto 22, 3) := by decide +kernel
theorem dX10_refusedDays_29 : decode cX10_refusedDays 29 = .ok (.aload_n 0, 1) := by decide +kernel
theorem dX10_refusedDays_30 : decode cX10_refusedDays 30 = .ok (.getfield 7, 3) := by decide +kernel
theorem dX10_refusedDays_33 : decode cX10_refusedDays 33 = .ok (.bipush 37, 2) := by decide +kernel
theorem dX10_refusedDays_35 : decode cX10_refusedDays 35 = .ok (.iaload, 1) := by decide +kernel
theorem dX10_refusedDays_36 : decode cX10_refusedDays 36 = .ok (.sipush 9000, 3) := by decide +kernel
theorem dX10_refusedDays_39 : decode cX10_refusedDays 39 = .ok (.if_icmp .le 8, 3) := by decide +kernel
theorem dX10_refusedDays_42 : decode cX10_refusedDays 42 = .ok (.ldc 97, 2) := by decide +kernel
theorem dX10_refusedDays_44 : decode cX10_refusedDays 44 = .ok (.goto 4, 3) := by decide +kernel
theorem dX10_refusedDays_47 : decode cX10_refusedDays 47 = .ok (.iconst 0, 1) := by decide +kernel
theorem dX10_refusedDays_48 : decode cX10_refusedDays 48 = .ok (.ireturn, 1) := by decide +kernel
theorem dX10_day_0 : decode cX10_day 0 = .ok (.aload_n 0, 1) := by decide +kernel
theorem dX10_day_1 : decode cX10_day 1 = .ok (.iload_n 1, 1) := by decide +kernel
theorem dX10_day_2 : decode cX10_day 2 = .ok (.invokevirtual 249, 3) := by decide +kernel
theorem dX10_day_5 : decode cX10_day 5 = .ok (.ifCond .ge 9, 3) := by decide +kernel
theorem dX10_day_8 : decode cX10_day 8 = .ok (.aload_n 0, 1) := by decide +kernel
theorem dX10_day_9 : decode cX10_day 9 = .ok (.iload_n 1, 1) := by decide +kernel
theorem dX10_day_10 : decode cX10_day 10 = .ok (.invokevirtual 249, 3) := by decide +kernel
theorem dX10_day_13 : decode cX10_day 13 = .ok (.ireturn, 1) := by decide +kernel
theorem dX10_day_14 : decode cX10_day 14 = .ok (.iconst 0, 1) := by decide +kernel
theorem dX10_day_15 : decode cX10_day 15 = .ok (.istore_n 2, 1) := by decide +kernel
theorem dX10_day_16 : decode cX10_day 16 = .ok (.iload_n 2, 1) := by decide +kernel
theorem dX10_day_17 : decode cX10_day 17 = .ok (.iload_n 1, 1) := by decide +kernel
theorem dX10_day_18 : decode cX10_day 18 = .ok (.if_icmp .ge 13, 3) := by decide +kernel
theorem dX10_day_21 : decode cX10_day 21 = .ok (.aload_n 0, 1) := by decide +kernel
theorem dX10_day_22 : decode cX10_day 22 = .ok (.invokevirtual 252, 3) := by decide +kernel
theorem dX10_day_25 : decode cX10_day 25 = .ok (.iinc 2 1, 3) := by decide +kernel
theorem dX10_day_28 : decode cX10_day 28 = .ok (.goto (-12), 3) := by decide +kernel
theorem dX10_day_31 : decode cX10_day 31 = .ok (.aload_n 0, 1) := by decide +kernel
theorem dX10_day_32 : decode cX10_day 32 = .ok (.getfield 7, 3) := by decide +kernel
theorem dX10_day_35 : decode cX10_day 35 = .ok (.bipush 37, 2) := by decide +kernel
theorem dX10_day_37 : decode cX10_day 37 = .ok (.iaload, 1) := by decide +kernel
theorem dX10_day_38 : decode cX10_day 38 = .ok (.ireturn, 1) := by decide +kernel
theorem dX10_canKeep_0 : decode cX10_canKeep 0 = .ok (.aload_n 0, 1) := by decide +kernel
theorem dX10_canKeep_1 : decode cX10_canKeep 1 = .ok (.getfield 7, 3) := by decide +kernel
theorem dX10_canKeep_4 : decode cX10_canKeep 4 = .ok (.bipush 14, 2) := by decide +kernel
theorem dX10_canKeep_6 : decode cX10_canKeep 6 = .ok (.iload_n 1, 1) := by decide +kernel
theorem dX10_canKeep_7 : decode cX10_canKeep 7 = .ok (.iadd, 1) := by decide +kernel
theorem dX10_canKeep_8 : decode cX10_canKeep 8 = .ok (.iaload, 1) := by decide +kernel
theorem dX10_canKeep_9 : decode cX10_canKeep 9 = .ok (.istore_n 2, 1) := by decide +kernel
theorem dX10_canKeep_10 : decode cX10_canKeep 10 = .ok (.aload_n 0, 1) := by decide +kernel
theorem dX10_canKeep_11 : decode cX10_canKeep 11 = .ok (.getfield 7, 3) := by decide +kernel
theorem dX10_canKeep_14 : decode cX10_canKeep 14 = .ok (.iload_n 1, 1) := by decide +kernel
theorem dX10_canKeep_15 : decode cX10_canKeep 15 = .ok (.iaload, 1) := by decide +kernel
theorem dX10_canKeep_16 : decode cX10_canKeep 16 = .ok (.ifCond .ne 61, 3) := by decide +kernel
theorem dX10_canKeep_19 : decode cX10_canKeep 19 = .ok (.aload_n 0, 1) := by decide +kernel
theorem dX10_canKeep_20 : decode cX10_canKeep 20 = .ok (.iload_n 2, 1) := by decide +kernel
theorem dX10_canKeep_21 : decode cX10_canKeep 21 = .ok (.invokevirtual 220, 3) := by decide +kernel
theorem dX10_canKeep_24 : decode cX10_canKeep 24 = .ok (.ifCond .ne 53, 3) := by decide +kernel
theorem dX10_canKeep_27 : decode cX10_canKeep 27 = .ok (.aload_n 0, 1) := by decide +kernel
theorem dX10_canKeep_28 : decode cX10_canKeep 28 = .ok (.getfield 7, 3) := by decide +kernel
theorem dX10_canKeep_31 : decode cX10_canKeep 31 = .ok (.bipush 28, 2) := by decide +kernel
theorem dX10_canKeep_33 : decode cX10_canKeep 33 = .ok (.iload_n 2, 1) := by decide +kernel
theorem dX10_canKeep_34 : decode cX10_canKeep 34 = .ok (.iadd, 1) := by decide +kernel
theorem dX10_canKeep_35 : decode cX10_canKeep 35 = .ok (.iaload, 1) := by decide +kernel
theorem dX10_canKeep_36 : decode cX10_canKeep 36 = .ok (.aload_n 0, 1) := by decide +kernel
theorem dX10_canKeep_37 : decode cX10_canKeep 37 = .ok (.getfield 32, 3) := by decide +kernel
theorem dX10_canKeep_40 : decode cX10_canKeep 40 = .ok (.iload_n 1, 1) := by decide +kernel
theorem dX10_canKeep_41 : decode cX10_canKeep 41 = .ok (.iaload, 1) := by decide +kernel
theorem dX10_canKeep_42 : decode cX10_canKeep 42 = .ok (.if_icmp .ne 35, 3) := by decide +kernel
theorem dX10_canKeep_45 : decode cX10_canKeep 45 = .ok (.aload_n 0, 1) := by decide +kernel
theorem dX10_canKeep_46 : decode cX10_canKeep 46 = .ok (.getfield 7, 3) := by decide +kernel
theorem dX10_canKeep_49 : decode cX10_canKeep 49 = .ok (.bipush 21, 2) := by decide +kernel
theorem dX10_canKeep_51 : decode cX10_canKeep 51 = .ok (.iload_n 1, 1) := by decide +kernel
theorem dX10_canKeep_52 : decode cX10_canKeep 52 = .ok (.iadd, 1) := by decide +kernel
theorem dX10_canKeep_53 : decode cX10_canKeep 53 = .ok (.iaload, 1) := by decide +kernel
theorem dX10_canKeep_54 : decode cX10_canKeep 54 = .ok (.ifCond .lt 23, 3) := by decide +kernel
theorem dX10_canKeep_57 : decode cX10_canKeep 57 = .ok (.aload_n 0, 1) := by decide +kernel
theorem dX10_canKeep_58 : decode cX10_canKeep 58 = .ok (.iconst 0, 1) := by decide +kernel
theorem dX10_canKeep_59 : decode cX10_canKeep 59 = .ok (.iload_n 1, 1) := by decide +kernel
theorem dX10_canKeep_60 : decode cX10_canKeep 60 = .ok (.invokevirtual 215, 3) := by decide +kernel
theorem dX10_canKeep_63 : decode cX10_canKeep 63 = .ok (.aload_n 0, 1) := by decide +kernel
theorem dX10_canKeep_64 : decode cX10_canKeep 64 = .ok (.getfield 7, 3) := by decide +kernel
theorem dX10_canKeep_67 : decode cX10_canKeep 67 = .ok (.bipush 37, 2) := by decide +kernel
theorem dX10_canKeep_69 : decode cX10_canKeep 69 = .ok (.iaload, 1) := by decide +kernel
theorem dX10_canKeep_70 : decode cX10_canKeep 70 = .ok (.if_icmp .gt 7, 3) := by decide +kernel
theorem dX10_canKeep_73 : decode cX10_canKeep 73 = .ok (.iconst 1, 1) := by decide +kernel
theorem dX10_canKeep_74 : decode cX10_canKeep 74 = .ok (.goto 4, 3) := by decide +kernel
theorem dX10_canKeep_77 : decode cX10_canKeep 77 = .ok (.iconst 0, 1) := by decide +kernel
theorem dX10_canKeep_78 : decode cX10_canKeep 78 = .ok (.ireturn, 1) := by decide +kernel
theorem dX10_keepNow_0 : decode cX10_keepNow 0 = .ok (.aload_n 0, 1) := by decide +kernel
theorem dX10_keepNow_1 : decode cX10_keepNow 1 = .ok (.getfield 7, 3) := by decide +kernel
theorem dX10_keepNow_4 : decode cX10_keepNow 4 = .ok (.iload_n 1, 1) := by decide +kernel
theorem dX10_keepNow_5 : decode cX10_keepNow 5 = .ok (.iconst 1, 1) := by decide +kernel
theorem dX10_keepNow_6 : decode cX10_keepNow 6 = .ok (.iastore, 1) := by decide +kernel
theorem dX10_keepNow_7 : decode cX10_keepNow 7 = .ok (.aload_n 0, 1) := by decide +kernel
theorem dX10_keepNow_8 : decode cX10_keepNow 8 = .ok (.getfield 7, 3) := by decide +kernel
theorem dX10_keepNow_11 : decode cX10_keepNow 11 = .ok (.bipush 7, 2) := by decide +kernel
theorem dX10_keepNow_13 : decode cX10_keepNow 13 = .ok (.iload_n 1, 1) := by decide +kernel
theorem dX10_keepNow_14 : decode cX10_keepNow 14 = .ok (.iadd, 1) := by decide +kernel
theorem dX10_keepNow_15 : decode cX10_keepNow 15 = .ok (.aload_n 0, 1) := by decide +kernel
theorem dX10_keepNow_16 : decode cX10_keepNow 16 = .ok (.getfield 7, 3) := by decide +kernel
theorem dX10_keepNow_19 : decode cX10_keepNow 19 = .ok (.bipush 37, 2) := by decide +kernel
theorem dX10_keepNow_21 : decode cX10_keepNow 21 = .ok (.iaload, 1) := by decide +kernel
theorem dX10_keepNow_22 : decode cX10_keepNow 22 = .ok (.iastore, 1) := by decide +kernel
theorem dX10_keepNow_23 : decode cX10_keepNow 23 = .ok (.iconst 0, 1) := by decide +kernel
theorem dX10_keepNow_24 : decode cX10_keepNow 24 = .ok (.istore_n 2, 1) := by decide +kernel
theorem dX10_keepNow_25 : decode cX10_keepNow 25 = .ok (.iload_n 2, 1) := by decide +kernel
theorem dX10_keepNow_26 : decode cX10_keepNow 26 = .ok (.aload_n 0, 1) := by decide +kernel
theorem dX10_keepNow_27 : decode cX10_keepNow 27 = .ok (.getfield 175, 3) := by decide +kernel
theorem dX10_keepNow_30 : decode cX10_keepNow 30 = .ok (.if_icmp .ge 47, 3) := by decide +kernel
theorem dX10_keepNow_33 : decode cX10_keepNow 33 = .ok (.aload_n 0, 1) := by decide +kernel
theorem dX10_keepNow_34 : decode cX10_keepNow 34 = .ok (.getfield 7, 3) := by decide +kernel
theorem dX10_keepNow_37 : decode cX10_keepNow 37 = .ok (.bipush 21, 2) := by decide +kernel
theorem dX10_keepNow_39 : decode cX10_keepNow 39 = .ok (.iload_n 2, 1) := by decide +kernel
theorem dX10_keepNow_40 : decode cX10_keepNow 40 = .ok (.iadd, 1) := by decide +kernel
theorem dX10_keepNow_41 : decode cX10_keepNow 41 = .ok (.aload_n 0, 1) := by decide +kernel
theorem dX10_keepNow_42 : decode cX10_keepNow 42 = .ok (.getfield 44, 3) := by decide +kernel
theorem dX10_keepNow_45 : decode cX10_keepNow 45 = .ok (.iload_n 2, 1) := by decide +kernel
theorem dX10_keepNow_46 : decode cX10_keepNow 46 = .ok (.iaload, 1) := by decide +kernel
theorem dX10_keepNow_47 : decode cX10_keepNow 47 = .ok (.iload_n 1, 1) := by decide +kernel
theorem dX10_keepNow_48 : decode cX10_keepNow 48 = .ok (.if_icmp .ne 13, 3) := by decide +kernel
theorem dX10_keepNow_51 : decode cX10_keepNow 51 = .ok (.aload_n 0, 1) := by decide +kernel
theorem dX10_keepNow_52 : decode cX10_keepNow 52 = .ok (.getfield 7, 3) := by decide +kernel
theorem dX10_keepNow_55 : decode cX10_keepNow 55 = .ok (.bipush 37, 2) := by decide +kernel
theorem dX10_keepNow_57 : decode cX10_keepNow 57 = .ok (.iaload, 1) := by decide +kernel
theorem dX10_keepNow_58 : decode cX10_keepNow 58 = .ok (.goto 12, 3) := by decide +kernel
theorem dX10_keepNow_61 : decode cX10_keepNow 61 = .ok (.aload_n 0, 1) := by decide +kernel
theorem dX10_keepNow_62 : decode cX10_keepNow 62 = .ok (.getfield 7, 3) := by decide +kernel
theorem dX10_keepNow_65 : decode cX10_keepNow 65 = .ok (.bipush 21, 2) := by decide +kernel
theorem dX10_keepNow_67 : decode cX10_keepNow 67 = .ok (.iload_n 2, 1) := by decide +kernel
theorem dX10_keepNow_68 : decode cX10_keepNow 68 = .ok (.iadd, 1) := by decide +kernel
theorem dX10_keepNow_69 : decode cX10_keepNow 69 = .ok (.iaload, 1) := by decide +kernel
theorem dX10_keepNow_70 : decode cX10_keepNow 70 = .ok (.iastore, 1) := by decide +kernel
theorem dX10_keepNow_71 : decode cX10_keepNow 71 = .ok (.iinc 2 1, 3) := by decide +kernel
theorem dX10_keepNow_74 : decode cX10_keepNow 74 = .ok (.goto (-49), 3) := by decide +kernel
theorem dX10_keepNow_77 : decode cX10_keepNow 77 = .ok (.return_, 1) := by decide +kernel
theorem dX10_keep_0 : decode cX10_keep 0 = .ok (.aload_n 0, 1) := by decide +kernel
theorem dX10_keep_1 : decode cX10_keep 1 = .ok (.iload_n 1, 1) := by decide +kernel
theorem dX10_keep_2 : decode cX10_keep 2 = .ok (.invokevirtual 212, 3) := by decide +kernel
theorem dX10_keep_5 : decode cX10_keep 5 = .ok (.ifCond .ne 6, 3) := by decide +kernel
theorem dX10_keep_8 : decode cX10_keep 8 = .ok (.ldc 205, 2) := by decide +kernel
theorem dX10_keep_10 : decode cX10_keep 10 = .ok (.ireturn, 1) := by decide +kernel
theorem dX10_keep_11 : decode cX10_keep 11 = .ok (.aload_n 0, 1) := by decide +kernel
theorem dX10_keep_12 : decode cX10_keep 12 = .ok (.iload_n 1, 1) := by decide +kernel
theorem dX10_keep_13 : decode cX10_keep 13 = .ok (.invokevirtual 255, 3) := by decide +kernel
theorem dX10_keep_16 : decode cX10_keep 16 = .ok (.ifCond .ne 6, 3) := by decide +kernel
theorem dX10_keep_19 : decode cX10_keep 19 = .ok (.ldc 227, 2) := by decide +kernel
theorem dX10_keep_21 : decode cX10_keep 21 = .ok (.ireturn, 1) := by decide +kernel
theorem dX10_keep_22 : decode cX10_keep 22 = .ok (.aload_n 0, 1) := by decide +kernel
theorem dX10_keep_23 : decode cX10_keep 23 = .ok (.iload_n 1, 1) := by decide +kernel
theorem dX10_keep_24 : decode cX10_keep 24 = .ok (.invokevirtual 258, 3) := by decide +kernel
theorem dX10_keep_27 : decode cX10_keep 27 = .ok (.aload_n 0, 1) := by decide +kernel
theorem dX10_keep_28 : decode cX10_keep 28 = .ok (.getfield 41, 3) := by decide +kernel
theorem dX10_keep_31 : decode cX10_keep 31 = .ok (.iload_n 1, 1) := by decide +kernel
theorem dX10_keep_32 : decode cX10_keep 32 = .ok (.iaload, 1) := by decide +kernel
theorem dX10_keep_33 : decode cX10_keep 33 = .ok (.ireturn, 1) := by decide +kernel
theorem dX10_takeDown_0 : decode cX10_takeDown 0 = .ok (.aload_n 0, 1) := by decide +kernel
theorem dX10_takeDown_1 : decode cX10_takeDown 1 = .ok (.iload_n 1, 1) := by decide +kernel
theorem dX10_takeDown_2 : decode cX10_takeDown 2 = .ok (.invokevirtual 212, 3) := by decide +kernel
theorem dX10_takeDown_5 : decode cX10_takeDown 5 = .ok (.ifCond .ne 6, 3) := by decide +kernel
theorem dX10_takeDown_8 : decode cX10_takeDown 8 = .ok (.ldc 205, 2) := by decide +kernel
theorem dX10_takeDown_10 : decode cX10_takeDown 10 = .ok (.ireturn, 1) := by decide +kernel
theorem dX10_takeDown_11 : decode cX10_takeDown 11 = .ok (.aload_n 0, 1) := by decide +kernel
theorem dX10_takeDown_12 : decode cX10_takeDown 12 = .ok (.getfield 7, 3) := by decide +kernel
theorem dX10_takeDown_15 : decode cX10_takeDown 15 = .ok (.iload_n 1, 1) := by decide +kernel
theorem dX10_takeDown_16 : decode cX10_takeDown 16 = .ok (.iaload, 1) := by decide +kernel
theorem dX10_takeDown_17 : decode cX10_takeDown 17 = .ok (.ifCond .ne 31, 3) := by decide +kernel
theorem dX10_takeDown_20 : decode cX10_takeDown 20 = .ok (.aload_n 0, 1) := by decide +kernel
theorem dX10_takeDown_21 : decode cX10_takeDown 21 = .ok (.getfield 7, 3) := by decide +kernel
theorem dX10_takeDown_24 : decode cX10_takeDown 24 = .ok (.bipush 21, 2) := by decide +kernel
theorem dX10_takeDown_26 : decode cX10_takeDown 26 = .ok (.iload_n 1, 1) := by decide +kernel
theorem dX10_takeDown_27 : decode cX10_takeDown 27 = .ok (.iadd, 1) := by decide +kernel
theorem dX10_takeDown_28 : decode cX10_takeDown 28 = .ok (.iaload, 1) := by decide +kernel
theorem dX10_takeDown_29 : decode cX10_takeDown 29 = .ok (.ifCond .lt 22, 3) := by decide +kernel
theorem dX10_takeDown_32 : decode cX10_takeDown 32 = .ok (.aload_n 0, 1) := by decide +kernel
theorem dX10_takeDown_33 : decode cX10_takeDown 33 = .ok (.iconst 0, 1) := by decide +kernel
theorem dX10_takeDown_34 : decode cX10_takeDown 34 = .ok (.iload_n 1, 1) := by decide +kernel
theorem dX10_takeDown_35 : decode cX10_takeDown 35 = .ok (.invokevirtual 215, 3) := by decide +kernel
theorem dX10_takeDown_38 : decode cX10_takeDown 38 = .ok (.aload_n 0, 1) := by decide +kernel
theorem dX10_takeDown_39 : decode cX10_takeDown 39 = .ok (.getfield 7, 3) := by decide +kernel
theorem dX10_takeDown_42 : decode cX10_takeDown 42 = .ok (.bipush 37, 2) := by decide +kernel
theorem dX10_takeDown_44 : decode cX10_takeDown 44 = .ok (.iaload, 1) := by decide +kernel
theorem dX10_takeDown_45 : decode cX10_takeDown 45 = .ok (.if_icmp .gt 6, 3) := by decide +kernel
theorem dX10_takeDown_48 : decode cX10_takeDown 48 = .ok (.ldc 227, 2) := by decide +kernel
theorem dX10_takeDown_50 : decode cX10_takeDown 50 = .ok (.ireturn, 1) := by decide +kernel
theorem dX10_takeDown_51 : decode cX10_takeDown 51 = .ok (.aload_n 0, 1) := by decide +kernel
theorem dX10_takeDown_52 : decode cX10_takeDown 52 = .ok (.getfield 7, 3) := by decide +kernel
theorem dX10_takeDown_55 : decode cX10_takeDown 55 = .ok (.iload_n 1, 1) := by decide +kernel
theorem dX10_takeDown_56 : decode cX10_takeDown 56 = .ok (.iconst 3, 1) := by decide +kernel
theorem dX10_takeDown_57 : decode cX10_takeDown 57 = .ok (.iastore, 1) := by decide +kernel
theorem dX10_takeDown_58 : decode cX10_takeDown 58 = .ok (.aload_n 0, 1) := by decide +kernel
theorem dX10_takeDown_59 : decode cX10_takeDown 59 = .ok (.getfield 7, 3) := by decide +kernel
theorem dX10_takeDown_62 : decode cX10_takeDown 62 = .ok (.bipush 7, 2) := by decide +kernel
theorem dX10_takeDown_64 : decode cX10_takeDown 64 = .ok (.iload_n 1, 1) := by decide +kernel
theorem dX10_takeDown_65 : decode cX10_takeDown 65 = .ok (.iadd, 1) := by decide +kernel
theorem dX10_takeDown_66 : decode cX10_takeDown 66 = .ok (.aload_n 0, 1) := by decide +kernel
theorem dX10_takeDown_67 : decode cX10_takeDown 67 = .ok (.getfield 7, 3) := by decide +kernel
theorem dX10_takeDown_70 : decode cX10_takeDown 70 = .ok (.bipush 37, 2) := by decide +kernel
theorem dX10_takeDown_72 : decode cX10_takeDown 72 = .ok (.iaload, 1) := by decide +kernel
theorem dX10_takeDown_73 : decode cX10_takeDown 73 = .ok (.iastore, 1) := by decide +kernel
theorem dX10_takeDown_74 : decode cX10_takeDown 74 = .ok (.aload_n 0, 1) := by decide +kernel
theorem dX10_takeDown_75 : decode cX10_takeDown 75 = .ok (.iload_n 1, 1) := by decide +kernel
theorem dX10_takeDown_76 : decode cX10_takeDown 76 = .ok (.aload_n 0, 1) := by decide +kernel
theorem dX10_takeDown_77 : decode cX10_takeDown 77 = .ok (.getfield 41, 3) := by decide +kernel
theorem dX10_takeDown_80 : decode cX10_takeDown 80 = .ok (.iload_n 1, 1) := by decide +kernel
theorem dX10_takeDown_81 : decode cX10_takeDown 81 = .ok (.iaload, 1) := by decide +kernel
theorem dX10_takeDown_82 : decode cX10_takeDown 82 = .ok (.iconst 2, 1) := by decide +kernel
theorem dX10_takeDown_83 : decode cX10_takeDown 83 = .ok (.idiv, 1) := by decide +kernel
theorem dX10_takeDown_84 : decode cX10_takeDown 84 = .ok (.invokevirtual 241, 3) := by decide +kernel
theorem dX10_takeDown_87 : decode cX10_takeDown 87 = .ok (.aload_n 0, 1) := by decide +kernel
theorem dX10_takeDown_88 : decode cX10_takeDown 88 = .ok (.iload_n 1, 1) := by decide +kernel
theorem dX10_takeDown_89 : decode cX10_takeDown 89 = .ok (.invokevirtual 244, 3) := by decide +kernel
theorem dX10_takeDown_92 : decode cX10_takeDown 92 = .ok (.aload_n 0, 1) := by decide +kernel
theorem dX10_takeDown_93 : decode cX10_takeDown 93 = .ok (.getfield 41, 3) := by decide +kernel
theorem dX10_takeDown_96 : decode cX10_takeDown 96 = .ok (.iload_n 1, 1) := by decide +kernel
theorem dX10_takeDown_97 : decode cX10_takeDown 97 = .ok (.iaload, 1) := by decide +kernel
theorem dX10_takeDown_98 : decode cX10_takeDown 98 = .ok (.iconst 2, 1) := by decide +kernel
theorem dX10_takeDown_99 : decode cX10_takeDown 99 = .ok (.idiv, 1) := by decide +kernel
theorem dX10_takeDown_100 : decode cX10_takeDown 100 = .ok (.ireturn, 1) := by decide +kernel
theorem dX10_swap_0 : decode cX10_swap 0 = .ok (.aload_n 0, 1) := by decide +kernel
theorem dX10_swap_1 : decode cX10_swap 1 = .ok (.iload_n 1, 1) := by decide +kernel
theorem dX10_swap_2 : decode cX10_swap 2 = .ok (.invokevirtual 212, 3) := by decide +kernel
theorem dX10_swap_5 : decode cX10_swap 5 = .ok (.ifCond .eq 16, 3) := by decide +kernel
theorem dX10_swap_8 : decode cX10_swap 8 = .ok (.aload_n 0, 1) := by decide +kernel
theorem dX10_swap_9 : decode cX10_swap 9 = .ok (.iload_n 2, 1) := by decide +kernel
theorem dX10_swap_10 : decode cX10_swap 10 = .ok (.invokevirtual 212, 3) := by decide +kernel
theorem dX10_swap_13 : decode cX10_swap 13 = .ok (.ifCond .eq 8, 3) := by decide +kernel
theorem dX10_swap_16 : decode cX10_swap 16 = .ok (.iload_n 1, 1) := by decide +kernel
theorem dX10_swap_17 : decode cX10_swap 17 = .ok (.iload_n 2, 1) := by decide +kernel
theorem dX10_swap_18 : decode cX10_swap 18 = .ok (.if_icmp .ne 6, 3) := by decide +kernel
theorem dX10_swap_21 : decode cX10_swap 21 = .ok (.ldc 205, 2) := by decide +kernel
theorem dX10_swap_23 : decode cX10_swap 23 = .ok (.ireturn, 1) := by decide +kernel
theorem dX10_swap_24 : decode cX10_swap 24 = .ok (.aload_n 0, 1) := by decide +kernel
theorem dX10_swap_25 : decode cX10_swap 25 = .ok (.getfield 7, 3) := by decide +kernel
theorem dX10_swap_28 : decode cX10_swap 28 = .ok (.iload_n 1, 1) := by decide +kernel
theorem dX10_swap_29 : decode cX10_swap 29 = .ok (.iaload, 1) := by decide +kernel
theorem dX10_swap_30 : decode cX10_swap 30 = .ok (.ifCond .ne 27, 3) := by decide +kernel
theorem dX10_swap_33 : decode cX10_swap 33 = .ok (.aload_n 0, 1) := by decide +kernel
theorem dX10_swap_34 : decode cX10_swap 34 = .ok (.getfield 7, 3) := by decide +kernel
theorem dX10_swap_37 : decode cX10_swap 37 = .ok (.iload_n 2, 1) := by decide +kernel
theorem dX10_swap_38 : decode cX10_swap 38 = .ok (.iaload, 1) := by decide +kernel
theorem dX10_swap_39 : decode cX10_swap 39 = .ok (.ifCond .ne 18, 3) := by decide +kernel
theorem dX10_swap_42 : decode cX10_swap 42 = .ok (.aload_n 0, 1) := by decide +kernel
theorem dX10_swap_43 : decode cX10_swap 43 = .ok (.getfield 41, 3) := by decide +kernel
theorem dX10_swap_46 : decode cX10_swap 46 = .ok (.iload_n 1, 1) := by decide +kernel
theorem dX10_swap_47 : decode cX10_swap 47 = .ok (.iaload, 1) := by decide +kernel
theorem dX10_swap_48 : decode cX10_swap 48 = .ok (.aload_n 0, 1) := by decide +kernel
theorem dX10_swap_49 : decode cX10_swap 49 = .ok (.getfield 41, 3) := by decide +kernel
theorem dX10_swap_52 : decode cX10_swap 52 = .ok (.iload_n 2, 1) := by decide +kernel
theorem dX10_swap_53 : decode cX10_swap 53 = .ok (.iaload, 1) := by decide +kernel
theorem dX10_swap_54 : decode cX10_swap 54 = .ok (.if_icmp .eq 6, 3) := by decide +kernel
theorem dX10_swap_57 : decode cX10_swap 57 = .ok (.ldc 227, 2) := by decide +kernel
theorem dX10_swap_59 : decode cX10_swap 59 = .ok (.ireturn, 1) := by decide +kernel
theorem dX10_swap_60 : decode cX10_swap 60 = .ok (.aload_n 0, 1) := by decide +kernel
theorem dX10_swap_61 : decode cX10_swap 61 = .ok (.getfield 7, 3) := by decide +kernel
theorem dX10_swap_64 : decode cX10_swap 64 = .ok (.bipush 14, 2) := by decide +kernel
theorem dX10_swap_66 : decode cX10_swap 66 = .ok (.iload_n 1, 1) := by decide +kernel
theorem dX10_swap_67 : decode cX10_swap 67 = .ok (.iadd, 1) := by decide +kernel
theorem dX10_swap_68 : decode cX10_swap 68 = .ok (.iaload, 1) := by decide +kernel
theorem dX10_swap_69 : decode cX10_swap 69 = .ok (.istore_n 3, 1) := by decide +kernel
theorem dX10_swap_70 : decode cX10_swap 70 = .ok (.aload_n 0, 1) := by decide +kernel
theorem dX10_swap_71 : decode cX10_swap 71 = .ok (.getfield 7, 3) := by decide +kernel
theorem dX10_swap_74 : decode cX10_swap 74 = .ok (.bipush 14, 2) := by decide +kernel
theorem dX10_swap_76 : decode cX10_swap 76 = .ok (.iload_n 1, 1) := by decide +kernel
theorem dX10_swap_77 : decode cX10_swap 77 = .ok (.iadd, 1) := by decide +kernel
theorem dX10_swap_78 : decode cX10_swap 78 = .ok (.aload_n 0, 1) := by decide +kernel
theorem dX10_swap_79 : decode cX10_swap 79 = .ok (.getfield 7, 3) := by decide +kernel
theorem dX10_swap_82 : decode cX10_swap 82 = .ok (.bipush 14, 2) := by decide +kernel
theorem dX10_swap_84 : decode cX10_swap 84 = .ok (.iload_n 2, 1) := by decide +kernel
theorem dX10_swap_85 : decode cX10_swap 85 = .ok (.iadd, 1) := by decide +kernel
theorem dX10_swap_86 : decode cX10_swap 86 = .ok (.iaload, 1) := by decide +kernel
theorem dX10_swap_87 : decode cX10_swap 87 = .ok (.iastore, 1) := by decide +kernel
theorem dX10_swap_88 : decode cX10_swap 88 = .ok (.aload_n 0, 1) := by decide +kernel
theorem dX10_swap_89 : decode cX10_swap 89 = .ok (.getfield 7, 3) := by decide +kernel
theorem dX10_swap_92 : decode cX10_swap 92 = .ok (.bipush 14, 2) := by decide +kernel
theorem dX10_swap_94 : decode cX10_swap 94 = .ok (.iload_n 2, 1) := by decide +kernel
theorem dX10_swap_95 : decode cX10_swap 95 = .ok (.iadd, 1) := by decide +kernel
theorem dX10_swap_96 : decode cX10_swap 96 = .ok (.iload_n 3, 1) := by decide +kernel
theorem dX10_swap_97 : decode cX10_swap 97 = .ok (.iastore, 1) := by decide +kernel
theorem dX10_swap_98 : decode cX10_swap 98 = .ok (.iconst 1, 1) := by decide +kernel
theorem dX10_swap_99 : decode cX10_swap 99 = .ok (.ireturn, 1) := by decide +kernel
theorem dX10_draw_0 : decode cX10_draw 0 = .ok (.aload_n 0, 1) := by decide +kernel
theorem dX10_draw_1 : decode cX10_draw 1 = .ok (.getfield 7, 3) := by decide +kernel
theorem dX10_draw_4 : decode cX10_draw 4 = .ok (.bipush 38, 2) := by decide +kernel
theorem dX10_draw_6 : decode cX10_draw 6 = .ok (.aload_n 0, 1) := by decide +kernel
theorem dX10_draw_7 : decode cX10_draw 7 = .ok (.getfield 7, 3) := by decide +kernel
theorem dX10_draw_10 : decode cX10_draw 10 = .ok (.bipush 38, 2) := by decide +kernel
theorem dX10_draw_12 : decode cX10_draw 12 = .ok (.iaload, 1) := by decide +kernel
theorem dX10_draw_13 : decode cX10_draw 13 = .ok (.i2l, 1) := by decide +kernel
theorem dX10_draw_14 : decode cX10_draw 14 = .ok (.ldc2_w 261, 3) := by decide +kernel
theorem dX10_draw_17 : decode cX10_draw 17 = .ok (.lmul, 1) := by decide +kernel
theorem dX10_draw_18 : decode cX10_draw 18 = .ok (.ldc2_w 263, 3) := by decide +kernel
theorem dX10_draw_21 : decode cX10_draw 21 = .ok (.ladd, 1) := by decide +kernel
theorem dX10_draw_22 : decode cX10_draw 22 = .ok (.ldc2_w 265, 3) := by decide +kernel
theorem dX10_draw_25 : decode cX10_draw 25 = .ok (.lrem, 1) := by decide +kernel
theorem dX10_draw_26 : decode cX10_draw 26 = .ok (.l2i, 1) := by decide +kernel
theorem dX10_draw_27 : decode cX10_draw 27 = .ok (.iastore, 1) := by decide +kernel
theorem dX10_draw_28 : decode cX10_draw 28 = .ok (.aload_n 0, 1) := by decide +kernel
theorem dX10_draw_29 : decode cX10_draw 29 = .ok (.getfield 7, 3) := by decide +kernel
theorem dX10_draw_32 : decode cX10_draw 32 = .ok (.bipush 38, 2) := by decide +kernel
theorem dX10_draw_34 : decode cX10_draw 34 = .ok (.iaload, 1) := by decide +kernel
theorem dX10_draw_35 : decode cX10_draw 35 = .ok (.ldc_w 267, 3) := by decide +kernel
theorem dX10_draw_38 : decode cX10_draw 38 = .ok (.idiv, 1) := by decide +kernel
theorem dX10_draw_39 : decode cX10_draw 39 = .ok (.iload_n 1, 1) := by decide +kernel
theorem dX10_draw_40 : decode cX10_draw 40 = .ok (.irem, 1) := by decide +kernel
theorem dX10_draw_41 : decode cX10_draw 41 = .ok (.ireturn, 1) := by decide +kernel
theorem dX10_keeperByDraws_0 : decode cX10_keeperByDraws 0 = .ok (.iconst 0, 1) := by decide +kernel
theorem dX10_keeperByDraws_1 : decode cX10_keeperByDraws 1 = .ok (.istore_n 2, 1) := by decide +kernel
theorem dX10_keeperByDraws_2 : decode cX10_keeperByDraws 2 = .ok (.iload_n 2, 1) := by decide +kernel
theorem dX10_keeperByDraws_3 : decode cX10_keeperByDraws 3 = .ok (.aload_n 0, 1) := by decide +kernel
theorem dX10_keeperByDraws_4 : decode cX10_keeperByDraws 4 = .ok (.getfield 175, 3) := by decide +kernel
theorem dX10_keeperByDraws_7 : decode cX10_keeperByDraws 7 = .ok (.if_icmp .ge 35, 3) := by decide +kernel
theorem dX10_keeperByDraws_10 : decode cX10_keeperByDraws 10 = .ok (.aload_n 0, 1) := by decide +kernel
theorem dX10_keeperByDraws_11 : decode cX10_keeperByDraws 11 = .ok (.getfield 7, 3) := by decide +kernel
theorem dX10_keeperByDraws_14 : decode cX10_keeperByDraws 14 = .ok (.bipush 14, 2) := by decide +kernel
theorem dX10_keeperByDraws_16 : decode cX10_keeperByDraws 16 = .ok (.iload_n 2, 1) := by decide +kernel
theorem dX10_keeperByDraws_17 : decode cX10_keeperByDraws 17 = .ok (.iadd, 1) := by decide +kernel
theorem dX10_keeperByDraws_18 : decode cX10_keeperByDraws 18 = .ok (.iaload, 1) := by decide +kernel
theorem dX10_keeperByDraws_19 : decode cX10_keeperByDraws 19 = .ok (.iload_n 1, 1) := by decide +kernel
theorem dX10_keeperByDraws_20 : decode cX10_keeperByDraws 20 = .ok (.if_icmp .ne 16, 3) := by decide +kernel
theorem dX10_keeperByDraws_23 : decode cX10_keeperByDraws 23 = .ok (.aload_n 0, 1) := by decide +kernel
theorem dX10_keeperByDraws_24 : decode cX10_keeperByDraws 24 = .ok (.iload_n 2, 1) := by decide +kernel
theorem dX10_keeperByDraws_25 : decode cX10_keeperByDraws 25 = .ok (.invokevirtual 255, 3) := by decide +kernel
theorem dX10_keeperByDraws_28 : decode cX10_keeperByDraws 28 = .ok (.ifCond .eq 8, 3) := by decide +kernel
theorem dX10_keeperByDraws_31 : decode cX10_keeperByDraws 31 = .ok (.aload_n 0, 1) := by decide +kernel
theorem dX10_keeperByDraws_32 : decode cX10_keeperByDraws 32 = .ok (.iload_n 2, 1) := by decide +kernel
theorem dX10_keeperByDraws_33 : decode cX10_keeperByDraws 33 = .ok (.invokevirtual 258, 3) := by decide +kernel
theorem dX10_keeperByDraws_36 : decode cX10_keeperByDraws 36 = .ok (.iinc 2 1, 3) := by decide +kernel
theorem dX10_keeperByDraws_39 : decode cX10_keeperByDraws 39 = .ok (.goto (-37), 3) := by decide +kernel
theorem dX10_keeperByDraws_42 : decode cX10_keeperByDraws 42 = .ok (.aload_n 0, 1) := by decide +kernel
theorem dX10_keeperByDraws_43 : decode cX10_keeperByDraws 43 = .ok (.iconst 2, 1) := by decide +kernel
theorem dX10_keeperByDraws_44 : decode cX10_keeperByDraws 44 = .ok (.aload_n 0, 1) := by decide +kernel
theorem dX10_keeperByDraws_45 : decode cX10_keeperByDraws 45 = .ok (.getfield 166, 3) := by decide +kernel
theorem dX10_keeperByDraws_48 : decode cX10_keeperByDraws 48 = .ok (.imul, 1) := by decide +kernel
theorem dX10_keeperByDraws_49 : decode cX10_keeperByDraws 49 = .ok (.invokevirtual 268, 3) := by decide +kernel
theorem dX10_keeperByDraws_52 : decode cX10_keeperByDraws 52 = .ok (.istore_n 2, 1) := by decide +kernel
theorem dX10_keeperByDraws_53 : decode cX10_keeperByDraws 53 = .ok (.iload_n 2, 1) := by decide +kernel
theorem dX10_keeperByDraws_54 : decode cX10_keeperByDraws 54 = .ok (.aload_n 0, 1) := by decide +kernel
theorem dX10_keeperByDraws_55 : decode cX10_keeperByDraws 55 = .ok (.getfield 166, 3) := by decide +kernel
theorem dX10_keeperByDraws_58 : decode cX10_keeperByDraws 58 = .ok (.if_icmp .ge 18, 3) := by decide +kernel
theorem dX10_keeperByDraws_61 : decode cX10_keeperByDraws 61 = .ok (.aload_n 0, 1) := by decide +kernel
theorem dX10_keeperByDraws_62 : decode cX10_keeperByDraws 62 = .ok (.iload_n 1, 1) := by decide +kernel
theorem dX10_keeperByDraws_63 : decode cX10_keeperByDraws 63 = .ok (.iload_n 2, 1) := by decide +kernel
theorem dX10_keeperByDraws_64 : decode cX10_keeperByDraws 64 = .ok (.invokevirtual 223, 3) := by decide +kernel
theorem dX10_keeperByDraws_67 : decode cX10_keeperByDraws 67 = .ok (.ifCond .eq 9, 3) := by decide +kernel
theorem dX10_keeperByDraws_70 : decode cX10_keeperByDraws 70 = .ok (.aload_n 0, 1) := by decide +kernel
theorem dX10_keeperByDraws_71 : decode cX10_keeperByDraws 71 = .ok (.iload_n 1, 1) := by decide +kernel
theorem dX10_keeperByDraws_72 : decode cX10_keeperByDraws 72 = .ok (.iload_n 2, 1) := by decide +kernel
theorem dX10_keeperByDraws_73 : decode cX10_keeperByDraws 73 = .ok (.invokevirtual 228, 3) := by decide +kernel
theorem dX10_keeperByDraws_76 : decode cX10_keeperByDraws 76 = .ok (.return_, 1) := by decide +kernel
theorem dX10_drift_0 : decode cX10_drift 0 = .ok (.aload_n 0, 1) := by decide +kernel
theorem dX10_drift_1 : decode cX10_drift 1 = .ok (.iload_n 1, 1) := by decide +kernel
theorem dX10_drift_2 : decode cX10_drift 2 = .ok (.invokevirtual 249, 3) := by decide +kernel
theorem dX10_drift_5 : decode cX10_drift 5 = .ok (.ifCond .ge 9, 3) := by decide +kernel
theorem dX10_drift_8 : decode cX10_drift 8 = .ok (.aload_n 0, 1) := by decide +kernel
theorem dX10_drift_9 : decode cX10_drift 9 = .ok (.iload_n 1, 1) := by decide +kernel
theorem dX10_drift_10 : decode cX10_drift 10 = .ok (.invokevirtual 249, 3) := by decide +kernel
theorem dX10_drift_13 : decode cX10_drift 13 = .ok (.ireturn, 1) := by decide +kernel
theorem dX10_drift_14 : decode cX10_drift 14 = .ok (.iconst 0, 1) := by decide +kernel
theorem dX10_drift_15 : decode cX10_drift 15 = .ok (.istore_n 2, 1) := by decide +kernel
theorem dX10_drift_16 : decode cX10_drift 16 = .ok (.iload_n 2, 1) := by decide +kernel
theorem dX10_drift_17 : decode cX10_drift 17 = .ok (.iload_n 1, 1) := by decide +kernel
theorem dX10_drift_18 : decode cX10_drift 18 = .ok (.if_icmp .ge 42, 3) := by decide +kernel
theorem dX10_drift_21 : decode cX10_drift 21 = .ok (.iconst 0, 1) := by decide +kernel
theorem dX10_drift_22 : decode cX10_drift 22 = .ok (.istore_n 3, 1) := by decide +kernel
theorem dX10_drift_23 : decode cX10_drift 23 = .ok (.iload_n 3, 1) := by decide +kernel
theorem dX10_drift_24 : decode cX10_drift 24 = .ok (.aload_n 0, 1) := by decide +kernel
theorem dX10_drift_25 : decode cX10_drift 25 = .ok (.getfield 172, 3) := by decide +kernel
theorem dX10_drift_28 : decode cX10_drift 28 = .ok (.if_icmp .ge 22, 3) := by decide +kernel
theorem dX10_drift_31 : decode cX10_drift 31 = .ok (.aload_n 0, 1) := by decide +kernel
theorem dX10_drift_32 : decode cX10_drift 32 = .ok (.iload_n 3, 1) := by decide +kernel
theorem dX10_drift_33 : decode cX10_drift 33 = .ok (.invokevirtual 220, 3) := by decide +kernel
theorem dX10_drift_36 : decode cX10_drift 36 = .ok (.ifCond .ne 8, 3) := by decide +kernel
theorem dX10_drift_39 : decode cX10_drift 39 = .ok (.aload_n 0, 1) := by decide +kernel
theorem dX10_drift_40 : decode cX10_drift 40 = .ok (.iload_n 3, 1) := by decide +kernel
theorem dX10_drift_41 : decode cX10_drift 41 = .ok (.invokevirtual 271, 3) := by decide +kernel
theorem dX10_drift_44 : decode cX10_drift 44 = .ok (.iinc 3 1, 3) := by decide +kernel
theorem dX10_drift_47 : decode cX10_drift 47 = .ok (.goto (-24), 3) := by decide +kernel
theorem dX10_drift_50 : decode cX10_drift 50 = .ok (.aload_n 0, 1) := by decide +kernel
theorem dX10_drift_51 : decode cX10_drift 51 = .ok (.invokevirtual 252, 3) := by decide +kernel
theorem dX10_drift_54 : decode cX10_drift 54 = .ok (.iinc 2 1, 3) := by decide +kernel
theorem dX10_drift_57 : decode cX10_drift 57 = .ok (.goto (-41), 3) := by decide +kernel
theorem dX10_drift_60 : decode cX10_drift 60 = .ok (.aload_n 0, 1) := by decide +kernel
theorem dX10_drift_61 : decode cX10_drift 61 = .ok (.getfield 7, 3) := by decide +kernel
theorem dX10_drift_64 : decode cX10_drift 64 = .ok (.bipush 37, 2) := by decide +kernel
theorem dX10_drift_66 : decode cX10_drift 66 = .ok (.iaload, 1) := by decide +kernel
theorem dX10_drift_67 : decode cX10_drift 67 = .ok (.ireturn, 1) := by decide +kernel
theorem dX10_undo_0 : decode cX10_undo 0 = .ok (.iload_n 1, 1) := by decide +kernel
theorem dX10_undo_1 : decode cX10_undo 1 = .ok (.i2l, 1) := by decide +kernel
theorem dX10_undo_2 : decode cX10_undo 2 = .ok (.lconst 1, 1) := by decide +kernel
theorem dX10_undo_3 : decode cX10_undo 3 = .ok (.ldc2_w 274, 3) := by decide +kernel
theorem dX10_undo_6 : decode cX10_undo 6 = .ok (.invokestatic 89, 3) := by decide +kernel
theorem dX10_undo_9 : decode cX10_undo 9 = .ok (.ifCond .ne 6, 3) := by decide +kernel
theorem dX10_undo_12 : decode cX10_undo 12 = .ok (.ldc 93, 2) := by decide +kernel
theorem dX10_undo_14 : decode cX10_undo 14 = .ok (.ireturn, 1) := by decide +kernel
theorem dX10_undo_15 : decode cX10_undo 15 = .ok (.iload_n 1, 1) := by decide +kernel
theorem dX10_undo_16 : decode cX10_undo 16 = .ok (.aload_n 0, 1) := by decide +kernel
theorem dX10_undo_17 : decode cX10_undo 17 = .ok (.getfield 184, 3) := by decide +kernel
theorem dX10_undo_20 : decode cX10_undo 20 = .ok (.if_icmp .le 6, 3) := by decide +kernel
theorem dX10_undo_23 : decode cX10_undo 23 = .ok (.ldc 227, 2) := by decide +kernel
theorem dX10_undo_25 : decode cX10_undo 25 = .ok (.ireturn, 1) := by decide +kernel
theorem dX10_undo_26 : decode cX10_undo 26 = .ok (.aload_n 0, 1) := by decide +kernel
theorem dX10_undo_27 : decode cX10_undo 27 = .ok (.dup, 1) := by decide +kernel
theorem dX10_undo_28 : decode cX10_undo 28 = .ok (.getfield 184, 3) := by decide +kernel
theorem dX10_undo_31 : decode cX10_undo 31 = .ok (.iload_n 1, 1) := by decide +kernel
theorem dX10_undo_32 : decode cX10_undo 32 = .ok (.isub, 1) := by decide +kernel
theorem dX10_undo_33 : decode cX10_undo 33 = .ok (.putfield 184, 3) := by decide +kernel
theorem dX10_undo_36 : decode cX10_undo 36 = .ok (.aload_n 0, 1) := by decide +kernel
theorem dX10_undo_37 : decode cX10_undo 37 = .ok (.getfield 7, 3) := by decide +kernel
theorem dX10_undo_40 : decode cX10_undo 40 = .ok (.bipush 38, 2) := by decide +kernel
theorem dX10_undo_42 : decode cX10_undo 42 = .ok (.iaload, 1) := by decide +kernel
theorem dX10_undo_43 : decode cX10_undo 43 = .ok (.istore_n 2, 1) := by decide +kernel
theorem dX10_undo_44 : decode cX10_undo 44 = .ok (.aload_n 0, 1) := by decide +kernel
theorem dX10_undo_45 : decode cX10_undo 45 = .ok (.sipush 160, 3) := by decide +kernel
theorem dX10_undo_48 : decode cX10_undo 48 = .ok (.bipush 40, 2) := by decide +kernel
theorem dX10_undo_50 : decode cX10_undo 50 = .ok (.aload_n 0, 1) := by decide +kernel
theorem dX10_undo_51 : decode cX10_undo 51 = .ok (.getfield 184, 3) := by decide +kernel
theorem dX10_undo_54 : decode cX10_undo 54 = .ok (.imul, 1) := by decide +kernel
theorem dX10_undo_55 : decode cX10_undo 55 = .ok (.iadd, 1) := by decide +kernel
theorem dX10_undo_56 : decode cX10_undo 56 = .ok (.iconst 0, 1) := by decide +kernel
theorem dX10_undo_57 : decode cX10_undo 57 = .ok (.invokevirtual 235, 3) := by decide +kernel
theorem dX10_undo_60 : decode cX10_undo 60 = .ok (.aload_n 0, 1) := by decide +kernel
theorem dX10_undo_61 : decode cX10_undo 61 = .ok (.getfield 7, 3) := by decide +kernel
theorem dX10_undo_64 : decode cX10_undo 64 = .ok (.bipush 38, 2) := by decide +kernel
theorem dX10_undo_66 : decode cX10_undo 66 = .ok (.iload_n 2, 1) := by decide +kernel
theorem dX10_undo_67 : decode cX10_undo 67 = .ok (.iastore, 1) := by decide +kernel
theorem dX10_undo_68 : decode cX10_undo 68 = .ok (.aload_n 0, 1) := by decide +kernel
theorem dX10_undo_69 : decode cX10_undo 69 = .ok (.getfield 7, 3) := by decide +kernel
theorem dX10_undo_72 : decode cX10_undo 72 = .ok (.bipush 37, 2) := by decide +kernel
theorem dX10_undo_74 : decode cX10_undo 74 = .ok (.iaload, 1) := by decide +kernel
theorem dX10_undo_75 : decode cX10_undo 75 = .ok (.ireturn, 1) := by decide +kernel
theorem dX10_townBy_0 : decode cX10_townBy 0 = .ok (.iload_n 1, 1) := by decide +kernel
theorem dX10_townBy_1 : decode cX10_townBy 1 = .ok (.bipush 7, 2) := by decide +kernel
theorem dX10_townBy_3 : decode cX10_townBy 3 = .ok (.if_icmp .ne 10, 3) := by decide +kernel
theorem dX10_townBy_6 : decode cX10_townBy 6 = .ok (.aload_n 0, 1) := by decide +kernel
theorem dX10_townBy_7 : decode cX10_townBy 7 = .ok (.getfield 276, 3) := by decide +kernel
theorem dX10_townBy_10 : decode cX10_townBy 10 = .ok (.goto 9, 3) := by decide +kernel
theorem dX10_townBy_13 : decode cX10_townBy 13 = .ok (.aload_n 0, 1) := by decide +kernel
theorem dX10_townBy_14 : decode cX10_townBy 14 = .ok (.getfield 32, 3) := by decide +kernel
theorem dX10_townBy_17 : decode cX10_townBy 17 = .ok (.iload_n 1, 1) := by decide +kernel
theorem dX10_townBy_18 : decode cX10_townBy 18 = .ok (.iaload, 1) := by decide +kernel
theorem dX10_townBy_19 : decode cX10_townBy 19 = .ok (.ireturn, 1) := by decide +kernel
theorem dX10_ageBy_0 : decode cX10_ageBy 0 = .ok (.iload_n 1, 1) := by decide +kernel
theorem dX10_ageBy_1 : decode cX10_ageBy 1 = .ok (.bipush 7, 2) := by decide +kernel
theorem dX10_ageBy_3 : decode cX10_ageBy 3 = .ok (.if_icmp .ne 10, 3) := by decide +kernel
theorem dX10_ageBy_6 : decode cX10_ageBy 6 = .ok (.aload_n 0, 1) := by decide +kernel
theorem dX10_ageBy_7 : decode cX10_ageBy 7 = .ok (.getfield 279, 3) := by decide +kernel
theorem dX10_ageBy_10 : decode cX10_ageBy 10 = .ok (.goto 9, 3) := by decide +kernel
theorem dX10_ageBy_13 : decode cX10_ageBy 13 = .ok (.aload_n 0, 1) := by decide +kernel
theorem dX10_ageBy_14 : decode cX10_ageBy 14 = .ok (.getfield 35, 3) := by decide +kernel
theorem dX10_ageBy_17 : decode cX10_ageBy 17 = .ok (.iload_n 1, 1) := by decide +kernel
theorem dX10_ageBy_18 : decode cX10_ageBy 18 = .ok (.iaload, 1) := by decide +kernel
theorem dX10_ageBy_19 : decode cX10_ageBy 19 = .ok (.ireturn, 1) := by decide +kernel
theorem dX10_slackBy_0 : decode cX10_slackBy 0 = .ok (.iload_n 1, 1) := by decide +kernel
theorem dX10_slackBy_1 : decode cX10_slackBy 1 = .ok (.bipush 7, 2) := by decide +kernel
theorem dX10_slackBy_3 : decode cX10_slackBy 3 = .ok (.if_icmp .ne 10, 3) := by decide +kernel
theorem dX10_slackBy_6 : decode cX10_slackBy 6 = .ok (.aload_n 0, 1) := by decide +kernel
theorem dX10_slackBy_7 : decode cX10_slackBy 7 = .ok (.getfield 282, 3) := by decide +kernel
theorem dX10_slackBy_10 : decode cX10_slackBy 10 = .ok (.goto 9, 3) := by decide +kernel
theorem dX10_slackBy_13 : decode cX10_slackBy 13 = .ok (.aload_n 0, 1) := by decide +kernel
theorem dX10_slackBy_14 : decode cX10_slackBy 14 = .ok (.getfield 38, 3) := by decide +kernel
theorem dX10_slackBy_17 : decode cX10_slackBy 17 = .ok (.iload_n 1, 1) := by decide +kernel
theorem dX10_slackBy_18 : decode cX10_slackBy 18 = .ok (.iaload, 1) := by decide +kernel
theorem dX10_slackBy_19 : decode cX10_slackBy 19 = .ok (.ireturn, 1) := by decide +kernel
theorem dX10_givenBy_0 : decode cX10_givenBy 0 = .ok (.iload_n 1, 1) := by decide +kernel
theorem dX10_givenBy_1 : decode cX10_givenBy 1 = .ok (.bipush 7, 2) := by decide +kernel
theorem dX10_givenBy_3 : decode cX10_givenBy 3 = .ok (.if_icmp .eq 15, 3) := by decide +kernel
theorem dX10_givenBy_6 : decode cX10_givenBy 6 = .ok (.aload_n 0, 1) := by decide +kernel
theorem dX10_givenBy_7 : decode cX10_givenBy 7 = .ok (.getfield 7, 3) := by decide +kernel
theorem dX10_givenBy_10 : decode cX10_givenBy 10 = .ok (.bipush 21, 2) := by decide +kernel
theorem dX10_givenBy_12 : decode cX10_givenBy 12 = .ok (.iload_n 1, 1) := by decide +kernel
theorem dX10_givenBy_13 : decode cX10_givenBy 13 = .ok (.iadd, 1) := by decide +kernel
theorem dX10_givenBy_14 : decode cX10_givenBy 14 = .ok (.iaload, 1) := by decide +kernel
theorem dX10_givenBy_15 : decode cX10_givenBy 15 = .ok (.ifCond .lt 29, 3) := by decide +kernel
theorem dX10_givenBy_18 : decode cX10_givenBy 18 = .ok (.iload_n 1, 1) := by decide +kernel
theorem dX10_givenBy_19 : decode cX10_givenBy 19 = .ok (.bipush 7, 2) := by decide +kernel
theorem dX10_givenBy_21 : decode cX10_givenBy 21 = .ok (.if_icmp .ne 13, 3) := by decide +kernel
theorem dX10_givenBy_24 : decode cX10_givenBy 24 = .ok (.aload_n 0, 1) := by decide +kernel
theorem dX10_givenBy_25 : decode cX10_givenBy 25 = .ok (.getfield 7, 3) := by decide +kernel
theorem dX10_givenBy_28 : decode cX10_givenBy 28 = .ok (.bipush 37, 2) := by decide +kernel
theorem dX10_givenBy_30 : decode cX10_givenBy 30 = .ok (.iaload, 1) := by decide +kernel
theorem dX10_givenBy_31 : decode cX10_givenBy 31 = .ok (.goto 12, 3) := by decide +kernel
theorem dX10_givenBy_34 : decode cX10_givenBy 34 = .ok (.aload_n 0, 1) := by decide +kernel
theorem dX10_givenBy_35 : decode cX10_givenBy 35 = .ok (.getfield 7, 3) := by decide +kernel
theorem dX10_givenBy_38 : decode cX10_givenBy 38 = .ok (.bipush 21, 2) := by decide +kernel
theorem dX10_givenBy_40 : decode cX10_givenBy 40 = .ok (.iload_n 1, 1) := by decide +kernel
theorem dX10_givenBy_41 : decode cX10_givenBy 41 = .ok (.iadd, 1) := by decide +kernel
theorem dX10_givenBy_42 : decode cX10_givenBy 42 = .ok (.iaload, 1) := by decide +kernel
theorem dX10_givenBy_43 : decode cX10_givenBy 43 = .ok (.ireturn, 1) := by decide +kernel
theorem dX10_givenBy_44 : decode cX10_givenBy 44 = .ok (.iconst (-1), 1) := by decide +kernel
theorem dX10_givenBy_45 : decode cX10_givenBy 45 = .ok (.istore_n 3, 1) := by decide +kernel
theorem dX10_givenBy_46 : decode cX10_givenBy 46 = .ok (.iconst 0, 1) := by decide +kernel
theorem dX10_givenBy_47 : decode cX10_givenBy 47 = .ok (.istore 4, 2) := by decide +kernel
theorem dX10_givenBy_49 : decode cX10_givenBy 49 = .ok (.iload 4, 2) := by decide +kernel
theorem dX10_givenBy_51 : decode cX10_givenBy 51 = .ok (.iload_n 2, 1) := by decide +kernel
theorem dX10_givenBy_52 : decode cX10_givenBy 52 = .ok (.if_icmp .ge 37, 3) := by decide +kernel
theorem dX10_givenBy_55 : decode cX10_givenBy 55 = .ok (.aload_n 0, 1) := by decide +kernel
theorem dX10_givenBy_56 : decode cX10_givenBy 56 = .ok (.getfield 60, 3) := by decide +kernel
theorem dX10_givenBy_59 : decode cX10_givenBy 59 = .ok (.iload 4, 2) := by decide +kernel
theorem dX10_givenBy_61 : decode cX10_givenBy 61 = .ok (.iaload, 1) := by decide +kernel
theorem dX10_givenBy_62 : decode cX10_givenBy 62 = .ok (.aload_n 0, 1) := by decide +kernel
theorem dX10_givenBy_63 : decode cX10_givenBy 63 = .ok (.getfield 44, 3) := by decide +kernel
theorem dX10_givenBy_66 : decode cX10_givenBy 66 = .ok (.iload_n 1, 1) := by decide +kernel
theorem dX10_givenBy_67 : decode cX10_givenBy 67 = .ok (.iaload, 1) := by decide +kernel
theorem dX10_givenBy_68 : decode cX10_givenBy 68 = .ok (.if_icmp .ne 13, 3) := by decide +kernel
theorem dX10_givenBy_71 : decode cX10_givenBy 71 = .ok (.aload_n 0, 1) := by decide +kernel
theorem dX10_givenBy_72 : decode cX10_givenBy 72 = .ok (.getfield 63, 3) := by decide +kernel
theorem dX10_givenBy_75 : decode cX10_givenBy 75 = .ok (.iload 4, 2) := by decide +kernel
theorem dX10_givenBy_77 : decode cX10_givenBy 77 = .ok (.iaload, 1) := by decide +kernel
theorem dX10_givenBy_78 : decode cX10_givenBy 78 = .ok (.goto 4, 3) := by decide +kernel
theorem dX10_givenBy_81 : decode cX10_givenBy 81 = .ok (.iload_n 3, 1) := by decide +kernel
theorem dX10_givenBy_82 : decode cX10_givenBy 82 = .ok (.istore_n 3, 1) := by decide +kernel
theorem dX10_givenBy_83 : decode cX10_givenBy 83 = .ok (.iinc 4 1, 3) := by decide +kernel
theorem dX10_givenBy_86 : decode cX10_givenBy 86 = .ok (.goto (-37), 3) := by decide +kernel
theorem dX10_givenBy_89 : decode cX10_givenBy 89 = .ok (.iload_n 3, 1) := by decide +kernel
theorem dX10_givenBy_90 : decode cX10_givenBy 90 = .ok (.ireturn, 1) := by decide +kernel
theorem dX10_put_0 : decode cX10_put 0 = .ok (.aload_n 0, 1) := by decide +kernel
theorem dX10_put_1 : decode cX10_put 1 = .ok (.iload_n 1, 1) := by decide +kernel
theorem dX10_put_2 : decode cX10_put 2 = .ok (.iload_n 2, 1) := by decide +kernel
theorem dX10_put_3 : decode cX10_put 3 = .ok (.invokevirtual 285, 3) := by decide +kernel
theorem dX10_put_6 : decode cX10_put 6 = .ok (.istore 5, 2) := by decide +kernel
theorem dX10_put_8 : decode cX10_put 8 = .ok (.aload_n 0, 1) := by decide +kernel
theorem dX10_put_9 : decode cX10_put 9 = .ok (.getfield 20, 3) := by decide +kernel
theorem dX10_put_12 : decode cX10_put 12 = .ok (.iconst 5, 1) := by decide +kernel
theorem dX10_put_13 : decode cX10_put 13 = .ok (.iload_n 3, 1) := by decide +kernel
theorem dX10_put_14 : decode cX10_put 14 = .ok (.imul, 1) := by decide +kernel
theorem dX10_put_15 : decode cX10_put 15 = .ok (.aload_n 0, 1) := by decide +kernel
theorem dX10_put_16 : decode cX10_put 16 = .ok (.iload_n 1, 1) := by decide +kernel
theorem dX10_put_17 : decode cX10_put 17 = .ok (.invokevirtual 288, 3) := by decide +kernel
theorem dX10_put_20 : decode cX10_put 20 = .ok (.iadd, 1) := by decide +kernel
theorem dX10_put_21 : decode cX10_put 21 = .ok (.iaload, 1) := by decide +kernel
theorem dX10_put_22 : decode cX10_put 22 = .ok (.istore 6, 2) := by decide +kernel
theorem dX10_put_24 : decode cX10_put 24 = .ok (.iload 5, 2) := by decide +kernel
theorem dX10_put_26 : decode cX10_put 26 = .ok (.ifCond .lt 10, 3) := by decide +kernel
theorem dX10_put_29 : decode cX10_put 29 = .ok (.iload 6, 2) := by decide +kernel
theorem dX10_put_31 : decode cX10_put 31 = .ok (.ldc 156, 2) := by decide +kernel
theorem dX10_put_33 : decode cX10_put 33 = .ok (.if_icmp .lt 5, 3) := by decide +kernel
theorem dX10_put_36 : decode cX10_put 36 = .ok (.iconst 0, 1) := by decide +kernel
theorem dX10_put_37 : decode cX10_put 37 = .ok (.ireturn, 1) := by decide +kernel
theorem dX10_put_38 : decode cX10_put 38 = .ok (.aload_n 0, 1) := by decide +kernel
theorem dX10_put_39 : decode cX10_put 39 = .ok (.aload_n 0, 1) := by decide +kernel
theorem dX10_put_40 : decode cX10_put 40 = .ok (.iload_n 1, 1) := by decide +kernel
theorem dX10_put_41 : decode cX10_put 41 = .ok (.invokevirtual 291, 3) := by decide +kernel
theorem dX10_put_44 : decode cX10_put 44 = .ok (.iload 5, 2) := by decide +kernel
theorem dX10_put_46 : decode cX10_put 46 = .ok (.invokevirtual 195, 3) := by decide +kernel
theorem dX10_put_49 : decode cX10_put 49 = .ok (.istore 7, 2) := by decide +kernel
theorem dX10_put_51 : decode cX10_put 51 = .ok (.iload 4, 2) := by decide +kernel
theorem dX10_put_53 : decode cX10_put 53 = .ok (.iload 6, 2) := by decide +kernel
theorem dX10_put_55 : decode cX10_put 55 = .ok (.iadd, 1) := by decide +kernel
theorem dX10_put_56 : decode cX10_put 56 = .ok (.istore 8, 2) := by decide +kernel
theorem dX10_put_58 : decode cX10_put 58 = .ok (.aload_n 0, 1) := by decide +kernel
theorem dX10_put_59 : decode cX10_put 59 = .ok (.getfield 60, 3) := by decide +kernel
theorem dX10_put_62 : decode cX10_put 62 = .ok (.iload_n 2, 1) := by decide +kernel
theorem dX10_put_63 : decode cX10_put 63 = .ok (.iload_n 1, 1) := by decide +kernel
theorem dX10_put_64 : decode cX10_put 64 = .ok (.iastore, 1) := by decide +kernel
theorem dX10_put_65 : decode cX10_put 65 = .ok (.aload_n 0, 1) := by decide +kernel
theorem dX10_put_66 : decode cX10_put 66 = .ok (.getfield 63, 3) := by decide +kernel
theorem dX10_put_69 : decode cX10_put 69 = .ok (.iload_n 2, 1) := by decide +kernel
theorem dX10_put_70 : decode cX10_put 70 = .ok (.iload 8, 2) := by decide +kernel
theorem dX10_put_72 : decode cX10_put 72 = .ok (.iload 7, 2) := by decide +kernel
theorem dX10_put_74 : decode cX10_put 74 = .ok (.if_icmp .le 8, 3) := by decide +kernel
theorem dX10_put_77 : decode cX10_put 77 = .ok (.iload 8, 2) := by decide +kernel
theorem dX10_put_79 : decode cX10_put 79 = .ok (.goto 5, 3) := by decide +kernel
theorem dX10_put_82 : decode cX10_put 82 = .ok (.iload 7, 2) := by decide +kernel
theorem dX10_put_84 : decode cX10_put 84 = .ok (.iastore, 1) := by decide +kernel
theorem dX10_put_85 : decode cX10_put 85 = .ok (.aload_n 0, 1) := by decide +kernel
theorem dX10_put_86 : decode cX10_put 86 = .ok (.getfield 66, 3) := by decide +kernel
theorem dX10_put_89 : decode cX10_put 89 = .ok (.iload_n 2, 1) := by decide +kernel
theorem dX10_put_90 : decode cX10_put 90 = .ok (.iload 6, 2) := by decide +kernel
theorem dX10_put_92 : decode cX10_put 92 = .ok (.iload_n 2, 1) := by decide +kernel
theorem dX10_put_93 : decode cX10_put 93 = .ok (.ifCond .ne 7, 3) := by decide +kernel
theorem dX10_put_96 : decode cX10_put 96 = .ok (.iconst 0, 1) := by decide +kernel
theorem dX10_put_97 : decode cX10_put 97 = .ok (.goto 11, 3) := by decide +kernel
theorem dX10_put_100 : decode cX10_put 100 = .ok (.aload_n 0, 1) := by decide +kernel
theorem dX10_put_101 : decode cX10_put 101 = .ok (.getfield 66, 3) := by decide +kernel
theorem dX10_put_104 : decode cX10_put 104 = .ok (.iload_n 2, 1) := by decide +kernel
theorem dX10_put_105 : decode cX10_put 105 = .ok (.iconst 1, 1) := by decide +kernel
theorem dX10_put_106 : decode cX10_put 106 = .ok (.isub, 1) := by decide +kernel
theorem dX10_put_107 : decode cX10_put 107 = .ok (.iaload, 1) := by decide +kernel
theorem dX10_put_108 : decode cX10_put 108 = .ok (.iadd, 1) := by decide +kernel
theorem dX10_put_109 : decode cX10_put 109 = .ok (.iastore, 1) := by decide +kernel
theorem dX10_put_110 : decode cX10_put 110 = .ok (.aload_n 0, 1) := by decide +kernel
theorem dX10_put_111 : decode cX10_put 111 = .ok (.getfield 63, 3) := by decide +kernel
theorem dX10_put_114 : decode cX10_put 114 = .ok (.iload_n 2, 1) := by decide +kernel
theorem dX10_put_115 : decode cX10_put 115 = .ok (.iaload, 1) := by decide +kernel
theorem dX10_put_116 : decode cX10_put 116 = .ok (.iload 7, 2) := by decide +kernel
theorem dX10_put_118 : decode cX10_put 118 = .ok (.aload_n 0, 1) := by decide +kernel
theorem dX10_put_119 : decode cX10_put 119 = .ok (.iload_n 1, 1) := by decide +kernel
theorem dX10_put_120 : decode cX10_put 120 = .ok (.invokevirtual 294, 3) := by decide +kernel
theorem dX10_put_123 : decode cX10_put 123 = .ok (.iadd, 1) := by decide +kernel
theorem dX10_put_124 : decode cX10_put 124 = .ok (.if_icmp .gt 7, 3) := by decide +kernel
theorem dX10_put_127 : decode cX10_put 127 = .ok (.iconst 1, 1) := by decide +kernel
theorem dX10_put_128 : decode cX10_put 128 = .ok (.goto 4, 3) := by decide +kernel
theorem dX10_put_131 : decode cX10_put 131 = .ok (.iconst 0, 1) := by decide +kernel
theorem dX10_put_132 : decode cX10_put 132 = .ok (.ireturn, 1) := by decide +kernel
theorem dX10_findOrder_0 : decode cX10_findOrder 0 = .ok (.aload_n 0, 1) := by decide +kernel
theorem dX10_findOrder_1 : decode cX10_findOrder 1 = .ok (.ldc 156, 2) := by decide +kernel
theorem dX10_findOrder_3 : decode cX10_findOrder 3 = .ok (.putfield 297, 3) := by decide +kernel
theorem dX10_findOrder_6 : decode cX10_findOrder 6 = .ok (.aload_n 0, 1) := by decide +kernel
theorem dX10_findOrder_7 : decode cX10_findOrder 7 = .ok (.iconst 0, 1) := by decide +kernel
theorem dX10_findOrder_8 : decode cX10_findOrder 8 = .ok (.putfield 300, 3) := by decide +kernel
theorem dX10_findOrder_11 : decode cX10_findOrder 11 = .ok (.iconst 0, 1) := by decide +kernel
theorem dX10_findOrder_12 : decode cX10_findOrder 12 = .ok (.istore 4, 2) := by decide +kernel
theorem dX10_findOrder_14 : decode cX10_findOrder 14 = .ok (.iload 4, 2) := by decide +kernel
theorem dX10_findOrder_16 : decode cX10_findOrder 16 = .ok (.bipush 7, 2) := by decide +kernel
theorem dX10_findOrder_18 : decode cX10_findOrder 18 = .ok (.if_icmp .gt 24, 3) := by decide +kernel
theorem dX10_findOrder_21 : decode cX10_findOrder 21 = .ok (.aload_n 0, 1) := by decide +kernel
theorem dX10_findOrder_22 : decode cX10_findOrder 22 = .ok (.dup, 1) := by decide +kernel
theorem dX10_findOrder_23 : decode cX10_findOrder 23 = .ok (.getfield 300, 3) := by decide +kernel
theorem dX10_findOrder_26 : decode cX10_findOrder 26 = .ok (.iload_n 2, 1) := by decide +kernel
theorem dX10_findOrder_27 : decode cX10_findOrder 27 = .ok (.iload 4, 2) := by decide +kernel
theorem dX10_findOrder_29 : decode cX10_findOrder 29 = .ok (.ishr, 1) := by decide +kernel
theorem dX10_findOrder_30 : decode cX10_findOrder 30 = .ok (.iconst 1, 1) := by decide +kernel
theorem dX10_findOrder_31 : decode cX10_findOrder 31 = .ok (.iand, 1) := by decide +kernel
theorem dX10_findOrder_32 : decode cX10_findOrder 32 = .ok (.iadd, 1) := by decide +kernel
theorem dX10_findOrder_33 : decode cX10_findOrder 33 = .ok (.putfield 300, 3) := by decide +kernel
theorem dX10_findOrder_36 : decode cX10_findOrder 36 = .ok (.iinc 4 1, 3) := by decide +kernel
theorem dX10_findOrder_39 : decode cX10_findOrder 39 = .ok (.goto (-25), 3) := by decide +kernel
theorem dX10_findOrder_42 : decode cX10_findOrder 42 = .ok (.aload_n 0, 1) := by decide +kernel
theorem dX10_findOrder_43 : decode cX10_findOrder 43 = .ok (.getfield 300, 3) := by decide +kernel
theorem dX10_findOrder_46 : decode cX10_findOrder 46 = .ok (.ifCond .ne 8, 3) := by decide +kernel
theorem dX10_findOrder_49 : decode cX10_findOrder 49 = .ok (.aload_n 0, 1) := by decide +kernel
theorem dX10_findOrder_50 : decode cX10_findOrder 50 = .ok (.iconst 0, 1) := by decide +kernel
theorem dX10_findOrder_51 : decode cX10_findOrder 51 = .ok (.putfield 297, 3) := by decide +kernel
theorem dX10_findOrder_54 : decode cX10_findOrder 54 = .ok (.iconst 0, 1) := by decide +kernel
theorem dX10_findOrder_55 : decode cX10_findOrder 55 = .ok (.istore 4, 2) := by decide +kernel
theorem dX10_findOrder_57 : decode cX10_findOrder 57 = .ok (.iconst 0, 1) := by decide +kernel
theorem dX10_findOrder_58 : decode cX10_findOrder 58 = .ok (.istore 5, 2) := by decide +kernel
theorem dX10_findOrder_60 : decode cX10_findOrder 60 = .ok (.iload_n 2, 1) := by decide +kernel
theorem dX10_findOrder_61 : decode cX10_findOrder 61 = .ok (.istore 6, 2) := by decide +kernel
theorem dX10_findOrder_63 : decode cX10_findOrder 63 = .ok (.iload 4, 2) := by decide +kernel
theorem dX10_findOrder_65 : decode cX10_findOrder 65 = .ok (.ifCond .lt 227, 3) := by decide +kernel
theorem dX10_findOrder_68 : decode cX10_findOrder 68 = .ok (.aload_n 0, 1) := by decide +kernel
theorem dX10_findOrder_69 : decode cX10_findOrder 69 = .ok (.getfield 300, 3) := by decide +kernel
theorem dX10_findOrder_72 : decode cX10_findOrder 72 = .ok (.ifCond .le 220, 3) := by decide +kernel
theorem dX10_findOrder_75 : decode cX10_findOrder 75 = .ok (.iload_n 3, 1) := by decide +kernel
theorem dX10_findOrder_76 : decode cX10_findOrder 76 = .ok (.ifCond .eq 12, 3) := by decide +kernel
theorem dX10_findOrder_79 : decode cX10_findOrder 79 = .ok (.aload_n 0, 1) := by decide +kernel
theorem dX10_findOrder_80 : decode cX10_findOrder 80 = .ok (.getfield 297, 3) := by decide +kernel
theorem dX10_findOrder_83 : decode cX10_findOrder 83 = .ok (.ldc 156, 2) := by decide +kernel
theorem dX10_findOrder_85 : decode cX10_findOrder 85 = .ok (.if_icmp .lt 207, 3) := by decide +kernel
theorem dX10_findOrder_88 : decode cX10_findOrder 88 = .ok (.iload 4, 2) := by decide +kernel
theorem dX10_findOrder_90 : decode cX10_findOrder 90 = .ok (.ifCond .ne 15, 3) := by decide +kernel
theorem dX10_findOrder_93 : decode cX10_findOrder 93 = .ok (.aload_n 0, 1) := by decide +kernel
theorem dX10_findOrder_94 : decode cX10_findOrder 94 = .ok (.getfield 7, 3) := by decide +kernel
theorem dX10_findOrder_97 : decode cX10_findOrder 97 = .ok (.bipush 28, 2) := by decide +kernel
theorem dX10_findOrder_99 : decode cX10_findOrder 99 = .ok (.iload_n 1, 1) := by decide +kernel
theorem dX10_findOrder_100 : decode cX10_findOrder 100 = .ok (.iadd, 1) := by decide +kernel
theorem dX10_findOrder_101 : decode cX10_findOrder 101 = .ok (.iaload, 1) := by decide +kernel
theorem dX10_findOrder_102 : decode cX10_findOrder 102 = .ok (.goto 16, 3) := by decide +kernel
theorem dX10_findOrder_105 : decode cX10_findOrder 105 = .ok (.aload_n 0, 1) := by decide +kernel
theorem dX10_findOrder_106 : decode cX10_findOrder 106 = .ok (.aload_n 0, 1) := by decide +kernel
theorem dX10_findOrder_107 : decode cX10_findOrder 107 = .ok (.getfield 60, 3) := by decide +kernel
theorem dX10_findOrder_110 : decode cX10_findOrder 110 = .ok (.iload 4, 2) := by decide +kernel
theorem dX10_findOrder_112 : decode cX10_findOrder 112 = .ok (.iconst 1, 1) := by decide +kernel
theorem dX10_findOrder_113 : decode cX10_findOrder 113 = .ok (.isub, 1) := by decide +kernel
theorem dX10_findOrder_114 : decode cX10_findOrder 114 = .ok (.iaload, 1) := by decide +kernel
theorem dX10_findOrder_115 : decode cX10_findOrder 115 = .ok (.invokevirtual 288, 3) := by decide +kernel
theorem dX10_findOrder_118 : decode cX10_findOrder 118 = .ok (.istore 7, 2) := by decide +kernel
theorem dX10_findOrder_120 : decode cX10_findOrder 120 = .ok (.iload 4, 2) := by decide +kernel
theorem dX10_findOrder_122 : decode cX10_findOrder 122 = .ok (.ifCond .ne 13, 3) := by decide +kernel
theorem dX10_findOrder_125 : decode cX10_findOrder 125 = .ok (.aload_n 0, 1) := by decide +kernel
theorem dX10_findOrder_126 : decode cX10_findOrder 126 = .ok (.getfield 7, 3) := by decide +kernel
theorem dX10_findOrder_129 : decode cX10_findOrder 129 = .ok (.bipush 37, 2) := by decide +kernel
theorem dX10_findOrder_131 : decode cX10_findOrder 131 = .ok (.iaload, 1) := by decide +kernel
theorem dX10_findOrder_132 : decode cX10_findOrder 132 = .ok (.goto 12, 3) := by decide +kernel
theorem dX10_findOrder_135 : decode cX10_findOrder 135 = .ok (.aload_n 0, 1) := by decide +kernel
theorem dX10_findOrder_136 : decode cX10_findOrder 136 = .ok (.getfield 63, 3) := by decide +kernel
theorem dX10_findOrder_139 : decode cX10_findOrder 139 = .ok (.iload 4, 2) := by decide +kernel
theorem dX10_findOrder_141 : decode cX10_findOrder 141 = .ok (.iconst 1, 1) := by decide +kernel
theorem dX10_findOrder_142 : decode cX10_findOrder 142 = .ok (.isub, 1) := by decide +kernel
theorem dX10_findOrder_143 : decode cX10_findOrder 143 = .ok (.iaload, 1) := by decide +kernel
theorem dX10_findOrder_144 : decode cX10_findOrder 144 = .ok (.istore 8, 2) := by decide +kernel
theorem dX10_findOrder_146 : decode cX10_findOrder 146 = .ok (.iload 5, 2) := by decide +kernel
theorem dX10_findOrder_148 : decode cX10_findOrder 148 = .ok (.istore 9, 2) := by decide +kernel
theorem dX10_findOrder_150 : decode cX10_findOrder 150 = .ok (.iload 9, 2) := by decide +kernel
theorem dX10_findOrder_152 : decode cX10_findOrder 152 = .ok (.bipush 7, 2) := by decide +kernel
theorem dX10_findOrder_154 : decode cX10_findOrder 154 = .ok (.if_icmp .gt 34, 3) := by decide +kernel
theorem dX10_findOrder_157 : decode cX10_findOrder 157 = .ok (.iload 6, 2) := by decide +kernel
theorem dX10_findOrder_159 : decode cX10_findOrder 159 = .ok (.iload 9, 2) := by decide +kernel
theorem dX10_findOrder_161 : decode cX10_findOrder 161 = .ok (.invokestatic 232, 3) := by decide +kernel
theorem dX10_findOrder_164 : decode cX10_findOrder 164 = .ok (.ifCond .eq 18, 3) := by decide +kernel
theorem dX10_findOrder_167 : decode cX10_findOrder 167 = .ok (.aload_n 0, 1) := by decide +kernel
theorem dX10_findOrder_168 : decode cX10_findOrder 168 = .ok (.iload 9, 2) := by decide +kernel
theorem dX10_findOrder_170 : decode cX10_findOrder 170 = .ok (.iload 4, 2) := by decide +kernel
theorem dX10_findOrder_172 : decode cX10_findOrder 172 = .ok (.iload 7, 2) := by decide +kernel
theorem dX10_findOrder_174 : decode cX10_findOrder 174 = .ok (.iload 8, 2) := by decide +kernel
theorem dX10_findOrder_176 : decode cX10_findOrder 176 = .ok (.invokevirtual 303, 3) := by decide +kernel
theorem dX10_findOrder_179 : decode cX10_findOrder 179 = .ok (.ifCond .ne 9, 3) := by decide +kernel
theorem dX10_findOrder_182 : decode cX10_findOrder 182 = .ok (.iinc 9 1, 3) := by decide +kernel
theorem dX10_findOrder_185 : decode cX10_findOrder 185 = .ok (.goto (-35), 3) := by decide +kernel
theorem dX10_findOrder_188 : decode cX10_findOrder 188 = .ok (.iload 9, 2) := by decide +kernel
theorem dX10_findOrder_190 : decode cX10_findOrder 190 = .ok (.bipush 7, 2) := by decide +kernel
theorem dX10_findOrder_192 : decode cX10_findOrder 192 = .ok (.if_icmp .le 39, 3) := by decide +kernel
theorem dX10_findOrder_195 : decode cX10_findOrder 195 = .ok (.iinc 4 (-1), 3) := by decide +kernel
theorem dX10_findOrder_198 : decode cX10_findOrder 198 = .ok (.iload 4, 2) := by decide +kernel
theorem dX10_findOrder_200 : decode cX10_findOrder 200 = .ok (.ifCond .lt 89, 3) := by decide +kernel
theorem dX10_findOrder_203 : decode cX10_findOrder 203 = .ok (.aload_n 0, 1) := by decide +kernel
theorem dX10_findOrder_204 : decode cX10_findOrder 204 = .ok (.getfield 60, 3) := by decide +kernel
theorem dX10_findOrder_207 : decode cX10_findOrder 207 = .ok (.iload 4, 2) := by decide +kernel
theorem dX10_findOrder_209 : decode cX10_findOrder 209 = .ok (.iaload, 1) := by decide +kernel
theorem dX10_findOrder_210 : decode cX10_findOrder 210 = .ok (.iconst 1, 1) := by decide +kernel
theorem dX10_findOrder_211 : decode cX10_findOrder 211 = .ok (.iadd, 1) := by decide +kernel
theorem dX10_findOrder_212 : decode cX10_findOrder 212 = .ok (.istore 5, 2) := by decide +kernel
theorem dX10_findOrder_214 : decode cX10_findOrder 214 = .ok (.iload 6, 2) := by decide +kernel
theorem dX10_findOrder_216 : decode cX10_findOrder 216 = .ok (.iconst 1, 1) := by decide +kernel
theorem dX10_findOrder_217 : decode cX10_findOrder 217 = .ok (.aload_n 0, 1) := by decide +kernel
theorem dX10_findOrder_218 : decode cX10_findOrder 218 = .ok (.getfield 60, 3) := by decide +kernel
theorem dX10_findOrder_221 : decode cX10_findOrder 221 = .ok (.iload 4, 2) := by decide +kernel
theorem dX10_findOrder_223 : decode cX10_findOrder 223 = .ok (.iaload, 1) := by decide +kernel
theorem dX10_findOrder_224 : decode cX10_findOrder 224 = .ok (.ishl, 1) := by decide +kernel
theorem dX10_findOrder_225 : decode cX10_findOrder 225 = .ok (.ior, 1) := by decide +kernel
theorem dX10_findOrder_226 : decode cX10_findOrder 226 = .ok (.istore 6, 2) := by decide +kernel
theorem dX10_findOrder_228 : decode cX10_findOrder 228 = .ok (.goto 61, 3) := by decide +kernel
theorem dX10_findOrder_231 : decode cX10_findOrder 231 = .ok (.iload 6, 2) := by decide +kernel
theorem dX10_findOrder_233 : decode cX10_findOrder 233 = .ok (.iconst 1, 1) := by decide +kernel
theorem dX10_findOrder_234 : decode cX10_findOrder 234 = .ok (.iload 9, 2) := by decide +kernel
theorem dX10_findOrder_236 : decode cX10_findOrder 236 = .ok (.ishl, 1) := by decide +kernel
theorem dX10_findOrder_237 : decode cX10_findOrder 237 = .ok (.iconst (-1), 1) := by decide +kernel
theorem dX10_findOrder_238 : decode cX10_findOrder 238 = .ok (.ixor, 1) := by decide +kernel
theorem dX10_findOrder_239 : decode cX10_findOrder 239 = .ok (.iand, 1) := by decide +kernel
theorem dX10_findOrder_240 : decode cX10_findOrder 240 = .ok (.istore 6, 2) := by decide +kernel
theorem dX10_findOrder_242 : decode cX10_findOrder 242 = .ok (.iinc 4 1, 3) := by decide +kernel
theorem dX10_findOrder_245 : decode cX10_findOrder 245 = .ok (.iconst 0, 1) := by decide +kernel
theorem dX10_findOrder_246 : decode cX10_findOrder 246 = .ok (.istore 5, 2) := by decide +kernel
theorem dX10_findOrder_248 : decode cX10_findOrder 248 = .ok (.iload 4, 2) := by decide +kernel
theorem dX10_findOrder_250 : decode cX10_findOrder 250 = .ok (.aload_n 0, 1) := by decide +kernel
theorem dX10_findOrder_251 : decode cX10_findOrder 251 = .ok (.getfield 300, 3) := by decide +kernel
theorem dX10_findOrder_254 : decode cX10_findOrder 254 = .ok (.if_icmp .ne 35, 3) := by decide +kernel
theorem dX10_findOrder_257 : decode cX10_findOrder 257 = .ok (.aload_n 0, 1) := by decide +kernel
theorem dX10_findOrder_258 : decode cX10_findOrder 258 = .ok (.invokevirtual 307, 3) := by decide +kernel
theorem dX10_findOrder_261 : decode cX10_findOrder 261 = .ok (.iinc 4 (-1), 3) := by decide +kernel
theorem dX10_findOrder_264 : decode cX10_findOrder 264 = .ok (.aload_n 0, 1) := by decide +kernel
theorem dX10_findOrder_265 : decode cX10_findOrder 265 = .ok (.getfield 60, 3) := by decide +kernel
theorem dX10_findOrder_268 : decode cX10_findOrder 268 = .ok (.iload 4, 2) := by decide +kernel
theorem dX10_findOrder_270 : decode cX10_findOrder 270 = .ok (.iaload, 1) := by decide +kernel
theorem dX10_findOrder_271 : decode cX10_findOrder 271 = .ok (.iconst 1, 1) := by decide +kernel
theorem dX10_findOrder_272 : decode cX10_findOrder 272 = .ok (.iadd, 1) := by decide +kernel
theorem dX10_findOrder_273 : decode cX10_findOrder 273 = .ok (.istore 5, 2) := by decide +kernel
theorem dX10_findOrder_275 : decode cX10_findOrder 275 = .ok (.iload 6, 2) := by decide +kernel
theorem dX10_findOrder_277 : decode cX10_findOrder 277 = .ok (.iconst 1, 1) := by decide +kernel
theorem dX10_findOrder_278 : decode cX10_findOrder 278 = .ok (.aload_n 0, 1) := by decide +kernel
theorem dX10_findOrder_279 : decode cX10_findOrder 279 = .ok (.getfield 60, 3) := by decide +kernel
theorem dX10_findOrder_282 : decode cX10_findOrder 282 = .ok (.iload 4, 2) := by decide +kernel
theorem dX10_findOrder_284 : decode cX10_findOrder 284 = .ok (.iaload, 1) := by decide +kernel
theorem dX10_findOrder_285 : decode cX10_findOrder 285 = .ok (.ishl, 1) := by decide +kernel
theorem dX10_findOrder_286 : decode cX10_findOrder 286 = .ok (.ior, 1) := by decide +kernel
theorem dX10_findOrder_287 : decode cX10_findOrder 287 = .ok (.istore 6, 2) := by decide +kernel
theorem dX10_findOrder_289 : decode cX10_findOrder 289 = .ok (.goto (-226), 3) := by decide +kernel
theorem dX10_findOrder_292 : decode cX10_findOrder 292 = .ok (.aload_n 0, 1) := by decide +kernel
theorem dX10_findOrder_293 : decode cX10_findOrder 293 = .ok (.getfield 297, 3) := by decide +kernel
theorem dX10_findOrder_296 : decode cX10_findOrder 296 = .ok (.ireturn, 1) := by decide +kernel
theorem dX10_look_0 : decode cX10_look 0 = .ok (.aload_n 0, 1) := by decide +kernel
theorem dX10_look_1 : decode cX10_look 1 = .ok (.getfield 66, 3) := by decide +kernel
theorem dX10_look_4 : decode cX10_look 4 = .ok (.aload_n 0, 1) := by decide +kernel
theorem dX10_look_5 : decode cX10_look 5 = .ok (.getfield 300, 3) := by decide +kernel
theorem dX10_look_8 : decode cX10_look 8 = .ok (.iconst 1, 1) := by decide +kernel
theorem dX10_look_9 : decode cX10_look 9 = .ok (.isub, 1) := by decide +kernel
theorem dX10_look_10 : decode cX10_look 10 = .ok (.iaload, 1) := by decide +kernel
theorem dX10_look_11 : decode cX10_look 11 = .ok (.aload_n 0, 1) := by decide +kernel
theorem dX10_look_12 : decode cX10_look 12 = .ok (.getfield 297, 3) := by decide +kernel
theorem dX10_look_15 : decode cX10_look 15 = .ok (.if_icmp .ge 46, 3) := by decide +kernel
theorem dX10_look_18 : decode cX10_look 18 = .ok (.aload_n 0, 1) := by decide +kernel
theorem dX10_look_19 : decode cX10_look 19 = .ok (.aload_n 0, 1) := by decide +kernel
theorem dX10_look_20 : decode cX10_look 20 = .ok (.getfield 66, 3) := by decide +kernel
theorem dX10_look_23 : decode cX10_look 23 = .ok (.aload_n 0, 1) := by decide +kernel
theorem dX10_look_24 : decode cX10_look 24 = .ok (.getfield 300, 3) := by decide +kernel
theorem dX10_look_27 : decode cX10_look 27 = .ok (.iconst 1, 1) := by decide +kernel
theorem dX10_look_28 : decode cX10_look 28 = .ok (.isub, 1) := by decide +kernel
theorem dX10_look_29 : decode cX10_look 29 = .ok (.iaload, 1) := by decide +kernel
theorem dX10_look_30 : decode cX10_look 30 = .ok (.putfield 297, 3) := by decide +kernel
theorem dX10_look_33 : decode cX10_look 33 = .ok (.iconst 0, 1) := by decide +kernel
theorem dX10_look_34 : decode cX10_look 34 = .ok (.istore_n 1, 1) := by decide +kernel
theorem dX10_look_35 : decode cX10_look 35 = .ok (.iload_n 1, 1) := by decide +kernel
theorem dX10_look_36 : decode cX10_look 36 = .ok (.aload_n 0, 1) := by decide +kernel
theorem dX10_look_37 : decode cX10_look 37 = .ok (.getfield 300, 3) := by decide +kernel
theorem dX10_look_40 : decode cX10_look 40 = .ok (.if_icmp .ge 21, 3) := by decide +kernel
theorem dX10_look_43 : decode cX10_look 43 = .ok (.aload_n 0, 1) := by decide +kernel
theorem dX10_look_44 : decode cX10_look 44 = .ok (.getfield 69, 3) := by decide +kernel
theorem dX10_look_47 : decode cX10_look 47 = .ok (.iload_n 1, 1) := by decide +kernel
theorem dX10_look_48 : decode cX10_look 48 = .ok (.aload_n 0, 1) := by decide +kernel
theorem dX10_look_49 : decode cX10_look 49 = .ok (.getfield 60, 3) := by decide +kernel
theorem dX10_look_52 : decode cX10_look 52 = .ok (.iload_n 1, 1) := by decide +kernel
theorem dX10_look_53 : decode cX10_look 53 = .ok (.iaload, 1) := by decide +kernel
theorem dX10_look_54 : decode cX10_look 54 = .ok (.iastore, 1) := by decide +kernel
theorem dX10_look_55 : decode cX10_look 55 = .ok (.iinc 1 1, 3) := by decide +kernel
theorem dX10_look_58 : decode cX10_look 58 = .ok (.goto (-23), 3) := by decide +kernel
theorem dX10_look_61 : decode cX10_look 61 = .ok (.return_, 1) := by decide +kernel
theorem dX10_openOf_0 : decode cX10_openOf 0 = .ok (.aload_n 0, 1) := by decide +kernel
theorem dX10_openOf_1 : decode cX10_openOf 1 = .ok (.iload_n 1, 1) := by decide +kernel
theorem dX10_openOf_2 : decode cX10_openOf 2 = .ok (.invokevirtual 209, 3) := by decide +kernel
theorem dX10_openOf_5 : decode cX10_openOf 5 = .ok (.aload_n 0, 1) := by decide +kernel
theorem dX10_openOf_6 : decode cX10_openOf 6 = .ok (.iconst 0, 1) := by decide +kernel
theorem dX10_openOf_7 : decode cX10_openOf 7 = .ok (.invokevirtual 198, 3) := by decide +kernel
theorem dX10_openOf_10 : decode cX10_openOf 10 = .ok (.iand, 1) := by decide +kernel
theorem dX10_openOf_11 : decode cX10_openOf 11 = .ok (.ireturn, 1) := by decide +kernel
theorem dX10_plan_0 : decode cX10_plan 0 = .ok (.aload_n 0, 1) := by decide +kernel
theorem dX10_plan_1 : decode cX10_plan 1 = .ok (.iload_n 1, 1) := by decide +kernel
theorem dX10_plan_2 : decode cX10_plan 2 = .ok (.invokevirtual 206, 3) := by decide +kernel
theorem dX10_plan_5 : decode cX10_plan 5 = .ok (.ifCond .ne 6, 3) := by decide +kernel
theorem dX10_plan_8 : decode cX10_plan 8 = .ok (.ldc 205, 2) := by decide +kernel
theorem dX10_plan_10 : decode cX10_plan 10 = .ok (.ireturn, 1) := by decide +kernel
theorem dX10_plan_11 : decode cX10_plan 11 = .ok (.aload_n 0, 1) := by decide +kernel
theorem dX10_plan_12 : decode cX10_plan 12 = .ok (.iload_n 1, 1) := by decide +kernel
theorem dX10_plan_13 : decode cX10_plan 13 = .ok (.invokevirtual 220, 3) := by decide +kernel
theorem dX10_plan_16 : decode cX10_plan 16 = .ok (.ifCond .eq 6, 3) := by decide +kernel
theorem dX10_plan_19 : decode cX10_plan 19 = .ok (.ldc 227, 2) := by decide +kernel
theorem dX10_plan_21 : decode cX10_plan 21 = .ok (.ireturn, 1) := by decide +kernel
theorem dX10_plan_22 : decode cX10_plan 22 = .ok (.aload_n 0, 1) := by decide +kernel
theorem dX10_plan_23 : decode cX10_plan 23 = .ok (.iload_n 1, 1) := by decide +kernel
theorem dX10_plan_24 : decode cX10_plan 24 = .ok (.aload_n 0, 1) := by decide +kernel
theorem dX10_plan_25 : decode cX10_plan 25 = .ok (.iload_n 1, 1) := by decide +kernel
theorem dX10_plan_26 : decode cX10_plan 26 = .ok (.invokevirtual 310, 3) := by decide +kernel
theorem dX10_plan_29 : decode cX10_plan 29 = .ok (.iconst 0, 1) := by decide +kernel
theorem dX10_plan_30 : decode cX10_plan 30 = .ok (.invokevirtual 313, 3) := by decide +kernel
theorem dX10_plan_33 : decode cX10_plan 33 = .ok (.istore_n 3, 1) := by decide +kernel
theorem dX10_plan_34 : decode cX10_plan 34 = .ok (.iload_n 3, 1) := by decide +kernel
theorem dX10_plan_35 : decode cX10_plan 35 = .ok (.ldc 156, 2) := by decide +kernel
theorem dX10_plan_37 : decode cX10_plan 37 = .ok (.if_icmp .eq 8, 3) := by decide +kernel
theorem dX10_plan_40 : decode cX10_plan 40 = .ok (.iload_n 2, 1) := by decide +kernel
theorem dX10_plan_41 : decode cX10_plan 41 = .ok (.iconst (-1), 1) := by decide +kernel
theorem dX10_plan_42 : decode cX10_plan 42 = .ok (.if_icmp .ne 15, 3) := by decide +kernel
theorem dX10_plan_45 : decode cX10_plan 45 = .ok (.iload_n 3, 1) := by decide +kernel
theorem dX10_plan_46 : decode cX10_plan 46 = .ok (.ldc 156, 2) := by decide +kernel
theorem dX10_plan_48 : decode cX10_plan 48 = .ok (.if_icmp .ne 7, 3) := by decide +kernel
theorem dX10_plan_51 : decode cX10_plan 51 = .ok (.iconst (-1), 1) := by decide +kernel
theorem dX10_plan_52 : decode cX10_plan 52 = .ok (.goto 4, 3) := by decide +kernel
theorem dX10_plan_55 : decode cX10_plan 55 = .ok (.iload_n 3, 1) := by decide +kernel
theorem dX10_plan_56 : decode cX10_plan 56 = .ok (.ireturn, 1) := by decide +kernel
theorem dX10_plan_57 : decode cX10_plan 57 = .ok (.iload_n 2, 1) := by decide +kernel
theorem dX10_plan_58 : decode cX10_plan 58 = .ok (.i2l, 1) := by decide +kernel
theorem dX10_plan_59 : decode cX10_plan 59 = .ok (.lconst 0, 1) := by decide +kernel
theorem dX10_plan_60 : decode cX10_plan 60 = .ok (.aload_n 0, 1) := by decide +kernel
theorem dX10_plan_61 : decode cX10_plan 61 = .ok (.getfield 300, 3) := by decide +kernel
theorem dX10_plan_64 : decode cX10_plan 64 = .ok (.iconst 1, 1) := by decide +kernel
theorem dX10_plan_65 : decode cX10_plan 65 = .ok (.isub, 1) := by decide +kernel
theorem dX10_plan_66 : decode cX10_plan 66 = .ok (.i2l, 1) := by decide +kernel
theorem dX10_plan_67 : decode cX10_plan 67 = .ok (.invokestatic 89, 3) := by decide +kernel
theorem dX10_plan_70 : decode cX10_plan 70 = .ok (.ifCond .eq 12, 3) := by decide +kernel
theorem dX10_plan_73 : decode cX10_plan 73 = .ok (.aload_n 0, 1) := by decide +kernel
theorem dX10_plan_74 : decode cX10_plan 74 = .ok (.getfield 69, 3) := by decide +kernel
theorem dX10_plan_77 : decode cX10_plan 77 = .ok (.iload_n 2, 1) := by decide +kernel
theorem dX10_plan_78 : decode cX10_plan 78 = .ok (.iaload, 1) := by decide +kernel
theorem dX10_plan_79 : decode cX10_plan 79 = .ok (.goto 4, 3) := by decide +kernel
theorem dX10_plan_82 : decode cX10_plan 82 = .ok (.iconst (-1), 1) := by decide +kernel
theorem dX10_plan_83 : decode cX10_plan 83 = .ok (.ireturn, 1) := by decide +kernel
theorem dX10_withGrafts_0 : decode cX10_withGrafts 0 = .ok (.iload_n 2, 1) := by decide +kernel
theorem dX10_withGrafts_1 : decode cX10_withGrafts 1 = .ok (.istore_n 3, 1) := by decide +kernel
theorem dX10_withGrafts_2 : decode cX10_withGrafts 2 = .ok (.aload_n 0, 1) := by decide +kernel
theorem dX10_withGrafts_3 : decode cX10_withGrafts 3 = .ok (.iload_n 1, 1) := by decide +kernel
theorem dX10_withGrafts_4 : decode cX10_withGrafts 4 = .ok (.invokevirtual 310, 3) := by decide +kernel
theorem dX10_withGrafts_7 : decode cX10_withGrafts 7 = .ok (.istore 4, 2) := by decide +kernel
theorem dX10_withGrafts_9 : decode cX10_withGrafts 9 = .ok (.aload_n 0, 1) := by decide +kernel
theorem dX10_withGrafts_10 : decode cX10_withGrafts 10 = .ok (.getfield 175, 3) := by decide +kernel
theorem dX10_withGrafts_13 : decode cX10_withGrafts 13 = .ok (.iconst 1, 1) := by decide +kernel
theorem dX10_withGrafts_14 : decode cX10_withGrafts 14 = .ok (.isub, 1) := by decide +kernel
theorem dX10_withGrafts_15 : decode cX10_withGrafts 15 = .ok (.istore 5, 2) := by decide +kernel
theorem dX10_withGrafts_17 : decode cX10_withGrafts 17 = .ok (.iload 5, 2) := by decide +kernel
theorem dX10_withGrafts_19 : decode cX10_withGrafts 19 = .ok (.ifCond .lt 61, 3) := by decide +kernel
theorem dX10_withGrafts_22 : decode cX10_withGrafts 22 = .ok (.iload_n 3, 1) := by decide +kernel
theorem dX10_withGrafts_23 : decode cX10_withGrafts 23 = .ok (.iload_n 3, 1) := by decide +kernel
theorem dX10_withGrafts_24 : decode cX10_withGrafts 24 = .ok (.iload 5, 2) := by decide +kernel
theorem dX10_withGrafts_26 : decode cX10_withGrafts 26 = .ok (.invokestatic 232, 3) := by decide +kernel
theorem dX10_withGrafts_29 : decode cX10_withGrafts 29 = .ok (.ifCond .eq 42, 3) := by decide +kernel
theorem dX10_withGrafts_32 : decode cX10_withGrafts 32 = .ok (.aload_n 0, 1) := by decide +kernel
theorem dX10_withGrafts_33 : decode cX10_withGrafts 33 = .ok (.getfield 44, 3) := by decide +kernel
theorem dX10_withGrafts_36 : decode cX10_withGrafts 36 = .ok (.iload 5, 2) := by decide +kernel
theorem dX10_withGrafts_38 : decode cX10_withGrafts 38 = .ok (.iaload, 1) := by decide +kernel
theorem dX10_withGrafts_39 : decode cX10_withGrafts 39 = .ok (.bipush 9, 2) := by decide +kernel
theorem dX10_withGrafts_41 : decode cX10_withGrafts 41 = .ok (.if_icmp .eq 30, 3) := by decide +kernel
theorem dX10_withGrafts_44 : decode cX10_withGrafts 44 = .ok (.iload 4, 2) := by decide +kernel
theorem dX10_withGrafts_46 : decode cX10_withGrafts 46 = .ok (.aload_n 0, 1) := by decide +kernel
theorem dX10_withGrafts_47 : decode cX10_withGrafts 47 = .ok (.getfield 44, 3) := by decide +kernel
theorem dX10_withGrafts_50 : decode cX10_withGrafts 50 = .ok (.iload 5, 2) := by decide +kernel
theorem dX10_withGrafts_52 : decode cX10_withGrafts 52 = .ok (.iaload, 1) := by decide +kernel
theorem dX10_withGrafts_53 : decode cX10_withGrafts 53 = .ok (.invokestatic 232, 3) := by decide +kernel
theorem dX10_withGrafts_56 : decode cX10_withGrafts 56 = .ok (.ifCond .eq 15, 3) := by decide +kernel
theorem dX10_withGrafts_59 : decode cX10_withGrafts 59 = .ok (.iconst 1, 1) := by decide +kernel
theorem dX10_withGrafts_60 : decode cX10_withGrafts 60 = .ok (.aload_n 0, 1) := by decide +kernel
theorem dX10_withGrafts_61 : decode cX10_withGrafts 61 = .ok (.getfield 44, 3) := by decide +kernel
theorem dX10_withGrafts_64 : decode cX10_withGrafts 64 = .ok (.iload 5, 2) := by decide +kernel
theorem dX10_withGrafts_66 : decode cX10_withGrafts 66 = .ok (.iaload, 1) := by decide +kernel
theorem dX10_withGrafts_67 : decode cX10_withGrafts 67 = .ok (.ishl, 1) := by decide +kernel
theorem dX10_withGrafts_68 : decode cX10_withGrafts 68 = .ok (.goto 4, 3) := by decide +kernel
theorem dX10_withGrafts_71 : decode cX10_withGrafts 71 = .ok (.iconst 0, 1) := by decide +kernel
theorem dX10_withGrafts_72 : decode cX10_withGrafts 72 = .ok (.ior, 1) := by decide +kernel
theorem dX10_withGrafts_73 : decode cX10_withGrafts 73 = .ok (.istore_n 3, 1) := by decide +kernel
theorem dX10_withGrafts_74 : decode cX10_withGrafts 74 = .ok (.iinc 5 (-1), 3) := by decide +kernel
theorem dX10_withGrafts_77 : decode cX10_withGrafts 77 = .ok (.goto (-60), 3) := by decide +kernel
theorem dX10_withGrafts_80 : decode cX10_withGrafts 80 = .ok (.iload_n 3, 1) := by decide +kernel
theorem dX10_withGrafts_81 : decode cX10_withGrafts 81 = .ok (.ireturn, 1) := by decide +kernel
theorem dX10_clash_0 : decode cX10_clash 0 = .ok (.aload_n 0, 1) := by decide +kernel
theorem dX10_clash_1 : decode cX10_clash 1 = .ok (.iload_n 1, 1) := by decide +kernel
theorem dX10_clash_2 : decode cX10_clash 2 = .ok (.invokevirtual 206, 3) := by decide +kernel
theorem dX10_clash_5 : decode cX10_clash 5 = .ok (.ifCond .ne 6, 3) := by decide +kernel
theorem dX10_clash_8 : decode cX10_clash 8 = .ok (.ldc 205, 2) := by decide +kernel
theorem dX10_clash_10 : decode cX10_clash 10 = .ok (.ireturn, 1) := by decide +kernel
theorem dX10_clash_11 : decode cX10_clash 11 = .ok (.iload_n 2, 1) := by decide +kernel
theorem dX10_clash_12 : decode cX10_clash 12 = .ok (.i2l, 1) := by decide +kernel
theorem dX10_clash_13 : decode cX10_clash 13 = .ok (.lconst 0, 1) := by decide +kernel
theorem dX10_clash_14 : decode cX10_clash 14 = .ok (.lconst 1, 1) := by decide +kernel
theorem dX10_clash_15 : decode cX10_clash 15 = .ok (.invokestatic 89, 3) := by decide +kernel
theorem dX10_clash_18 : decode cX10_clash 18 = .ok (.ifCond .ne 6, 3) := by decide +kernel
theorem dX10_clash_21 : decode cX10_clash 21 = .ok (.ldc 93, 2) := by decide +kernel
theorem dX10_clash_23 : decode cX10_clash 23 = .ok (.ireturn, 1) := by decide +kernel
theorem dX10_clash_24 : decode cX10_clash 24 = .ok (.aload_n 0, 1) := by decide +kernel
theorem dX10_clash_25 : decode cX10_clash 25 = .ok (.iload_n 1, 1) := by decide +kernel
theorem dX10_clash_26 : decode cX10_clash 26 = .ok (.invokevirtual 220, 3) := by decide +kernel
theorem dX10_clash_29 : decode cX10_clash 29 = .ok (.ifCond .eq 6, 3) := by decide +kernel
theorem dX10_clash_32 : decode cX10_clash 32 = .ok (.ldc 227, 2) := by decide +kernel
theorem dX10_clash_34 : decode cX10_clash 34 = .ok (.ireturn, 1) := by decide +kernel
theorem dX10_clash_35 : decode cX10_clash 35 = .ok (.aload_n 0, 1) := by decide +kernel
theorem dX10_clash_36 : decode cX10_clash 36 = .ok (.iload_n 1, 1) := by decide +kernel
theorem dX10_clash_37 : decode cX10_clash 37 = .ok (.invokevirtual 310, 3) := by decide +kernel
theorem dX10_clash_40 : decode cX10_clash 40 = .ok (.istore_n 3, 1) := by decide +kernel
theorem dX10_clash_41 : decode cX10_clash 41 = .ok (.iconst 0, 1) := by decide +kernel
theorem dX10_clash_42 : decode cX10_clash 42 = .ok (.istore 4, 2) := by decide +kernel
theorem dX10_clash_44 : decode cX10_clash 44 = .ok (.iload 4, 2) := by decide +kernel
theorem dX10_clash_46 : decode cX10_clash 46 = .ok (.aload_n 0, 1) := by decide +kernel
theorem dX10_clash_47 : decode cX10_clash 47 = .ok (.getfield 175, 3) := by decide +kernel
theorem dX10_clash_50 : decode cX10_clash 50 = .ok (.if_icmp .ge 97, 3) := by decide +kernel
theorem dX10_clash_53 : decode cX10_clash 53 = .ok (.iload 4, 2) := by decide +kernel
theorem dX10_clash_55 : decode cX10_clash 55 = .ok (.iconst 1, 1) := by decide +kernel
theorem dX10_clash_56 : decode cX10_clash 56 = .ok (.iadd, 1) := by decide +kernel
theorem dX10_clash_57 : decode cX10_clash 57 = .ok (.istore 5, 2) := by decide +kernel
theorem dX10_clash_59 : decode cX10_clash 59 = .ok (.iload 5, 2) := by decide +kernel
theorem dX10_clash_61 : decode cX10_clash 61 = .ok (.aload_n 0, 1) := by decide +kernel
theorem dX10_clash_62 : decode cX10_clash 62 = .ok (.getfield 175, 3) := by decide +kernel
theorem dX10_clash_65 : decode cX10_clash 65 = .ok (.if_icmp .ge 76, 3) := by decide +kernel
theorem dX10_clash_68 : decode cX10_clash 68 = .ok (.iload_n 3, 1) := by decide +kernel
theorem dX10_clash_69 : decode cX10_clash 69 = .ok (.iload 4, 2) := by decide +kernel
theorem dX10_clash_71 : decode cX10_clash 71 = .ok (.invokestatic 232, 3) := by decide +kernel
theorem dX10_clash_74 : decode cX10_clash 74 = .ok (.ifCond .eq 16, 3) := by decide +kernel
theorem dX10_clash_77 : decode cX10_clash 77 = .ok (.iload_n 3, 1) := by decide +kernel
theorem dX10_clash_78 : decode cX10_clash 78 = .ok (.iload 5, 2) := by decide +kernel
theorem dX10_clash_80 : decode cX10_clash 80 = .ok (.invokestatic 232, 3) := by decide +kernel
theorem dX10_clash_83 : decode cX10_clash 83 = .ok (.ifCond .eq 7, 3) := by decide +kernel
theorem dX10_clash_86 : decode cX10_clash 86 = .ok (.iconst 1, 1) := by decide +kernel
theorem dX10_clash_87 : decode cX10_clash 87 = .ok (.goto 4, 3) := by decide +kernel
theorem dX10_clash_90 : decode cX10_clash 90 = .ok (.iconst 0, 1) := by decide +kernel
theorem dX10_clash_91 : decode cX10_clash 91 = .ok (.istore 6, 2) := by decide +kernel
theorem dX10_clash_93 : decode cX10_clash 93 = .ok (.iload 6, 2) := by decide +kernel
theorem dX10_clash_95 : decode cX10_clash 95 = .ok (.ifCond .eq 40, 3) := by decide +kernel
theorem dX10_clash_98 : decode cX10_clash 98 = .ok (.aload_n 0, 1) := by decide +kernel
theorem dX10_clash_99 : decode cX10_clash 99 = .ok (.iload_n 1, 1) := by decide +kernel
theorem dX10_clash_100 : decode cX10_clash 100 = .ok (.aload_n 0, 1) := by decide +kernel
theorem dX10_clash_101 : decode cX10_clash 101 = .ok (.iload_n 1, 1) := by decide +kernel
theorem dX10_clash_102 : decode cX10_clash 102 = .ok (.iconst 1, 1) := by decide +kernel
theorem dX10_clash_103 : decode cX10_clash 103 = .ok (.iload 4, 2) := by decide +kernel
theorem dX10_clash_105 : decode cX10_clash 105 = .ok (.ishl, 1) := by decide +kernel
theorem dX10_clash_106 : decode cX10_clash 106 = .ok (.iconst 1, 1) := by decide +kernel
theorem dX10_clash_107 : decode cX10_clash 107 = .ok (.iload 5, 2) := by decide +kernel
theorem dX10_clash_109 : decode cX10_clash 109 = .ok (.ishl, 1) := by decide +kernel
theorem dX10_clash_110 : decode cX10_clash 110 = .ok (.ior, 1) := by decide +kernel
theorem dX10_clash_111 : decode cX10_clash 111 = .ok (.invokevirtual 317, 3) := by decide +kernel
theorem dX10_clash_114 : decode cX10_clash 114 = .ok (.iconst 1, 1) := by decide +kernel
theorem dX10_clash_115 : decode cX10_clash 115 = .ok (.invokevirtual 313, 3) := by decide +kernel
theorem dX10_clash_118 : decode cX10_clash 118 = .ok (.ldc 156, 2) := by decide +kernel
theorem dX10_clash_120 : decode cX10_clash 120 = .ok (.if_icmp .ne 15, 3) := by decide +kernel
theorem dX10_clash_123 : decode cX10_clash 123 = .ok (.iload_n 2, 1) := by decide +kernel
theorem dX10_clash_124 : decode cX10_clash 124 = .ok (.ifCond .ne 8, 3) := by decide +kernel
theorem dX10_clash_127 : decode cX10_clash 127 = .ok (.iload 4, 2) := by decide +kernel
theorem dX10_clash_129 : decode cX10_clash 129 = .ok (.goto 5, 3) := by decide +kernel
theorem dX10_clash_132 : decode cX10_clash 132 = .ok (.iload 5, 2) := by decide +kernel
theorem dX10_clash_134 : decode cX10_clash 134 = .ok (.ireturn, 1) := by decide +kernel
theorem dX10_clash_135 : decode cX10_clash 135 = .ok (.iinc 5 1, 3) := by decide +kernel
theorem dX10_clash_138 : decode cX10_clash 138 = .ok (.goto (-79), 3) := by decide +kernel
theorem dX10_clash_141 : decode cX10_clash 141 = .ok (.iinc 4 1, 3) := by decide +kernel
theorem dX10_clash_144 : decode cX10_clash 144 = .ok (.goto (-100), 3) := by decide +kernel
theorem dX10_clash_147 : decode cX10_clash 147 = .ok (.iconst (-1), 1) := by decide +kernel
theorem dX10_clash_148 : decode cX10_clash 148 = .ok (.ireturn, 1) := by decide +kernel
theorem dX10_still_0 : decode cX10_still 0 = .ok (.aload_n 0, 1) := by decide +kernel
theorem dX10_still_1 : decode cX10_still 1 = .ok (.iload_n 1, 1) := by decide +kernel
theorem dX10_still_2 : decode cX10_still 2 = .ok (.invokevirtual 206, 3) := by decide +kernel
theorem dX10_still_5 : decode cX10_still 5 = .ok (.ifCond .eq 11, 3) := by decide +kernel
theorem dX10_still_8 : decode cX10_still 8 = .ok (.aload_n 0, 1) := by decide +kernel
theorem dX10_still_9 : decode cX10_still 9 = .ok (.iload_n 2, 1) := by decide +kernel
theorem dX10_still_10 : decode cX10_still 10 = .ok (.invokevirtual 202, 3) := by decide +kernel
theorem dX10_still_13 : decode cX10_still 13 = .ok (.ifCond .ne 6, 3) := by decide +kernel
theorem dX10_still_16 : decode cX10_still 16 = .ok (.ldc 205, 2) := by decide +kernel
theorem dX10_still_18 : decode cX10_still 18 = .ok (.ireturn, 1) := by decide +kernel
theorem dX10_still_19 : decode cX10_still 19 = .ok (.iload_n 3, 1) := by decide +kernel
theorem dX10_still_20 : decode cX10_still 20 = .ok (.i2l, 1) := by decide +kernel
theorem dX10_still_21 : decode cX10_still 21 = .ok (.lconst 0, 1) := by decide +kernel
theorem dX10_still_22 : decode cX10_still 22 = .ok (.ldc2_w 320, 3) := by decide +kernel
theorem dX10_still_25 : decode cX10_still 25 = .ok (.invokestatic 89, 3) := by decide +kernel
theorem dX10_still_28 : decode cX10_still 28 = .ok (.ifCond .ne 6, 3) := by decide +kernel
theorem dX10_still_31 : decode cX10_still 31 = .ok (.ldc 93, 2) := by decide +kernel
theorem dX10_still_33 : decode cX10_still 33 = .ok (.ireturn, 1) := by decide +kernel
theorem dX10_still_34 : decode cX10_still 34 = .ok (.aload_n 0, 1) := by decide +kernel
theorem dX10_still_35 : decode cX10_still 35 = .ok (.iload_n 1, 1) := by decide +kernel
theorem dX10_still_36 : decode cX10_still 36 = .ok (.invokevirtual 220, 3) := by decide +kernel
theorem dX10_still_39 : decode cX10_still 39 = .ok (.ifCond .eq 6, 3) := by decide +kernel
theorem dX10_still_42 : decode cX10_still 42 = .ok (.ldc 227, 2) := by decide +kernel
theorem dX10_still_44 : decode cX10_still 44 = .ok (.ireturn, 1) := by decide +kernel
theorem dX10_still_45 : decode cX10_still 45 = .ok (.aload_n 0, 1) := by decide +kernel
theorem dX10_still_46 : decode cX10_still 46 = .ok (.iload_n 2, 1) := by decide +kernel
theorem dX10_still_47 : decode cX10_still 47 = .ok (.putfield 276, 3) := by decide +kernel
theorem dX10_still_50 : decode cX10_still 50 = .ok (.aload_n 0, 1) := by decide +kernel
theorem dX10_still_51 : decode cX10_still 51 = .ok (.iload_n 3, 1) := by decide +kernel
theorem dX10_still_52 : decode cX10_still 52 = .ok (.putfield 282, 3) := by decide +kernel
theorem dX10_still_55 : decode cX10_still 55 = .ok (.iconst 0, 1) := by decide +kernel
theorem dX10_still_56 : decode cX10_still 56 = .ok (.istore 4, 2) := by decide +kernel
theorem dX10_still_58 : decode cX10_still 58 = .ok (.iconst 1, 1) := by decide +kernel
theorem dX10_still_59 : decode cX10_still 59 = .ok (.istore 5, 2) := by decide +kernel
theorem dX10_still_61 : decode cX10_still 61 = .ok (.iload 5, 2) := by decide +kernel
theorem dX10_still_63 : decode cX10_still 63 = .ok (.bipush 30, 2) := by decide +kernel
theorem dX10_still_65 : decode cX10_still 65 = .ok (.if_icmp .gt 51, 3) := by decide +kernel
theorem dX10_still_68 : decode cX10_still 68 = .ok (.aload_n 0, 1) := by decide +kernel
theorem dX10_still_69 : decode cX10_still 69 = .ok (.iload 5, 2) := by decide +kernel
theorem dX10_still_71 : decode cX10_still 71 = .ok (.putfield 279, 3) := by decide +kernel
theorem dX10_still_74 : decode cX10_still 74 = .ok (.iload 4, 2) := by decide +kernel
theorem dX10_still_76 : decode cX10_still 76 = .ok (.aload_n 0, 1) := by decide +kernel
theorem dX10_still_77 : decode cX10_still 77 = .ok (.iload_n 1, 1) := by decide +kernel
theorem dX10_still_78 : decode cX10_still 78 = .ok (.aload_n 0, 1) := by decide +kernel
theorem dX10_still_79 : decode cX10_still 79 = .ok (.iload_n 1, 1) := by decide +kernel
theorem dX10_still_80 : decode cX10_still 80 = .ok (.invokevirtual 310, 3) := by decide +kernel
theorem dX10_still_83 : decode cX10_still 83 = .ok (.sipush 128, 3) := by decide +kernel
theorem dX10_still_86 : decode cX10_still 86 = .ok (.ior, 1) := by decide +kernel
theorem dX10_still_87 : decode cX10_still 87 = .ok (.iconst 1, 1) := by decide +kernel
theorem dX10_still_88 : decode cX10_still 88 = .ok (.invokevirtual 313, 3) := by decide +kernel
theorem dX10_still_91 : decode cX10_still 91 = .ok (.ldc 156, 2) := by decide +kernel
theorem dX10_still_93 : decode cX10_still 93 = .ok (.if_icmp .ge 7, 3) := by decide +kernel
theorem dX10_still_96 : decode cX10_still 96 = .ok (.iconst 1, 1) := by decide +kernel
theorem dX10_still_97 : decode cX10_still 97 = .ok (.goto 4, 3) := by decide +kernel
theorem dX10_still_100 : decode cX10_still 100 = .ok (.iconst 0, 1) := by decide +kernel
theorem dX10_still_101 : decode cX10_still 101 = .ok (.invokestatic 191, 3) := by decide +kernel
theorem dX10_still_104 : decode cX10_still 104 = .ok (.iload 5, 2) := by decide +kernel
theorem dX10_still_106 : decode cX10_still 106 = .ok (.ishl, 1) := by decide +kernel
theorem dX10_still_107 : decode cX10_still 107 = .ok (.ior, 1) := by decide +kernel
theorem dX10_still_108 : decode cX10_still 108 = .ok (.istore 4, 2) := by decide +kernel
theorem dX10_still_110 : decode cX10_still 110 = .ok (.iinc 5 1, 3) := by decide +kernel
theorem dX10_still_113 : decode cX10_still 113 = .ok (.goto (-52), 3) := by decide +kernel
theorem dX10_still_116 : decode cX10_still 116 = .ok (.iload 4, 2) := by decide +kernel
theorem dX10_still_118 : decode cX10_still 118 = .ok (.ireturn, 1) := by decide +kernel
theorem dX10_canHave_0 : decode cX10_canHave 0 = .ok (.sipush 128, 3) := by decide +kernel
theorem dX10_canHave_3 : decode cX10_canHave 3 = .ok (.iload_n 1, 1) := by decide +kernel
theorem dX10_canHave_4 : decode cX10_canHave 4 = .ok (.imul, 1) := by decide +kernel
theorem dX10_canHave_5 : decode cX10_canHave 5 = .ok (.iload_n 2, 1) := by decide +kernel
theorem dX10_canHave_6 : decode cX10_canHave 6 = .ok (.iadd, 1) := by decide +kernel
theorem dX10_canHave_7 : decode cX10_canHave 7 = .ok (.istore_n 3, 1) := by decide +kernel
theorem dX10_canHave_8 : decode cX10_canHave 8 = .ok (.aload_n 0, 1) := by decide +kernel
theorem dX10_canHave_9 : decode cX10_canHave 9 = .ok (.getfield 72, 3) := by decide +kernel
theorem dX10_canHave_12 : decode cX10_canHave 12 = .ok (.iload_n 3, 1) := by decide +kernel
theorem dX10_canHave_13 : decode cX10_canHave 13 = .ok (.iaload, 1) := by decide +kernel
theorem dX10_canHave_14 : decode cX10_canHave 14 = .ok (.ifCond .ne 26, 3) := by decide +kernel
theorem dX10_canHave_17 : decode cX10_canHave 17 = .ok (.aload_n 0, 1) := by decide +kernel
theorem dX10_canHave_18 : decode cX10_canHave 18 = .ok (.getfield 72, 3) := by decide +kernel
theorem dX10_canHave_21 : decode cX10_canHave 21 = .ok (.iload_n 3, 1) := by decide +kernel
theorem dX10_canHave_22 : decode cX10_canHave 22 = .ok (.aload_n 0, 1) := by decide +kernel
theorem dX10_canHave_23 : decode cX10_canHave 23 = .ok (.iload_n 1, 1) := by decide +kernel
theorem dX10_canHave_24 : decode cX10_canHave 24 = .ok (.iload_n 2, 1) := by decide +kernel
theorem dX10_canHave_25 : decode cX10_canHave 25 = .ok (.iconst 1, 1) := by decide +kernel
theorem dX10_canHave_26 : decode cX10_canHave 26 = .ok (.invokevirtual 313, 3) := by decide +kernel
theorem dX10_canHave_29 : decode cX10_canHave 29 = .ok (.ldc 156, 2) := by decide +kernel
theorem dX10_canHave_31 : decode cX10_canHave 31 = .ok (.if_icmp .ge 7, 3) := by decide +kernel
theorem dX10_canHave_34 : decode cX10_canHave 34 = .ok (.iconst 1, 1) := by decide +kernel
theorem dX10_canHave_35 : decode cX10_canHave 35 = .ok (.goto 4, 3) := by decide +kernel
theorem dX10_canHave_38 : decode cX10_canHave 38 = .ok (.iconst 2, 1) := by decide +kernel
theorem dX10_canHave_39 : decode cX10_canHave 39 = .ok (.iastore, 1) := by decide +kernel
theorem dX10_canHave_40 : decode cX10_canHave 40 = .ok (.aload_n 0, 1) := by decide +kernel
theorem dX10_canHave_41 : decode cX10_canHave 41 = .ok (.getfield 72, 3) := by decide +kernel
theorem dX10_canHave_44 : decode cX10_canHave 44 = .ok (.iload_n 3, 1) := by decide +kernel
theorem dX10_canHave_45 : decode cX10_canHave 45 = .ok (.iaload, 1) := by decide +kernel
theorem dX10_canHave_46 : decode cX10_canHave 46 = .ok (.iconst 1, 1) := by decide +kernel
theorem dX10_canHave_47 : decode cX10_canHave 47 = .ok (.if_icmp .ne 7, 3) := by decide +kernel
theorem dX10_canHave_50 : decode cX10_canHave 50 = .ok (.iconst 1, 1) := by decide +kernel
theorem dX10_canHave_51 : decode cX10_canHave 51 = .ok (.goto 4, 3) := by decide +kernel
theorem dX10_canHave_54 : decode cX10_canHave 54 = .ok (.iconst 0, 1) := by decide +kernel
theorem dX10_canHave_55 : decode cX10_canHave 55 = .ok (.ireturn, 1) := by decide +kernel
theorem dX10_handOf_0 : decode cX10_handOf 0 = .ok (.iload_n 1, 1) := by decide +kernel
theorem dX10_handOf_1 : decode cX10_handOf 1 = .ok (.istore_n 3, 1) := by decide +kernel
theorem dX10_handOf_2 : decode cX10_handOf 2 = .ok (.aload_n 0, 1) := by decide +kernel
theorem dX10_handOf_3 : decode cX10_handOf 3 = .ok (.getfield 175, 3) := by decide +kernel
theorem dX10_handOf_6 : decode cX10_handOf 6 = .ok (.iconst 1, 1) := by decide +kernel
theorem dX10_handOf_7 : decode cX10_handOf 7 = .ok (.isub, 1) := by decide +kernel
theorem dX10_handOf_8 : decode cX10_handOf 8 = .ok (.istore 4, 2) := by decide +kernel
theorem dX10_handOf_10 : decode cX10_handOf 10 = .ok (.iload 4, 2) := by decide +kernel
theorem dX10_handOf_12 : decode cX10_handOf 12 = .ok (.iload_n 2, 1) := by decide +kernel
theorem dX10_handOf_13 : decode cX10_handOf 13 = .ok (.if_icmp .le 16, 3) := by decide +kernel
theorem dX10_handOf_16 : decode cX10_handOf 16 = .ok (.iload_n 3, 1) := by decide +kernel
theorem dX10_handOf_17 : decode cX10_handOf 17 = .ok (.aload_n 0, 1) := by decide +kernel
theorem dX10_handOf_18 : decode cX10_handOf 18 = .ok (.getfield 172, 3) := by decide +kernel
theorem dX10_handOf_21 : decode cX10_handOf 21 = .ok (.idiv, 1) := by decide +kernel
theorem dX10_handOf_22 : decode cX10_handOf 22 = .ok (.istore_n 3, 1) := by decide +kernel
theorem dX10_handOf_23 : decode cX10_handOf 23 = .ok (.iinc 4 (-1), 3) := by decide +kernel
theorem dX10_handOf_26 : decode cX10_handOf 26 = .ok (.goto (-16), 3) := by decide +kernel
theorem dX10_handOf_29 : decode cX10_handOf 29 = .ok (.iload_n 3, 1) := by decide +kernel
theorem dX10_handOf_30 : decode cX10_handOf 30 = .ok (.aload_n 0, 1) := by decide +kernel
theorem dX10_handOf_31 : decode cX10_handOf 31 = .ok (.getfield 172, 3) := by decide +kernel
theorem dX10_handOf_34 : decode cX10_handOf 34 = .ok (.irem, 1) := by decide +kernel
theorem dX10_handOf_35 : decode cX10_handOf 35 = .ok (.ireturn, 1) := by decide +kernel
theorem dX10_changesBy_0 : decode cX10_changesBy 0 = .ok (.iconst 0, 1) := by decide +kernel
theorem dX10_changesBy_1 : decode cX10_changesBy 1 = .ok (.istore_n 3, 1) := by decide +kernel
theorem dX10_changesBy_2 : decode cX10_changesBy 2 = .ok (.iconst 1, 1) := by decide +kernel
theorem dX10_changesBy_3 : decode cX10_changesBy 3 = .ok (.istore 4, 2) := by decide +kernel
theorem dX10_changesBy_5 : decode cX10_changesBy 5 = .ok (.iconst 0, 1) := by decide +kernel
theorem dX10_changesBy_6 : decode cX10_changesBy 6 = .ok (.istore 5, 2) := by decide +kernel
theorem dX10_changesBy_8 : decode cX10_changesBy 8 = .ok (.iload 5, 2) := by decide +kernel
theorem dX10_changesBy_10 : decode cX10_changesBy 10 = .ok (.aload_n 0, 1) := by decide +kernel
theorem dX10_changesBy_11 : decode cX10_changesBy 11 = .ok (.getfield 175, 3) := by decide +kernel
theorem dX10_changesBy_14 : decode cX10_changesBy 14 = .ok (.if_icmp .ge 70, 3) := by decide +kernel
theorem dX10_changesBy_17 : decode cX10_changesBy 17 = .ok (.aload_n 0, 1) := by decide +kernel
theorem dX10_changesBy_18 : decode cX10_changesBy 18 = .ok (.iload_n 1, 1) := by decide +kernel
theorem dX10_changesBy_19 : decode cX10_changesBy 19 = .ok (.iload 5, 2) := by decide +kernel
theorem dX10_changesBy_21 : decode cX10_changesBy 21 = .ok (.invokevirtual 322, 3) := by decide +kernel
theorem dX10_changesBy_24 : decode cX10_changesBy 24 = .ok (.aload_n 0, 1) := by decide +kernel
theorem dX10_changesBy_25 : decode cX10_changesBy 25 = .ok (.getfield 7, 3) := by decide +kernel
theorem dX10_changesBy_28 : decode cX10_changesBy 28 = .ok (.bipush 14, 2) := by decide +kernel
theorem dX10_changesBy_30 : decode cX10_changesBy 30 = .ok (.iload 5, 2) := by decide +kernel
theorem dX10_changesBy_32 : decode cX10_changesBy 32 = .ok (.iadd, 1) := by decide +kernel
theorem dX10_changesBy_33 : decode cX10_changesBy 33 = .ok (.iaload, 1) := by decide +kernel
theorem dX10_changesBy_34 : decode cX10_changesBy 34 = .ok (.if_icmp .eq 7, 3) := by decide +kernel
theorem dX10_changesBy_37 : decode cX10_changesBy 37 = .ok (.iconst 1, 1) := by decide +kernel
theorem dX10_changesBy_38 : decode cX10_changesBy 38 = .ok (.goto 4, 3) := by decide +kernel
theorem dX10_changesBy_41 : decode cX10_changesBy 41 = .ok (.iconst 0, 1) := by decide +kernel
theorem dX10_changesBy_42 : decode cX10_changesBy 42 = .ok (.istore 6, 2) := by decide +kernel
theorem dX10_changesBy_44 : decode cX10_changesBy 44 = .ok (.iload_n 3, 1) := by decide +kernel
theorem dX10_changesBy_45 : decode cX10_changesBy 45 = .ok (.iload 6, 2) := by decide +kernel
theorem dX10_changesBy_47 : decode cX10_changesBy 47 = .ok (.invokestatic 191, 3) := by decide +kernel
theorem dX10_changesBy_50 : decode cX10_changesBy 50 = .ok (.iadd, 1) := by decide +kernel
theorem dX10_changesBy_51 : decode cX10_changesBy 51 = .ok (.istore_n 3, 1) := by decide +kernel
theorem dX10_changesBy_52 : decode cX10_changesBy 52 = .ok (.iload 4, 2) := by decide +kernel
theorem dX10_changesBy_54 : decode cX10_changesBy 54 = .ok (.ifCond .eq 21, 3) := by decide +kernel
theorem dX10_changesBy_57 : decode cX10_changesBy 57 = .ok (.iload_n 2, 1) := by decide +kernel
theorem dX10_changesBy_58 : decode cX10_changesBy 58 = .ok (.iload 5, 2) := by decide +kernel
theorem dX10_changesBy_60 : decode cX10_changesBy 60 = .ok (.invokestatic 232, 3) := by decide +kernel
theorem dX10_changesBy_63 : decode cX10_changesBy 63 = .ok (.ifCond .ne 8, 3) := by decide +kernel
theorem dX10_changesBy_66 : decode cX10_changesBy 66 = .ok (.iload 6, 2) := by decide +kernel
theorem dX10_changesBy_68 : decode cX10_changesBy 68 = .ok (.ifCond .ne 7, 3) := by decide +kernel
theorem dX10_changesBy_71 : decode cX10_changesBy 71 = .ok (.iconst 1, 1) := by decide +kernel
theorem dX10_changesBy_72 : decode cX10_changesBy 72 = .ok (.goto 4, 3) := by decide +kernel
theorem dX10_changesBy_75 : decode cX10_changesBy 75 = .ok (.iconst 0, 1) := by decide +kernel
theorem dX10_changesBy_76 : decode cX10_changesBy 76 = .ok (.istore 4, 2) := by decide +kernel
theorem dX10_changesBy_78 : decode cX10_changesBy 78 = .ok (.iinc 5 1, 3) := by decide +kernel
theorem dX10_changesBy_81 : decode cX10_changesBy 81 = .ok (.goto (-73), 3) := by decide +kernel
theorem dX10_changesBy_84 : decode cX10_changesBy 84 = .ok (.iconst 0, 1) := by decide +kernel
theorem dX10_changesBy_85 : decode cX10_changesBy 85 = .ok (.istore 5, 2) := by decide +kernel
theorem dX10_changesBy_87 : decode cX10_changesBy 87 = .ok (.iload 5, 2) := by decide +kernel
theorem dX10_changesBy_89 : decode cX10_changesBy 89 = .ok (.aload_n 0, 1) := by decide +kernel
theorem dX10_changesBy_90 : decode cX10_changesBy 90 = .ok (.getfield 172, 3) := by decide +kernel
theorem dX10_changesBy_93 : decode cX10_changesBy 93 = .ok (.if_icmp .ge 82, 3) := by decide +kernel
theorem dX10_changesBy_96 : decode cX10_changesBy 96 = .ok (.iload 4, 2) := by decide +kernel
theorem dX10_changesBy_98 : decode cX10_changesBy 98 = .ok (.ifCond .eq 77, 3) := by decide +kernel
theorem dX10_changesBy_101 : decode cX10_changesBy 101 = .ok (.iconst 0, 1) := by decide +kernel
theorem dX10_changesBy_102 : decode cX10_changesBy 102 = .ok (.istore 6, 2) := by decide +kernel
theorem dX10_changesBy_104 : decode cX10_changesBy 104 = .ok (.iconst 0, 1) := by decide +kernel
theorem dX10_changesBy_105 : decode cX10_changesBy 105 = .ok (.istore 7, 2) := by decide +kernel
theorem dX10_changesBy_107 : decode cX10_changesBy 107 = .ok (.iload 7, 2) := by decide +kernel
theorem dX10_changesBy_109 : decode cX10_changesBy 109 = .ok (.aload_n 0, 1) := by decide +kernel
theorem dX10_changesBy_110 : decode cX10_changesBy 110 = .ok (.getfield 175, 3) := by decide +kernel
theorem dX10_changesBy_113 : decode cX10_changesBy 113 = .ok (.if_icmp .ge 46, 3) := by decide +kernel
theorem dX10_changesBy_116 : decode cX10_changesBy 116 = .ok (.iload 6, 2) := by decide +kernel
theorem dX10_changesBy_118 : decode cX10_changesBy 118 = .ok (.iload_n 2, 1) := by decide +kernel
theorem dX10_changesBy_119 : decode cX10_changesBy 119 = .ok (.iload 7, 2) := by decide +kernel
theorem dX10_changesBy_121 : decode cX10_changesBy 121 = .ok (.invokestatic 232, 3) := by decide +kernel
theorem dX10_changesBy_124 : decode cX10_changesBy 124 = .ok (.ifCond .eq 19, 3) := by decide +kernel
theorem dX10_changesBy_127 : decode cX10_changesBy 127 = .ok (.aload_n 0, 1) := by decide +kernel
theorem dX10_changesBy_128 : decode cX10_changesBy 128 = .ok (.iload_n 1, 1) := by decide +kernel
theorem dX10_changesBy_129 : decode cX10_changesBy 129 = .ok (.iload 7, 2) := by decide +kernel
theorem dX10_changesBy_131 : decode cX10_changesBy 131 = .ok (.invokevirtual 322, 3) := by decide +kernel
theorem dX10_changesBy_134 : decode cX10_changesBy 134 = .ok (.iload 5, 2) := by decide +kernel
theorem dX10_changesBy_136 : decode cX10_changesBy 136 = .ok (.if_icmp .ne 7, 3) := by decide +kernel
theorem dX10_changesBy_139 : decode cX10_changesBy 139 = .ok (.iconst 1, 1) := by decide +kernel
theorem dX10_changesBy_140 : decode cX10_changesBy 140 = .ok (.goto 4, 3) := by decide +kernel
theorem dX10_changesBy_143 : decode cX10_changesBy 143 = .ok (.iconst 0, 1) := by decide +kernel
theorem dX10_changesBy_144 : decode cX10_changesBy 144 = .ok (.invokestatic 191, 3) := by decide +kernel
theorem dX10_changesBy_147 : decode cX10_changesBy 147 = .ok (.iload 7, 2) := by decide +kernel
theorem dX10_changesBy_149 : decode cX10_changesBy 149 = .ok (.ishl, 1) := by decide +kernel
theorem dX10_changesBy_150 : decode cX10_changesBy 150 = .ok (.ior, 1) := by decide +kernel
theorem dX10_changesBy_151 : decode cX10_changesBy 151 = .ok (.istore 6, 2) := by decide +kernel
theorem dX10_changesBy_153 : decode cX10_changesBy 153 = .ok (.iinc 7 1, 3) := by decide +kernel
theorem dX10_changesBy_156 : decode cX10_changesBy 156 = .ok (.goto (-49), 3) := by decide +kernel
theorem dX10_changesBy_159 : decode cX10_changesBy 159 = .ok (.aload_n 0, 1) := by decide +kernel
theorem dX10_changesBy_160 : decode cX10_changesBy 160 = .ok (.iload 5, 2) := by decide +kernel
theorem dX10_changesBy_162 : decode cX10_changesBy 162 = .ok (.iload 6, 2) := by decide +kernel
theorem dX10_changesBy_164 : decode cX10_changesBy 164 = .ok (.invokevirtual 325, 3) := by decide +kernel
theorem dX10_changesBy_167 : decode cX10_changesBy 167 = .ok (.istore 4, 2) := by decide +kernel
theorem dX10_changesBy_169 : decode cX10_changesBy 169 = .ok (.iinc 5 1, 3) := by decide +kernel
theorem dX10_changesBy_172 : decode cX10_changesBy 172 = .ok (.goto (-85), 3) := by decide +kernel
theorem dX10_changesBy_175 : decode cX10_changesBy 175 = .ok (.iload 4, 2) := by decide +kernel
theorem dX10_changesBy_177 : decode cX10_changesBy 177 = .ok (.ifCond .eq 7, 3) := by decide +kernel
theorem dX10_changesBy_180 : decode cX10_changesBy 180 = .ok (.iload_n 3, 1) := by decide +kernel
theorem dX10_changesBy_181 : decode cX10_changesBy 181 = .ok (.goto 5, 3) := by decide +kernel
theorem dX10_changesBy_184 : decode cX10_changesBy 184 = .ok (.ldc 156, 2) := by decide +kernel
theorem dX10_changesBy_186 : decode cX10_changesBy 186 = .ok (.ireturn, 1) := by decide +kernel
theorem dX10_hands_0 : decode cX10_hands 0 = .ok (.iload_n 1, 1) := by decide +kernel
theorem dX10_hands_1 : decode cX10_hands 1 = .ok (.iconst (-1), 1) := by decide +kernel
theorem dX10_hands_2 : decode cX10_hands 2 = .ok (.if_icmp .eq 14, 3) := by decide +kernel
theorem dX10_hands_5 : decode cX10_hands 5 = .ok (.aload_n 0, 1) := by decide +kernel
theorem dX10_hands_6 : decode cX10_hands 6 = .ok (.iload_n 1, 1) := by decide +kernel
theorem dX10_hands_7 : decode cX10_hands 7 = .ok (.invokevirtual 212, 3) := by decide +kernel
theorem dX10_hands_10 : decode cX10_hands 10 = .ok (.ifCond .ne 6, 3) := by decide +kernel
theorem dX10_hands_13 : decode cX10_hands 13 = .ok (.ldc 205, 2) := by decide +kernel
theorem dX10_hands_15 : decode cX10_hands 15 = .ok (.ireturn, 1) := by decide +kernel
theorem dX10_hands_16 : decode cX10_hands 16 = .ok (.iconst 1, 1) := by decide +kernel
theorem dX10_hands_17 : decode cX10_hands 17 = .ok (.istore_n 2, 1) := by decide +kernel
theorem dX10_hands_18 : decode cX10_hands 18 = .ok (.iconst 0, 1) := by decide +kernel
theorem dX10_hands_19 : decode cX10_hands 19 = .ok (.istore_n 3, 1) := by decide +kernel
theorem dX10_hands_20 : decode cX10_hands 20 = .ok (.iload_n 3, 1) := by decide +kernel
theorem dX10_hands_21 : decode cX10_hands 21 = .ok (.aload_n 0, 1) := by decide +kernel
theorem dX10_hands_22 : decode cX10_hands 22 = .ok (.getfield 172, 3) := by decide +kernel
theorem dX10_hands_25 : decode cX10_hands 25 = .ok (.if_icmp .ge 20, 3) := by decide +kernel
theorem dX10_hands_28 : decode cX10_hands 28 = .ok (.aload_n 0, 1) := by decide +kernel
theorem dX10_hands_29 : decode cX10_hands 29 = .ok (.iload_n 3, 1) := by decide +kernel
theorem dX10_hands_30 : decode cX10_hands 30 = .ok (.invokevirtual 220, 3) := by decide +kernel
theorem dX10_hands_33 : decode cX10_hands 33 = .ok (.ifCond .eq 6, 3) := by decide +kernel
theorem dX10_hands_36 : decode cX10_hands 36 = .ok (.ldc 227, 2) := by decide +kernel
theorem dX10_hands_38 : decode cX10_hands 38 = .ok (.ireturn, 1) := by decide +kernel
theorem dX10_hands_39 : decode cX10_hands 39 = .ok (.iinc 3 1, 3) := by decide +kernel
theorem dX10_hands_42 : decode cX10_hands 42 = .ok (.goto (-22), 3) := by decide +kernel
theorem dX10_hands_45 : decode cX10_hands 45 = .ok (.iconst 0, 1) := by decide +kernel
theorem dX10_hands_46 : decode cX10_hands 46 = .ok (.istore_n 3, 1) := by decide +kernel
theorem dX10_hands_47 : decode cX10_hands 47 = .ok (.iload_n 3, 1) := by decide +kernel
theorem dX10_hands_48 : decode cX10_hands 48 = .ok (.aload_n 0, 1) := by decide +kernel
theorem dX10_hands_49 : decode cX10_hands 49 = .ok (.getfield 175, 3) := by decide +kernel
theorem dX10_hands_52 : decode cX10_hands 52 = .ok (.if_icmp .ge 16, 3) := by decide +kernel
theorem dX10_hands_55 : decode cX10_hands 55 = .ok (.iload_n 2, 1) := by decide +kernel
theorem dX10_hands_56 : decode cX10_hands 56 = .ok (.aload_n 0, 1) := by decide +kernel
theorem dX10_hands_57 : decode cX10_hands 57 = .ok (.getfield 172, 3) := by decide +kernel
theorem dX10_hands_60 : decode cX10_hands 60 = .ok (.imul, 1) := by decide +kernel
theorem dX10_hands_61 : decode cX10_hands 61 = .ok (.istore_n 2, 1) := by decide +kernel
theorem dX10_hands_62 : decode cX10_hands 62 = .ok (.iinc 3 1, 3) := by decide +kernel
theorem dX10_hands_65 : decode cX10_hands 65 = .ok (.goto (-18), 3) := by decide +kernel
theorem dX10_hands_68 : decode cX10_hands 68 = .ok (.iconst 0, 1) := by decide +kernel
theorem dX10_hands_69 : decode cX10_hands 69 = .ok (.istore_n 3, 1) := by decide +kernel
theorem dX10_hands_70 : decode cX10_hands 70 = .ok (.iload_n 3, 1) := by decide +kernel
theorem dX10_hands_71 : decode cX10_hands 71 = .ok (.sipush 384, 3) := by decide +kernel
theorem dX10_hands_74 : decode cX10_hands 74 = .ok (.if_icmp .ge 16, 3) := by decide +kernel
theorem dX10_hands_77 : decode cX10_hands 77 = .ok (.aload_n 0, 1) := by decide +kernel
theorem dX10_hands_78 : decode cX10_hands 78 = .ok (.getfield 72, 3) := by decide +kernel
theorem dX10_hands_81 : decode cX10_hands 81 = .ok (.iload_n 3, 1) := by decide +kernel
theorem dX10_hands_82 : decode cX10_hands 82 = .ok (.iconst 0, 1) := by decide +kernel
theorem dX10_hands_83 : decode cX10_hands 83 = .ok (.iastore, 1) := by decide +kernel
theorem dX10_hands_84 : decode cX10_hands 84 = .ok (.iinc 3 1, 3) := by decide +kernel
theorem dX10_hands_87 : decode cX10_hands 87 = .ok (.goto (-17), 3) := by decide +kernel
theorem dX10_hands_90 : decode cX10_hands 90 = .ok (.aload_n 0, 1) := by decide +kernel
theorem dX10_hands_91 : decode cX10_hands 91 = .ok (.iconst 0, 1) := by decide +kernel
theorem dX10_hands_92 : decode cX10_hands 92 = .ok (.invokevirtual 198, 3) := by decide +kernel
theorem dX10_hands_95 : decode cX10_hands 95 = .ok (.istore_n 3, 1) := by decide +kernel
theorem dX10_hands_96 : decode cX10_hands 96 = .ok (.iconst (-1), 1) := by decide +kernel
theorem dX10_hands_97 : decode cX10_hands 97 = .ok (.istore 4, 2) := by decide +kernel
theorem dX10_hands_99 : decode cX10_hands 99 = .ok (.ldc 156, 2) := by decide +kernel
theorem dX10_hands_101 : decode cX10_hands 101 = .ok (.istore 5, 2) := by decide +kernel
theorem dX10_hands_103 : decode cX10_hands 103 = .ok (.iconst 0, 1) := by decide +kernel
theorem dX10_hands_104 : decode cX10_hands 104 = .ok (.istore 6, 2) := by decide +kernel
theorem dX10_hands_106 : decode cX10_hands 106 = .ok (.iload 6, 2) := by decide +kernel
theorem dX10_hands_108 : decode cX10_hands 108 = .ok (.iload_n 2, 1) := by decide +kernel
theorem dX10_hands_109 : decode cX10_hands 109 = .ok (.if_icmp .ge 33, 3) := by decide +kernel
theorem dX10_hands_112 : decode cX10_hands 112 = .ok (.aload_n 0, 1) := by decide +kernel
theorem dX10_hands_113 : decode cX10_hands 113 = .ok (.iload 6, 2) := by decide +kernel
theorem dX10_hands_115 : decode cX10_hands 115 = .ok (.iload_n 3, 1) := by decide +kernel
theorem dX10_hands_116 : decode cX10_hands 116 = .ok (.invokevirtual 328, 3) := by decide +kernel
theorem dX10_hands_119 : decode cX10_hands 119 = .ok (.istore 7, 2) := by decide +kernel
theorem dX10_hands_121 : decode cX10_hands 121 = .ok (.iload 7, 2) := by decide +kernel
theorem dX10_hands_123 : decode cX10_hands 123 = .ok (.iload 5, 2) := by decide +kernel
theorem dX10_hands_125 : decode cX10_hands 125 = .ok (.if_icmp .ge 11, 3) := by decide +kernel
theorem dX10_hands_128 : decode cX10_hands 128 = .ok (.iload 6, 2) := by decide +kernel
theorem dX10_hands_130 : decode cX10_hands 130 = .ok (.istore 4, 2) := by decide +kernel
theorem dX10_hands_132 : decode cX10_hands 132 = .ok (.iload 7, 2) := by decide +kernel
theorem dX10_hands_134 : decode cX10_hands 134 = .ok (.istore 5, 2) := by decide +kernel
theorem dX10_hands_136 : decode cX10_hands 136 = .ok (.iinc 6 1, 3) := by decide +kernel
theorem dX10_hands_139 : decode cX10_hands 139 = .ok (.goto (-33), 3) := by decide +kernel
theorem dX10_hands_142 : decode cX10_hands 142 = .ok (.iload 4, 2) := by decide +kernel
theorem dX10_hands_144 : decode cX10_hands 144 = .ok (.ifCond .ge 7, 3) := by decide +kernel
theorem dX10_hands_147 : decode cX10_hands 147 = .ok (.iconst (-1), 1) := by decide +kernel
theorem dX10_hands_148 : decode cX10_hands 148 = .ok (.goto 20, 3) := by decide +kernel
theorem dX10_hands_151 : decode cX10_hands 151 = .ok (.iload_n 1, 1) := by decide +kernel
theorem dX10_hands_152 : decode cX10_hands 152 = .ok (.iconst (-1), 1) := by decide +kernel
theorem dX10_hands_153 : decode cX10_hands 153 = .ok (.if_icmp .ne 8, 3) := by decide +kernel
theorem dX10_hands_156 : decode cX10_hands 156 = .ok (.iload 5, 2) := by decide +kernel
theorem dX10_hands_158 : decode cX10_hands 158 = .ok (.goto 10, 3) := by decide +kernel
theorem dX10_hands_161 : decode cX10_hands 161 = .ok (.aload_n 0, 1) := by decide +kernel
theorem dX10_hands_162 : decode cX10_hands 162 = .ok (.iload 4, 2) := by decide +kernel
theorem dX10_hands_164 : decode cX10_hands 164 = .ok (.iload_n 1, 1) := by decide +kernel
theorem dX10_hands_165 : decode cX10_hands 165 = .ok (.invokevirtual 322, 3) := by decide +kernel
theorem dX10_hands_168 : decode cX10_hands 168 = .ok (.ireturn, 1) := by decide +kernel
theorem dX10_mayKeepOn_0 : decode cX10_mayKeepOn 0 = .ok (.iconst 0, 1) := by decide +kernel
theorem dX10_mayKeepOn_1 : decode cX10_mayKeepOn 1 = .ok (.istore_n 3, 1) := by decide +kernel
theorem dX10_mayKeepOn_2 : decode cX10_mayKeepOn 2 = .ok (.iconst 0, 1) := by decide +kernel
theorem dX10_mayKeepOn_3 : decode cX10_mayKeepOn 3 = .ok (.istore 4, 2) := by decide +kernel
theorem dX10_mayKeepOn_5 : decode cX10_mayKeepOn 5 = .ok (.iload 4, 2) := by decide +kernel
theorem dX10_mayKeepOn_7 : decode cX10_mayKeepOn 7 = .ok (.aload_n 0, 1) := by decide +kernel
theorem dX10_mayKeepOn_8 : decode cX10_mayKeepOn 8 = .ok (.getfield 175, 3) := by decide +kernel
theorem dX10_mayKeepOn_11 : decode cX10_mayKeepOn 11 = .ok (.if_icmp .ge 98, 3) := by decide +kernel
theorem dX10_mayKeepOn_14 : decode cX10_mayKeepOn 14 = .ok (.aload_n 0, 1) := by decide +kernel
theorem dX10_mayKeepOn_15 : decode cX10_mayKeepOn 15 = .ok (.getfield 7, 3) := by decide +kernel
theorem dX10_mayKeepOn_18 : decode cX10_mayKeepOn 18 = .ok (.iload 4, 2) := by decide +kernel
theorem dX10_mayKeepOn_20 : decode cX10_mayKeepOn 20 = .ok (.iaload, 1) := by decide +kernel
theorem dX10_mayKeepOn_21 : decode cX10_mayKeepOn 21 = .ok (.ifCond .ne 38, 3) := by decide +kernel
theorem dX10_mayKeepOn_24 : decode cX10_mayKeepOn 24 = .ok (.aload_n 0, 1) := by decide +kernel
theorem dX10_mayKeepOn_25 : decode cX10_mayKeepOn 25 = .ok (.getfield 7, 3) := by decide +kernel
theorem dX10_mayKeepOn_28 : decode cX10_mayKeepOn 28 = .ok (.bipush 21, 2) := by decide +kernel
theorem dX10_mayKeepOn_30 : decode cX10_mayKeepOn 30 = .ok (.iload 4, 2) := by decide +kernel
theorem dX10_mayKeepOn_32 : decode cX10_mayKeepOn 32 = .ok (.iadd, 1) := by decide +kernel
theorem dX10_mayKeepOn_33 : decode cX10_mayKeepOn 33 = .ok (.iaload, 1) := by decide +kernel
theorem dX10_mayKeepOn_34 : decode cX10_mayKeepOn 34 = .ok (.ifCond .lt 25, 3) := by decide +kernel
theorem dX10_mayKeepOn_37 : decode cX10_mayKeepOn 37 = .ok (.iload_n 1, 1) := by decide +kernel
theorem dX10_mayKeepOn_38 : decode cX10_mayKeepOn 38 = .ok (.ifCond .lt 17, 3) := by decide +kernel
theorem dX10_mayKeepOn_41 : decode cX10_mayKeepOn 41 = .ok (.aload_n 0, 1) := by decide +kernel
theorem dX10_mayKeepOn_42 : decode cX10_mayKeepOn 42 = .ok (.getfield 7, 3) := by decide +kernel
theorem dX10_mayKeepOn_45 : decode cX10_mayKeepOn 45 = .ok (.bipush 14, 2) := by decide +kernel
theorem dX10_mayKeepOn_47 : decode cX10_mayKeepOn 47 = .ok (.iload 4, 2) := by decide +kernel
theorem dX10_mayKeepOn_49 : decode cX10_mayKeepOn 49 = .ok (.iadd, 1) := by decide +kernel
theorem dX10_mayKeepOn_50 : decode cX10_mayKeepOn 50 = .ok (.iaload, 1) := by decide +kernel
theorem dX10_mayKeepOn_51 : decode cX10_mayKeepOn 51 = .ok (.iload_n 1, 1) := by decide +kernel
theorem dX10_mayKeepOn_52 : decode cX10_mayKeepOn 52 = .ok (.if_icmp .ne 7, 3) := by decide +kernel
theorem dX10_mayKeepOn_55 : decode cX10_mayKeepOn 55 = .ok (.iconst 1, 1) := by decide +kernel
theorem dX10_mayKeepOn_56 : decode cX10_mayKeepOn 56 = .ok (.goto 4, 3) := by decide +kernel
theorem dX10_mayKeepOn_59 : decode cX10_mayKeepOn 59 = .ok (.iconst 0, 1) := by decide +kernel
theorem dX10_mayKeepOn_60 : decode cX10_mayKeepOn 60 = .ok (.istore 5, 2) := by decide +kernel
theorem dX10_mayKeepOn_62 : decode cX10_mayKeepOn 62 = .ok (.iload_n 3, 1) := by decide +kernel
theorem dX10_mayKeepOn_63 : decode cX10_mayKeepOn 63 = .ok (.iload 5, 2) := by decide +kernel
theorem dX10_mayKeepOn_65 : decode cX10_mayKeepOn 65 = .ok (.ifCond .eq 32, 3) := by decide +kernel
theorem dX10_mayKeepOn_68 : decode cX10_mayKeepOn 68 = .ok (.iload_n 2, 1) := by decide +kernel
theorem dX10_mayKeepOn_69 : decode cX10_mayKeepOn 69 = .ok (.aload_n 0, 1) := by decide +kernel
theorem dX10_mayKeepOn_70 : decode cX10_mayKeepOn 70 = .ok (.iconst 0, 1) := by decide +kernel
theorem dX10_mayKeepOn_71 : decode cX10_mayKeepOn 71 = .ok (.iload 4, 2) := by decide +kernel
theorem dX10_mayKeepOn_73 : decode cX10_mayKeepOn 73 = .ok (.invokevirtual 215, 3) := by decide +kernel
theorem dX10_mayKeepOn_76 : decode cX10_mayKeepOn 76 = .ok (.isub, 1) := by decide +kernel
theorem dX10_mayKeepOn_77 : decode cX10_mayKeepOn 77 = .ok (.i2l, 1) := by decide +kernel
theorem dX10_mayKeepOn_78 : decode cX10_mayKeepOn 78 = .ok (.lconst 0, 1) := by decide +kernel
theorem dX10_mayKeepOn_79 : decode cX10_mayKeepOn 79 = .ok (.aload_n 0, 1) := by decide +kernel
theorem dX10_mayKeepOn_80 : decode cX10_mayKeepOn 80 = .ok (.getfield 38, 3) := by decide +kernel
theorem dX10_mayKeepOn_83 : decode cX10_mayKeepOn 83 = .ok (.iload 4, 2) := by decide +kernel
theorem dX10_mayKeepOn_85 : decode cX10_mayKeepOn 85 = .ok (.iaload, 1) := by decide +kernel
theorem dX10_mayKeepOn_86 : decode cX10_mayKeepOn 86 = .ok (.i2l, 1) := by decide +kernel
theorem dX10_mayKeepOn_87 : decode cX10_mayKeepOn 87 = .ok (.invokestatic 89, 3) := by decide +kernel
theorem dX10_mayKeepOn_90 : decode cX10_mayKeepOn 90 = .ok (.ifCond .eq 7, 3) := by decide +kernel
theorem dX10_mayKeepOn_93 : decode cX10_mayKeepOn 93 = .ok (.iconst 1, 1) := by decide +kernel
theorem dX10_mayKeepOn_94 : decode cX10_mayKeepOn 94 = .ok (.goto 4, 3) := by decide +kernel
theorem dX10_mayKeepOn_97 : decode cX10_mayKeepOn 97 = .ok (.iconst 0, 1) := by decide +kernel
theorem dX10_mayKeepOn_98 : decode cX10_mayKeepOn 98 = .ok (.invokestatic 191, 3) := by decide +kernel
theorem dX10_mayKeepOn_101 : decode cX10_mayKeepOn 101 = .ok (.iadd, 1) := by decide +kernel
theorem dX10_mayKeepOn_102 : decode cX10_mayKeepOn 102 = .ok (.istore_n 3, 1) := by decide +kernel
theorem dX10_mayKeepOn_103 : decode cX10_mayKeepOn 103 = .ok (.iinc 4 1, 3) := by decide +kernel
theorem dX10_mayKeepOn_106 : decode cX10_mayKeepOn 106 = .ok (.goto (-101), 3) := by decide +kernel
theorem dX10_mayKeepOn_109 : decode cX10_mayKeepOn 109 = .ok (.iload_n 3, 1) := by decide +kernel
theorem dX10_mayKeepOn_110 : decode cX10_mayKeepOn 110 = .ok (.ireturn, 1) := by decide +kernel
theorem dX10_calendar_0 : decode cX10_calendar 0 = .ok (.aload_n 0, 1) := by decide +kernel
theorem dX10_calendar_1 : decode cX10_calendar 1 = .ok (.iload_n 1, 1) := by decide +kernel
theorem dX10_calendar_2 : decode cX10_calendar 2 = .ok (.invokevirtual 206, 3) := by decide +kernel
theorem dX10_calendar_5 : decode cX10_calendar 5 = .ok (.ifCond .ne 8, 3) := by decide +kernel
theorem dX10_calendar_8 : decode cX10_calendar 8 = .ok (.ldc 205, 2) := by decide +kernel
theorem dX10_calendar_10 : decode cX10_calendar 10 = .ok (.goto 26, 3) := by decide +kernel
theorem dX10_calendar_13 : decode cX10_calendar 13 = .ok (.iload_n 2, 1) := by decide +kernel
theorem dX10_calendar_14 : decode cX10_calendar 14 = .ok (.i2l, 1) := by decide +kernel
theorem dX10_calendar_15 : decode cX10_calendar 15 = .ok (.lconst 0, 1) := by decide +kernel
theorem dX10_calendar_16 : decode cX10_calendar 16 = .ok (.ldc2_w 331, 3) := by decide +kernel
theorem dX10_calendar_19 : decode cX10_calendar 19 = .ok (.invokestatic 89, 3) := by decide +kernel
theorem dX10_calendar_22 : decode cX10_calendar 22 = .ok (.ifCond .eq 12, 3) := by decide +kernel
theorem dX10_calendar_25 : decode cX10_calendar 25 = .ok (.aload_n 0, 1) := by decide +kernel
theorem dX10_calendar_26 : decode cX10_calendar 26 = .ok (.iload_n 1, 1) := by decide +kernel
theorem dX10_calendar_27 : decode cX10_calendar 27 = .ok (.iload_n 2, 1) := by decide +kernel
theorem dX10_calendar_28 : decode cX10_calendar 28 = .ok (.invokevirtual 333, 3) := by decide +kernel
theorem dX10_calendar_31 : decode cX10_calendar 31 = .ok (.goto 5, 3) := by decide +kernel
theorem dX10_calendar_34 : decode cX10_calendar 34 = .ok (.ldc 93, 2) := by decide +kernel
theorem dX10_calendar_36 : decode cX10_calendar 36 = .ok (.ireturn, 1) := by decide +kernel
theorem dX10_busiest_0 : decode cX10_busiest 0 = .ok (.iload_n 1, 1) := by decide +kernel
theorem dX10_busiest_1 : decode cX10_busiest 1 = .ok (.i2l, 1) := by decide +kernel
theorem dX10_busiest_2 : decode cX10_busiest 2 = .ok (.lconst 0, 1) := by decide +kernel
theorem dX10_busiest_3 : decode cX10_busiest 3 = .ok (.lconst 1, 1) := by decide +kernel
theorem dX10_busiest_4 : decode cX10_busiest 4 = .ok (.invokestatic 89, 3) := by decide +kernel
theorem dX10_busiest_7 : decode cX10_busiest 7 = .ok (.ifCond .ne 6, 3) := by decide +kernel
theorem dX10_busiest_10 : decode cX10_busiest 10 = .ok (.ldc 93, 2) := by decide +kernel
theorem dX10_busiest_12 : decode cX10_busiest 12 = .ok (.ireturn, 1) := by decide +kernel
theorem dX10_busiest_13 : decode cX10_busiest 13 = .ok (.aload_n 0, 1) := by decide +kernel
theorem dX10_busiest_14 : decode cX10_busiest 14 = .ok (.getfield 166, 3) := by decide +kernel
theorem dX10_busiest_17 : decode cX10_busiest 17 = .ok (.ifCond .ne 6, 3) := by decide +kernel
theorem dX10_busiest_20 : decode cX10_busiest 20 = .ok (.ldc 227, 2) := by decide +kernel
theorem dX10_busiest_22 : decode cX10_busiest 22 = .ok (.ireturn, 1) := by decide +kernel
theorem dX10_busiest_23 : decode cX10_busiest 23 = .ok (.iconst 0, 1) := by decide +kernel
theorem dX10_busiest_24 : decode cX10_busiest 24 = .ok (.istore_n 2, 1) := by decide +kernel
theorem dX10_busiest_25 : decode cX10_busiest 25 = .ok (.iconst (-1), 1) := by decide +kernel
theorem dX10_busiest_26 : decode cX10_busiest 26 = .ok (.istore_n 3, 1) := by decide +kernel
theorem dX10_busiest_27 : decode cX10_busiest 27 = .ok (.iconst 0, 1) := by decide +kernel
theorem dX10_busiest_28 : decode cX10_busiest 28 = .ok (.istore 4, 2) := by decide +kernel
theorem dX10_busiest_30 : decode cX10_busiest 30 = .ok (.iload 4, 2) := by decide +kernel
theorem dX10_busiest_32 : decode cX10_busiest 32 = .ok (.sipush 200, 3) := by decide +kernel
theorem dX10_busiest_35 : decode cX10_busiest 35 = .ok (.if_icmp .ge 46, 3) := by decide +kernel
theorem dX10_busiest_38 : decode cX10_busiest 38 = .ok (.aload_n 0, 1) := by decide +kernel
theorem dX10_busiest_39 : decode cX10_busiest 39 = .ok (.iconst (-1), 1) := by decide +kernel
theorem dX10_busiest_40 : decode cX10_busiest 40 = .ok (.aload_n 0, 1) := by decide +kernel
theorem dX10_busiest_41 : decode cX10_busiest 41 = .ok (.getfield 7, 3) := by decide +kernel
theorem dX10_busiest_44 : decode cX10_busiest 44 = .ok (.bipush 37, 2) := by decide +kernel
theorem dX10_busiest_46 : decode cX10_busiest 46 = .ok (.iaload, 1) := by decide +kernel
theorem dX10_busiest_47 : decode cX10_busiest 47 = .ok (.iload 4, 2) := by decide +kernel
theorem dX10_busiest_49 : decode cX10_busiest 49 = .ok (.iadd, 1) := by decide +kernel
theorem dX10_busiest_50 : decode cX10_busiest 50 = .ok (.invokevirtual 333, 3) := by decide +kernel
theorem dX10_busiest_53 : decode cX10_busiest 53 = .ok (.istore 5, 2) := by decide +kernel
theorem dX10_busiest_55 : decode cX10_busiest 55 = .ok (.iload 5, 2) := by decide +kernel
theorem dX10_busiest_57 : decode cX10_busiest 57 = .ok (.iload_n 3, 1) := by decide +kernel
theorem dX10_busiest_58 : decode cX10_busiest 58 = .ok (.if_icmp .le 17, 3) := by decide +kernel
theorem dX10_busiest_61 : decode cX10_busiest 61 = .ok (.aload_n 0, 1) := by decide +kernel
theorem dX10_busiest_62 : decode cX10_busiest 62 = .ok (.getfield 7, 3) := by decide +kernel
theorem dX10_busiest_65 : decode cX10_busiest 65 = .ok (.bipush 37, 2) := by decide +kernel
theorem dX10_busiest_67 : decode cX10_busiest 67 = .ok (.iaload, 1) := by decide +kernel
theorem dX10_busiest_68 : decode cX10_busiest 68 = .ok (.iload 4, 2) := by decide +kernel
theorem dX10_busiest_70 : decode cX10_busiest 70 = .ok (.iadd, 1) := by decide +kernel
theorem dX10_busiest_71 : decode cX10_busiest 71 = .ok (.istore_n 2, 1) := by decide +kernel
theorem dX10_busiest_72 : decode cX10_busiest 72 = .ok (.iload 5, 2) := by decide +kernel
theorem dX10_busiest_74 : decode cX10_busiest 74 = .ok (.istore_n 3, 1) := by decide +kernel
theorem dX10_busiest_75 : decode cX10_busiest 75 = .ok (.iinc 4 1, 3) := by decide +kernel
theorem dX10_busiest_78 : decode cX10_busiest 78 = .ok (.goto (-48), 3) := by decide +kernel
theorem dX10_busiest_81 : decode cX10_busiest 81 = .ok (.iload_n 1, 1) := by decide +kernel
theorem dX10_busiest_82 : decode cX10_busiest 82 = .ok (.ifCond .ne 7, 3) := by decide +kernel
theorem dX10_busiest_85 : decode cX10_busiest 85 = .ok (.iload_n 2, 1) := by decide +kernel
theorem dX10_busiest_86 : decode cX10_busiest 86 = .ok (.goto 4, 3) := by decide +kernel
theorem dX10_busiest_89 : decode cX10_busiest 89 = .ok (.iload_n 3, 1) := by decide +kernel
theorem dX10_busiest_90 : decode cX10_busiest 90 = .ok (.ireturn, 1) := by decide +kernel
theorem dX10_lives_0 : decode cX10_lives 0 = .ok (.aload_n 0, 1) := by decide +kernel
theorem dX10_lives_1 : decode cX10_lives 1 = .ok (.iload_n 1, 1) := by decide +kernel
theorem dX10_lives_2 : decode cX10_lives 2 = .ok (.invokevirtual 212, 3) := by decide +kernel
theorem dX10_lives_5 : decode cX10_lives 5 = .ok (.ifCond .ne 6, 3) := by decide +kernel
theorem dX10_lives_8 : decode cX10_lives 8 = .ok (.ldc 205, 2) := by decide +kernel
theorem dX10_lives_10 : decode cX10_lives 10 = .ok (.ireturn, 1) := by decide +kernel
theorem dX10_lives_11 : decode cX10_lives 11 = .ok (.iload_n 2, 1) := by decide +kernel
theorem dX10_lives_12 : decode cX10_lives 12 = .ok (.i2l, 1) := by decide +kernel
theorem dX10_lives_13 : decode cX10_lives 13 = .ok (.lconst 0, 1) := by decide +kernel
theorem dX10_lives_14 : decode cX10_lives 14 = .ok (.ldc2_w 336, 3) := by decide +kernel
theorem dX10_lives_17 : decode cX10_lives 17 = .ok (.invokestatic 89, 3) := by decide +kernel
theorem dX10_lives_20 : decode cX10_lives 20 = .ok (.ifCond .ne 6, 3) := by decide +kernel
theorem dX10_lives_23 : decode cX10_lives 23 = .ok (.ldc 93, 2) := by decide +kernel
theorem dX10_lives_25 : decode cX10_lives 25 = .ok (.ireturn, 1) := by decide +kernel
theorem dX10_lives_26 : decode cX10_lives 26 = .ok (.aload_n 0, 1) := by decide +kernel
theorem dX10_lives_27 : decode cX10_lives 27 = .ok (.getfield 7, 3) := by decide +kernel
theorem dX10_lives_30 : decode cX10_lives 30 = .ok (.iload_n 1, 1) := by decide +kernel
theorem dX10_lives_31 : decode cX10_lives 31 = .ok (.iaload, 1) := by decide +kernel
theorem dX10_lives_32 : decode cX10_lives 32 = .ok (.ifCond .ne 15, 3) := by decide +kernel
theorem dX10_lives_35 : decode cX10_lives 35 = .ok (.aload_n 0, 1) := by decide +kernel
theorem dX10_lives_36 : decode cX10_lives 36 = .ok (.getfield 7, 3) := by decide +kernel
theorem dX10_lives_39 : decode cX10_lives 39 = .ok (.bipush 21, 2) := by decide +kernel
theorem dX10_lives_41 : decode cX10_lives 41 = .ok (.iload_n 1, 1) := by decide +kernel
theorem dX10_lives_42 : decode cX10_lives 42 = .ok (.iadd, 1) := by decide +kernel
theorem dX10_lives_43 : decode cX10_lives 43 = .ok (.iaload, 1) := by decide +kernel
theorem dX10_lives_44 : decode cX10_lives 44 = .ok (.ifCond .ge 5, 3) := by decide +kernel
theorem dX10_lives_47 : decode cX10_lives 47 = .ok (.iconst (-1), 1) := by decide +kernel
theorem dX10_lives_48 : decode cX10_lives 48 = .ok (.ireturn, 1) := by decide +kernel
theorem dX10_lives_49 : decode cX10_lives 49 = .ok (.ldc2_w 338, 3) := by decide +kernel
theorem dX10_lives_52 : decode cX10_lives 52 = .ok (.lstore_n 3, 1) := by decide +kernel
theorem dX10_lives_53 : decode cX10_lives 53 = .ok (.aload_n 0, 1) := by decide +kernel
theorem dX10_lives_54 : decode cX10_lives 54 = .ok (.getfield 7, 3) := by decide +kernel
theorem dX10_lives_57 : decode cX10_lives 57 = .ok (.bipush 37, 2) := by decide +kernel
theorem dX10_lives_59 : decode cX10_lives 59 = .ok (.iaload, 1) := by decide +kernel
theorem dX10_lives_60 : decode cX10_lives 60 = .ok (.istore 5, 2) := by decide +kernel
theorem dX10_lives_62 : decode cX10_lives 62 = .ok (.iload 5, 2) := by decide +kernel
theorem dX10_lives_64 : decode cX10_lives 64 = .ok (.aload_n 0, 1) := by decide +kernel
theorem dX10_lives_65 : decode cX10_lives 65 = .ok (.iconst 0, 1) := by decide +kernel
theorem dX10_lives_66 : decode cX10_lives 66 = .ok (.iload_n 1, 1) := by decide +kernel
theorem dX10_lives_67 : decode cX10_lives 67 = .ok (.invokevirtual 215, 3) := by decide +kernel
theorem dX10_lives_70 : decode cX10_lives 70 = .ok (.if_icmp .ge 22, 3) := by decide +kernel
theorem dX10_lives_73 : decode cX10_lives 73 = .ok (.lload_n 3, 1) := by decide +kernel
theorem dX10_lives_74 : decode cX10_lives 74 = .ok (.sipush 1000, 3) := by decide +kernel
theorem dX10_lives_77 : decode cX10_lives 77 = .ok (.iload_n 2, 1) := by decide +kernel
theorem dX10_lives_78 : decode cX10_lives 78 = .ok (.isub, 1) := by decide +kernel
theorem dX10_lives_79 : decode cX10_lives 79 = .ok (.i2l, 1) := by decide +kernel
theorem dX10_lives_80 : decode cX10_lives 80 = .ok (.lmul, 1) := by decide +kernel
theorem dX10_lives_81 : decode cX10_lives 81 = .ok (.ldc2_w 336, 3) := by decide +kernel
theorem dX10_lives_84 : decode cX10_lives 84 = .ok (.ldiv, 1) := by decide +kernel
theorem dX10_lives_85 : decode cX10_lives 85 = .ok (.lstore_n 3, 1) := by decide +kernel
theorem dX10_lives_86 : decode cX10_lives 86 = .ok (.iinc 5 1, 3) := by decide +kernel
theorem dX10_lives_89 : decode cX10_lives 89 = .ok (.goto (-27), 3) := by decide +kernel
theorem dX10_lives_92 : decode cX10_lives 92 = .ok (.lload_n 3, 1) := by decide +kernel
theorem dX10_lives_93 : decode cX10_lives 93 = .ok (.l2i, 1) := by decide +kernel
theorem dX10_lives_94 : decode cX10_lives 94 = .ok (.ireturn, 1) := by decide +kernel
theorem dX10_sizesOf_0 : decode cX10_sizesOf 0 = .ok (.iconst 0, 1) := by decide +kernel
theorem dX10_sizesOf_1 : decode cX10_sizesOf 1 = .ok (.istore_n 2, 1) := by decide +kernel
theorem dX10_sizesOf_2 : decode cX10_sizesOf 2 = .ok (.iconst 0, 1) := by decide +kernel
theorem dX10_sizesOf_3 : decode cX10_sizesOf 3 = .ok (.istore_n 3, 1) := by decide +kernel
theorem dX10_sizesOf_4 : decode cX10_sizesOf 4 = .ok (.iload_n 3, 1) := by decide +kernel
theorem dX10_sizesOf_5 : decode cX10_sizesOf 5 = .ok (.aload_n 0, 1) := by decide +kernel
theorem dX10_sizesOf_6 : decode cX10_sizesOf 6 = .ok (.getfield 175, 3) := by decide +kernel
theorem dX10_sizesOf_9 : decode cX10_sizesOf 9 = .ok (.if_icmp .ge 35, 3) := by decide +kernel
theorem dX10_sizesOf_12 : decode cX10_sizesOf 12 = .ok (.iload_n 2, 1) := by decide +kernel
theorem dX10_sizesOf_13 : decode cX10_sizesOf 13 = .ok (.aload_n 0, 1) := by decide +kernel
theorem dX10_sizesOf_14 : decode cX10_sizesOf 14 = .ok (.getfield 7, 3) := by decide +kernel
theorem dX10_sizesOf_17 : decode cX10_sizesOf 17 = .ok (.bipush 14, 2) := by decide +kernel
theorem dX10_sizesOf_19 : decode cX10_sizesOf 19 = .ok (.iload_n 3, 1) := by decide +kernel
theorem dX10_sizesOf_20 : decode cX10_sizesOf 20 = .ok (.iadd, 1) := by decide +kernel
theorem dX10_sizesOf_21 : decode cX10_sizesOf 21 = .ok (.iaload, 1) := by decide +kernel
theorem dX10_sizesOf_22 : decode cX10_sizesOf 22 = .ok (.iload_n 1, 1) := by decide +kernel
theorem dX10_sizesOf_23 : decode cX10_sizesOf 23 = .ok (.if_icmp .ne 12, 3) := by decide +kernel
theorem dX10_sizesOf_26 : decode cX10_sizesOf 26 = .ok (.aload_n 0, 1) := by decide +kernel
theorem dX10_sizesOf_27 : decode cX10_sizesOf 27 = .ok (.getfield 41, 3) := by decide +kernel
theorem dX10_sizesOf_30 : decode cX10_sizesOf 30 = .ok (.iload_n 3, 1) := by decide +kernel
theorem dX10_sizesOf_31 : decode cX10_sizesOf 31 = .ok (.iaload, 1) := by decide +kernel
theorem dX10_sizesOf_32 : decode cX10_sizesOf 32 = .ok (.goto 4, 3) := by decide +kernel
theorem dX10_sizesOf_35 : decode cX10_sizesOf 35 = .ok (.iconst 0, 1) := by decide +kernel
theorem dX10_sizesOf_36 : decode cX10_sizesOf 36 = .ok (.iadd, 1) := by decide +kernel
theorem dX10_sizesOf_37 : decode cX10_sizesOf 37 = .ok (.istore_n 2, 1) := by decide +kernel
theorem dX10_sizesOf_38 : decode cX10_sizesOf 38 = .ok (.iinc 3 1, 3) := by decide +kernel
theorem dX10_sizesOf_41 : decode cX10_sizesOf 41 = .ok (.goto (-37), 3) := by decide +kernel
theorem dX10_sizesOf_44 : decode cX10_sizesOf 44 = .ok (.iload_n 2, 1) := by decide +kernel
theorem dX10_sizesOf_45 : decode cX10_sizesOf 45 = .ok (.ireturn, 1) := by decide +kernel
theorem dX10_findShares_0 : decode cX10_findShares 0 = .ok (.iconst 0, 1) := by decide +kernel
theorem dX10_findShares_1 : decode cX10_findShares 1 = .ok (.istore_n 2, 1) := by decide +kernel
theorem dX10_findShares_2 : decode cX10_findShares 2 = .ok (.iconst (-1), 1) := by decide +kernel
theorem dX10_findShares_3 : decode cX10_findShares 3 = .ok (.istore_n 3, 1) := by decide +kernel
theorem dX10_findShares_4 : decode cX10_findShares 4 = .ok (.aload_n 0, 1) := by decide +kernel
theorem dX10_findShares_5 : decode cX10_findShares 5 = .ok (.getfield 172, 3) := by decide +kernel
theorem dX10_findShares_8 : decode cX10_findShares 8 = .ok (.iconst 1, 1) := by decide +kernel
theorem dX10_findShares_9 : decode cX10_findShares 9 = .ok (.isub, 1) := by decide +kernel
theorem dX10_findShares_10 : decode cX10_findShares 10 = .ok (.istore 4, 2) := by decide +kernel
theorem dX10_findShares_12 : decode cX10_findShares 12 = .ok (.iload 4, 2) := by decide +kernel
theorem dX10_findShares_14 : decode cX10_findShares 14 = .ok (.ifCond .lt 51, 3) := by decide +kernel
theorem dX10_findShares_17 : decode cX10_findShares 17 = .ok (.iload_n 2, 1) := by decide +kernel
theorem dX10_findShares_18 : decode cX10_findShares 18 = .ok (.aload_n 0, 1) := by decide +kernel
theorem dX10_findShares_19 : decode cX10_findShares 19 = .ok (.getfield 26, 3) := by decide +kernel
theorem dX10_findShares_22 : decode cX10_findShares 22 = .ok (.iload 4, 2) := by decide +kernel
theorem dX10_findShares_24 : decode cX10_findShares 24 = .ok (.iaload, 1) := by decide +kernel
theorem dX10_findShares_25 : decode cX10_findShares 25 = .ok (.iload_n 1, 1) := by decide +kernel
theorem dX10_findShares_26 : decode cX10_findShares 26 = .ok (.if_icmp .ne 12, 3) := by decide +kernel
theorem dX10_findShares_29 : decode cX10_findShares 29 = .ok (.aload_n 0, 1) := by decide +kernel
theorem dX10_findShares_30 : decode cX10_findShares 30 = .ok (.iload 4, 2) := by decide +kernel
theorem dX10_findShares_32 : decode cX10_findShares 32 = .ok (.invokevirtual 340, 3) := by decide +kernel
theorem dX10_findShares_35 : decode cX10_findShares 35 = .ok (.goto 4, 3) := by decide +kernel
theorem dX10_findShares_38 : decode cX10_findShares 38 = .ok (.iconst 0, 1) := by decide +kernel
theorem dX10_findShares_39 : decode cX10_findShares 39 = .ok (.iadd, 1) := by decide +kernel
theorem dX10_findShares_40 : decode cX10_findShares 40 = .ok (.istore_n 2, 1) := by decide +kernel
theorem dX10_findShares_41 : decode cX10_findShares 41 = .ok (.aload_n 0, 1) := by decide +kernel
theorem dX10_findShares_42 : decode cX10_findShares 42 = .ok (.getfield 26, 3) := by decide +kernel
theorem dX10_findShares_45 : decode cX10_findShares 45 = .ok (.iload 4, 2) := by decide +kernel
theorem dX10_findShares_47 : decode cX10_findShares 47 = .ok (.iaload, 1) := by decide +kernel
theorem dX10_findShares_48 : decode cX10_findShares 48 = .ok (.iload_n 1, 1) := by decide +kernel
theorem dX10_findShares_49 : decode cX10_findShares 49 = .ok (.if_icmp .ne 8, 3) := by decide +kernel
theorem dX10_findShares_52 : decode cX10_findShares 52 = .ok (.iload 4, 2) := by decide +kernel
theorem dX10_findShares_54 : decode cX10_findShares 54 = .ok (.goto 4, 3) := by decide +kernel
theorem dX10_findShares_57 : decode cX10_findShares 57 = .ok (.iload_n 3, 1) := by decide +kernel
theorem dX10_findShares_58 : decode cX10_findShares 58 = .ok (.istore_n 3, 1) := by decide +kernel
theorem dX10_findShares_59 : decode cX10_findShares 59 = .ok (.iinc 4 (-1), 3) := by decide +kernel
theorem dX10_findShares_62 : decode cX10_findShares 62 = .ok (.goto (-50), 3) := by decide +kernel
theorem dX10_findShares_65 : decode cX10_findShares 65 = .ok (.aload_n 0, 1) := by decide +kernel
theorem dX10_findShares_66 : decode cX10_findShares 66 = .ok (.getfield 7, 3) := by decide +kernel
theorem dX10_findShares_69 : decode cX10_findShares 69 = .ok (.bipush 34, 2) := by decide +kernel
theorem dX10_findShares_71 : decode cX10_findShares 71 = .ok (.iload_n 1, 1) := by decide +kernel
theorem dX10_findShares_72 : decode cX10_findShares 72 = .ok (.iadd, 1) := by decide +kernel
theorem dX10_findShares_73 : decode cX10_findShares 73 = .ok (.iaload, 1) := by decide +kernel
theorem dX10_findShares_74 : decode cX10_findShares 74 = .ok (.istore 4, 2) := by decide +kernel
theorem dX10_findShares_76 : decode cX10_findShares 76 = .ok (.iconst 0, 1) := by decide +kernel
theorem dX10_findShares_77 : decode cX10_findShares 77 = .ok (.istore 5, 2) := by decide +kernel
theorem dX10_findShares_79 : decode cX10_findShares 79 = .ok (.iload 5, 2) := by decide +kernel
theorem dX10_findShares_81 : decode cX10_findShares 81 = .ok (.iconst 3, 1) := by decide +kernel
theorem dX10_findShares_82 : decode cX10_findShares 82 = .ok (.if_icmp .ge 120, 3) := by decide +kernel
theorem dX10_findShares_85 : decode cX10_findShares 85 = .ok (.iload 5, 2) := by decide +kernel
theorem dX10_findShares_87 : decode cX10_findShares 87 = .ok (.aload_n 0, 1) := by decide +kernel
theorem dX10_findShares_88 : decode cX10_findShares 88 = .ok (.getfield 172, 3) := by decide +kernel
theorem dX10_findShares_91 : decode cX10_findShares 91 = .ok (.if_icmp .ge 22, 3) := by decide +kernel
theorem dX10_findShares_94 : decode cX10_findShares 94 = .ok (.aload_n 0, 1) := by decide +kernel
theorem dX10_findShares_95 : decode cX10_findShares 95 = .ok (.getfield 26, 3) := by decide +kernel
theorem dX10_findShares_98 : decode cX10_findShares 98 = .ok (.iload 5, 2) := by decide +kernel
theorem dX10_findShares_100 : decode cX10_findShares 100 = .ok (.iaload, 1) := by decide +kernel
theorem dX10_findShares_101 : decode cX10_findShares 101 = .ok (.iload_n 1, 1) := by decide +kernel
theorem dX10_findShares_102 : decode cX10_findShares 102 = .ok (.if_icmp .ne 11, 3) := by decide +kernel
theorem dX10_findShares_105 : decode cX10_findShares 105 = .ok (.iload_n 2, 1) := by decide +kernel
theorem dX10_findShares_106 : decode cX10_findShares 106 = .ok (.ifCond .le 7, 3) := by decide +kernel
theorem dX10_findShares_109 : decode cX10_findShares 109 = .ok (.iconst 1, 1) := by decide +kernel
theorem dX10_findShares_110 : decode cX10_findShares 110 = .ok (.goto 4, 3) := by decide +kernel
theorem dX10_findShares_113 : decode cX10_findShares 113 = .ok (.iconst 0, 1) := by decide +kernel
theorem dX10_findShares_114 : decode cX10_findShares 114 = .ok (.istore 6, 2) := by decide +kernel
theorem dX10_findShares_116 : decode cX10_findShares 116 = .ok (.aload_n 0, 1) := by decide +kernel
theorem dX10_findShares_117 : decode cX10_findShares 117 = .ok (.getfield 75, 3) := by decide +kernel
theorem dX10_findShares_120 : decode cX10_findShares 120 = .ok (.iload 5, 2) := by decide +kernel
theorem dX10_findShares_122 : decode cX10_findShares 122 = .ok (.iload 6, 2) := by decide +kernel
theorem dX10_findShares_124 : decode cX10_findShares 124 = .ok (.ifCond .eq 24, 3) := by decide +kernel
theorem dX10_findShares_127 : decode cX10_findShares 127 = .ok (.aload_n 0, 1) := by decide +kernel
theorem dX10_findShares_128 : decode cX10_findShares 128 = .ok (.getfield 7, 3) := by decide +kernel
theorem dX10_findShares_131 : decode cX10_findShares 131 = .ok (.bipush 34, 2) := by decide +kernel
theorem dX10_findShares_133 : decode cX10_findShares 133 = .ok (.iload_n 1, 1) := by decide +kernel
theorem dX10_findShares_134 : decode cX10_findShares 134 = .ok (.iadd, 1) := by decide +kernel
theorem dX10_findShares_135 : decode cX10_findShares 135 = .ok (.iaload, 1) := by decide +kernel
theorem dX10_findShares_136 : decode cX10_findShares 136 = .ok (.aload_n 0, 1) := by decide +kernel
theorem dX10_findShares_137 : decode cX10_findShares 137 = .ok (.iload 5, 2) := by decide +kernel
theorem dX10_findShares_139 : decode cX10_findShares 139 = .ok (.invokevirtual 340, 3) := by decide +kernel
theorem dX10_findShares_142 : decode cX10_findShares 142 = .ok (.imul, 1) := by decide +kernel
theorem dX10_findShares_143 : decode cX10_findShares 143 = .ok (.iload_n 2, 1) := by decide +kernel
theorem dX10_findShares_144 : decode cX10_findShares 144 = .ok (.idiv, 1) := by decide +kernel
theorem dX10_findShares_145 : decode cX10_findShares 145 = .ok (.goto 4, 3) := by decide +kernel
theorem dX10_findShares_148 : decode cX10_findShares 148 = .ok (.iconst 0, 1) := by decide +kernel
theorem dX10_findShares_149 : decode cX10_findShares 149 = .ok (.iastore, 1) := by decide +kernel
theorem dX10_findShares_150 : decode cX10_findShares 150 = .ok (.aload_n 0, 1) := by decide +kernel
theorem dX10_findShares_151 : decode cX10_findShares 151 = .ok (.getfield 78, 3) := by decide +kernel
theorem dX10_findShares_154 : decode cX10_findShares 154 = .ok (.iload 5, 2) := by decide +kernel
theorem dX10_findShares_156 : decode cX10_findShares 156 = .ok (.iload 6, 2) := by decide +kernel
theorem dX10_findShares_158 : decode cX10_findShares 158 = .ok (.ifCond .eq 24, 3) := by decide +kernel
theorem dX10_findShares_161 : decode cX10_findShares 161 = .ok (.aload_n 0, 1) := by decide +kernel
theorem dX10_findShares_162 : decode cX10_findShares 162 = .ok (.getfield 7, 3) := by decide +kernel
theorem dX10_findShares_165 : decode cX10_findShares 165 = .ok (.bipush 34, 2) := by decide +kernel
theorem dX10_findShares_167 : decode cX10_findShares 167 = .ok (.iload_n 1, 1) := by decide +kernel
theorem dX10_findShares_168 : decode cX10_findShares 168 = .ok (.iadd, 1) := by decide +kernel
theorem dX10_findShares_169 : decode cX10_findShares 169 = .ok (.iaload, 1) := by decide +kernel
theorem dX10_findShares_170 : decode cX10_findShares 170 = .ok (.aload_n 0, 1) := by decide +kernel
theorem dX10_findShares_171 : decode cX10_findShares 171 = .ok (.iload 5, 2) := by decide +kernel
theorem dX10_findShares_173 : decode cX10_findShares 173 = .ok (.invokevirtual 340, 3) := by decide +kernel
theorem dX10_findShares_176 : decode cX10_findShares 176 = .ok (.imul, 1) := by decide +kernel
theorem dX10_findShares_177 : decode cX10_findShares 177 = .ok (.iload_n 2, 1) := by decide +kernel
theorem dX10_findShares_178 : decode cX10_findShares 178 = .ok (.irem, 1) := by decide +kernel
theorem dX10_findShares_179 : decode cX10_findShares 179 = .ok (.goto 4, 3) := by decide +kernel
theorem dX10_findShares_182 : decode cX10_findShares 182 = .ok (.iconst (-1), 1) := by decide +kernel
theorem dX10_findShares_183 : decode cX10_findShares 183 = .ok (.iastore, 1) := by decide +kernel
theorem dX10_findShares_184 : decode cX10_findShares 184 = .ok (.iload 4, 2) := by decide +kernel
theorem dX10_findShares_186 : decode cX10_findShares 186 = .ok (.aload_n 0, 1) := by decide +kernel
theorem dX10_findShares_187 : decode cX10_findShares 187 = .ok (.getfield 75, 3) := by decide +kernel
theorem dX10_findShares_190 : decode cX10_findShares 190 = .ok (.iload 5, 2) := by decide +kernel
theorem dX10_findShares_192 : decode cX10_findShares 192 = .ok (.iaload, 1) := by decide +kernel
theorem dX10_findShares_193 : decode cX10_findShares 193 = .ok (.isub, 1) := by decide +kernel
theorem dX10_findShares_194 : decode cX10_findShares 194 = .ok (.istore 4, 2) := by decide +kernel
theorem dX10_findShares_196 : decode cX10_findShares 196 = .ok (.iinc 5 1, 3) := by decide +kernel
theorem dX10_findShares_199 : decode cX10_findShares 199 = .ok (.goto (-120), 3) := by decide +kernel
theorem dX10_findShares_202 : decode cX10_findShares 202 = .ok (.iload_n 2, 1) := by decide +kernel
theorem dX10_findShares_203 : decode cX10_findShares 203 = .ok (.ifCond .ne 18, 3) := by decide +kernel
theorem dX10_findShares_206 : decode cX10_findShares 206 = .ok (.iload_n 3, 1) := by decide +kernel
theorem dX10_findShares_207 : decode cX10_findShares 207 = .ok (.ifCond .lt 14, 3) := by decide +kernel
theorem dX10_findShares_210 : decode cX10_findShares 210 = .ok (.aload_n 0, 1) := by decide +kernel
theorem dX10_findShares_211 : decode cX10_findShares 211 = .ok (.getfield 75, 3) := by decide +kernel
theorem dX10_findShares_214 : decode cX10_findShares 214 = .ok (.iload_n 3, 1) := by decide +kernel
theorem dX10_findShares_215 : decode cX10_findShares 215 = .ok (.iload 4, 2) := by decide +kernel
theorem dX10_findShares_217 : decode cX10_findShares 217 = .ok (.iastore, 1) := by decide +kernel
theorem dX10_findShares_218 : decode cX10_findShares 218 = .ok (.iconst 0, 1) := by decide +kernel
theorem dX10_findShares_219 : decode cX10_findShares 219 = .ok (.istore 4, 2) := by decide +kernel
theorem dX10_findShares_221 : decode cX10_findShares 221 = .ok (.iload 4, 2) := by decide +kernel
theorem dX10_findShares_223 : decode cX10_findShares 223 = .ok (.ifCond .le 79, 3) := by decide +kernel
theorem dX10_findShares_226 : decode cX10_findShares 226 = .ok (.iload_n 3, 1) := by decide +kernel
theorem dX10_findShares_227 : decode cX10_findShares 227 = .ok (.ifCond .lt 75, 3) := by decide +kernel
theorem dX10_findShares_230 : decode cX10_findShares 230 = .ok (.iload_n 3, 1) := by decide +kernel
theorem dX10_findShares_231 : decode cX10_findShares 231 = .ok (.istore 5, 2) := by decide +kernel
theorem dX10_findShares_233 : decode cX10_findShares 233 = .ok (.iconst 0, 1) := by decide +kernel
theorem dX10_findShares_234 : decode cX10_findShares 234 = .ok (.istore 6, 2) := by decide +kernel
theorem dX10_findShares_236 : decode cX10_findShares 236 = .ok (.iload 6, 2) := by decide +kernel
theorem dX10_findShares_238 : decode cX10_findShares 238 = .ok (.aload_n 0, 1) := by decide +kernel
theorem dX10_findShares_239 : decode cX10_findShares 239 = .ok (.getfield 172, 3) := by decide +kernel
theorem dX10_findShares_242 : decode cX10_findShares 242 = .ok (.if_icmp .ge 35, 3) := by decide +kernel
theorem dX10_findShares_245 : decode cX10_findShares 245 = .ok (.aload_n 0, 1) := by decide +kernel
theorem dX10_findShares_246 : decode cX10_findShares 246 = .ok (.getfield 78, 3) := by decide +kernel
theorem dX10_findShares_249 : decode cX10_findShares 249 = .ok (.iload 6, 2) := by decide +kernel
theorem dX10_findShares_251 : decode cX10_findShares 251 = .ok (.iaload, 1) := by decide +kernel
theorem dX10_findShares_252 : decode cX10_findShares 252 = .ok (.aload_n 0, 1) := by decide +kernel
theorem dX10_findShares_253 : decode cX10_findShares 253 = .ok (.getfield 78, 3) := by decide +kernel
theorem dX10_findShares_256 : decode cX10_findShares 256 = .ok (.iload 5, 2) := by decide +kernel
theorem dX10_findShares_258 : decode cX10_findShares 258 = .ok (.iaload, 1) := by decide +kernel
theorem dX10_findShares_259 : decode cX10_findShares 259 = .ok (.if_icmp .le 8, 3) := by decide +kernel
theorem dX10_findShares_262 : decode cX10_findShares 262 = .ok (.iload 6, 2) := by decide +kernel
theorem dX10_findShares_264 : decode cX10_findShares 264 = .ok (.goto 5, 3) := by decide +kernel
theorem dX10_findShares_267 : decode cX10_findShares 267 = .ok (.iload 5, 2) := by decide +kernel
theorem dX10_findShares_269 : decode cX10_findShares 269 = .ok (.istore 5, 2) := by decide +kernel
theorem dX10_findShares_271 : decode cX10_findShares 271 = .ok (.iinc 6 1, 3) := by decide +kernel
theorem dX10_findShares_274 : decode cX10_findShares 274 = .ok (.goto (-38), 3) := by decide +kernel
theorem dX10_findShares_277 : decode cX10_findShares 277 = .ok (.aload_n 0, 1) := by decide +kernel
theorem dX10_findShares_278 : decode cX10_findShares 278 = .ok (.getfield 75, 3) := by decide +kernel
theorem dX10_findShares_281 : decode cX10_findShares 281 = .ok (.iload 5, 2) := by decide +kernel
theorem dX10_findShares_283 : decode cX10_findShares 283 = .ok (.dup2, 1) := by decide +kernel
theorem dX10_findShares_284 : decode cX10_findShares 284 = .ok (.iaload, 1) := by decide +kernel
theorem dX10_findShares_285 : decode cX10_findShares 285 = .ok (.iconst 1, 1) := by decide +kernel
theorem dX10_findShares_286 : decode cX10_findShares 286 = .ok (.iadd, 1) := by decide +kernel
theorem dX10_findShares_287 : decode cX10_findShares 287 = .ok (.iastore, 1) := by decide +kernel
theorem dX10_findShares_288 : decode cX10_findShares 288 = .ok (.aload_n 0, 1) := by decide +kernel
theorem dX10_findShares_289 : decode cX10_findShares 289 = .ok (.getfield 78, 3) := by decide +kernel
theorem dX10_findShares_292 : decode cX10_findShares 292 = .ok (.iload 5, 2) := by decide +kernel
theorem dX10_findShares_294 : decode cX10_findShares 294 = .ok (.iconst (-1), 1) := by decide +kernel
theorem dX10_findShares_295 : decode cX10_findShares 295 = .ok (.iastore, 1) := by decide +kernel
theorem dX10_findShares_296 : decode cX10_findShares 296 = .ok (.iinc 4 (-1), 3) := by decide +kernel
theorem dX10_findShares_299 : decode cX10_findShares 299 = .ok (.goto (-78), 3) := by decide +kernel
theorem dX10_findShares_302 : decode cX10_findShares 302 = .ok (.return_, 1) := by decide +kernel
theorem dX10_share_0 : decode cX10_share 0 = .ok (.aload_n 0, 1) := by decide +kernel
theorem dX10_share_1 : decode cX10_share 1 = .ok (.iload_n 1, 1) := by decide +kernel
theorem dX10_share_2 : decode cX10_share 2 = .ok (.invokevirtual 206, 3) := by decide +kernel
theorem dX10_share_5 : decode cX10_share 5 = .ok (.ifCond .ne 6, 3) := by decide +kernel
theorem dX10_share_8 : decode cX10_share 8 = .ok (.ldc 205, 2) := by decide +kernel
theorem dX10_share_10 : decode cX10_share 10 = .ok (.ireturn, 1) := by decide +kernel
theorem dX10_share_11 : decode cX10_share 11 = .ok (.aload_n 0, 1) := by decide +kernel
theorem dX10_share_12 : decode cX10_share 12 = .ok (.aload_n 0, 1) := by decide +kernel
theorem dX10_share_13 : decode cX10_share 13 = .ok (.getfield 26, 3) := by decide +kernel
theorem dX10_share_16 : decode cX10_share 16 = .ok (.iload_n 1, 1) := by decide +kernel
theorem dX10_share_17 : decode cX10_share 17 = .ok (.iaload, 1) := by decide +kernel
theorem dX10_share_18 : decode cX10_share 18 = .ok (.invokevirtual 343, 3) := by decide +kernel
theorem dX10_share_21 : decode cX10_share 21 = .ok (.aload_n 0, 1) := by decide +kernel
theorem dX10_share_22 : decode cX10_share 22 = .ok (.getfield 75, 3) := by decide +kernel
theorem dX10_share_25 : decode cX10_share 25 = .ok (.iload_n 1, 1) := by decide +kernel
theorem dX10_share_26 : decode cX10_share 26 = .ok (.iaload, 1) := by decide +kernel
theorem dX10_share_27 : decode cX10_share 27 = .ok (.ireturn, 1) := by decide +kernel
theorem dX10_let_0 : decode cX10_let 0 = .ok (.aload_n 0, 1) := by decide +kernel
theorem dX10_let_1 : decode cX10_let 1 = .ok (.iload_n 1, 1) := by decide +kernel
theorem dX10_let_2 : decode cX10_let 2 = .ok (.invokevirtual 206, 3) := by decide +kernel
theorem dX10_let_5 : decode cX10_let 5 = .ok (.ifCond .ne 6, 3) := by decide +kernel
theorem dX10_let_8 : decode cX10_let 8 = .ok (.ldc 205, 2) := by decide +kernel
theorem dX10_let_10 : decode cX10_let 10 = .ok (.ireturn, 1) := by decide +kernel
theorem dX10_let_11 : decode cX10_let 11 = .ok (.iload_n 2, 1) := by decide +kernel
theorem dX10_let_12 : decode cX10_let 12 = .ok (.i2l, 1) := by decide +kernel
theorem dX10_let_13 : decode cX10_let 13 = .ok (.lconst 0, 1) := by decide +kernel
theorem dX10_let_14 : decode cX10_let 14 = .ok (.ldc2_w 247, 3) := by decide +kernel
theorem dX10_let_17 : decode cX10_let 17 = .ok (.invokestatic 89, 3) := by decide +kernel
theorem dX10_let_20 : decode cX10_let 20 = .ok (.ifCond .eq 15, 3) := by decide +kernel
theorem dX10_let_23 : decode cX10_let 23 = .ok (.iload_n 3, 1) := by decide +kernel
theorem dX10_let_24 : decode cX10_let 24 = .ok (.i2l, 1) := by decide +kernel
theorem dX10_let_25 : decode cX10_let 25 = .ok (.lconst 0, 1) := by decide +kernel
theorem dX10_let_26 : decode cX10_let 26 = .ok (.ldc2_w 218, 3) := by decide +kernel
theorem dX10_let_29 : decode cX10_let 29 = .ok (.invokestatic 89, 3) := by decide +kernel
theorem dX10_let_32 : decode cX10_let 32 = .ok (.ifCond .ne 6, 3) := by decide +kernel
theorem dX10_let_35 : decode cX10_let 35 = .ok (.ldc 93, 2) := by decide +kernel
theorem dX10_let_37 : decode cX10_let 37 = .ok (.ireturn, 1) := by decide +kernel
theorem dX10_let_38 : decode cX10_let 38 = .ok (.aload_n 0, 1) := by decide +kernel
theorem dX10_let_39 : decode cX10_let 39 = .ok (.iload_n 1, 1) := by decide +kernel
theorem dX10_let_40 : decode cX10_let 40 = .ok (.invokevirtual 209, 3) := by decide +kernel
theorem dX10_let_43 : decode cX10_let 43 = .ok (.istore 4, 2) := by decide +kernel
theorem dX10_let_45 : decode cX10_let 45 = .ok (.iconst 0, 1) := by decide +kernel
theorem dX10_let_46 : decode cX10_let 46 = .ok (.istore 5, 2) := by decide +kernel
theorem dX10_let_48 : decode cX10_let 48 = .ok (.iconst (-1), 1) := by decide +kernel
theorem dX10_let_49 : decode cX10_let 49 = .ok (.istore 6, 2) := by decide +kernel
theorem dX10_let_51 : decode cX10_let 51 = .ok (.bipush 127, 2) := by decide +kernel
theorem dX10_let_53 : decode cX10_let 53 = .ok (.istore 7, 2) := by decide +kernel
theorem dX10_let_55 : decode cX10_let 55 = .ok (.iconst 0, 1) := by decide +kernel
theorem dX10_let_56 : decode cX10_let 56 = .ok (.istore 8, 2) := by decide +kernel
theorem dX10_let_58 : decode cX10_let 58 = .ok (.iload 8, 2) := by decide +kernel
theorem dX10_let_60 : decode cX10_let 60 = .ok (.sipush 128, 3) := by decide +kernel
theorem dX10_let_63 : decode cX10_let 63 = .ok (.if_icmp .ge 96, 3) := by decide +kernel
theorem dX10_let_66 : decode cX10_let 66 = .ok (.iconst 0, 1) := by decide +kernel
theorem dX10_let_67 : decode cX10_let 67 = .ok (.istore 9, 2) := by decide +kernel
theorem dX10_let_69 : decode cX10_let 69 = .ok (.iconst 0, 1) := by decide +kernel
theorem dX10_let_70 : decode cX10_let 70 = .ok (.istore 10, 2) := by decide +kernel
theorem dX10_let_72 : decode cX10_let 72 = .ok (.iload 10, 2) := by decide +kernel
theorem dX10_let_74 : decode cX10_let 74 = .ok (.aload_n 0, 1) := by decide +kernel
theorem dX10_let_75 : decode cX10_let 75 = .ok (.getfield 175, 3) := by decide +kernel
theorem dX10_let_78 : decode cX10_let 78 = .ok (.if_icmp .ge 35, 3) := by decide +kernel
theorem dX10_let_81 : decode cX10_let 81 = .ok (.iload 9, 2) := by decide +kernel
theorem dX10_let_83 : decode cX10_let 83 = .ok (.iload 8, 2) := by decide +kernel
theorem dX10_let_85 : decode cX10_let 85 = .ok (.iload 10, 2) := by decide +kernel
theorem dX10_let_87 : decode cX10_let 87 = .ok (.invokestatic 232, 3) := by decide +kernel
theorem dX10_let_90 : decode cX10_let 90 = .ok (.ifCond .eq 13, 3) := by decide +kernel
theorem dX10_let_93 : decode cX10_let 93 = .ok (.aload_n 0, 1) := by decide +kernel
theorem dX10_let_94 : decode cX10_let 94 = .ok (.getfield 41, 3) := by decide +kernel
theorem dX10_let_97 : decode cX10_let 97 = .ok (.iload 10, 2) := by decide +kernel
theorem dX10_let_99 : decode cX10_let 99 = .ok (.iaload, 1) := by decide +kernel
theorem dX10_let_100 : decode cX10_let 100 = .ok (.goto 4, 3) := by decide +kernel
theorem dX10_let_103 : decode cX10_let 103 = .ok (.iconst 0, 1) := by decide +kernel
theorem dX10_let_104 : decode cX10_let 104 = .ok (.iadd, 1) := by decide +kernel
theorem dX10_let_105 : decode cX10_let 105 = .ok (.istore 9, 2) := by decide +kernel
theorem dX10_let_107 : decode cX10_let 107 = .ok (.iinc 10 1, 3) := by decide +kernel
theorem dX10_let_110 : decode cX10_let 110 = .ok (.goto (-38), 3) := by decide +kernel
theorem dX10_let_113 : decode cX10_let 113 = .ok (.iload 8, 2) := by decide +kernel
theorem dX10_let_115 : decode cX10_let 115 = .ok (.iload 4, 2) := by decide +kernel
theorem dX10_let_117 : decode cX10_let 117 = .ok (.iconst (-1), 1) := by decide +kernel
theorem dX10_let_118 : decode cX10_let 118 = .ok (.ixor, 1) := by decide +kernel
theorem dX10_let_119 : decode cX10_let 119 = .ok (.iand, 1) := by decide +kernel
theorem dX10_let_120 : decode cX10_let 120 = .ok (.ifCond .ne 33, 3) := by decide +kernel
theorem dX10_let_123 : decode cX10_let 123 = .ok (.iload 9, 2) := by decide +kernel
theorem dX10_let_125 : decode cX10_let 125 = .ok (.iload_n 2, 1) := by decide +kernel
theorem dX10_let_126 : decode cX10_let 126 = .ok (.if_icmp .ne 27, 3) := by decide +kernel
theorem dX10_let_129 : decode cX10_let 129 = .ok (.iload 5, 2) := by decide +kernel
theorem dX10_let_131 : decode cX10_let 131 = .ok (.ifCond .ne 8, 3) := by decide +kernel
theorem dX10_let_134 : decode cX10_let 134 = .ok (.iload 8, 2) := by decide +kernel
theorem dX10_let_136 : decode cX10_let 136 = .ok (.goto 5, 3) := by decide +kernel
theorem dX10_let_139 : decode cX10_let 139 = .ok (.iload 6, 2) := by decide +kernel
theorem dX10_let_141 : decode cX10_let 141 = .ok (.istore 6, 2) := by decide +kernel
theorem dX10_let_143 : decode cX10_let 143 = .ok (.iinc 5 1, 3) := by decide +kernel
theorem dX10_let_146 : decode cX10_let 146 = .ok (.iload 7, 2) := by decide +kernel
theorem dX10_let_148 : decode cX10_let 148 = .ok (.iload 8, 2) := by decide +kernel
theorem dX10_let_150 : decode cX10_let 150 = .ok (.iand, 1) := by decide +kernel
theorem dX10_let_151 : decode cX10_let 151 = .ok (.istore 7, 2) := by decide +kernel
theorem dX10_let_153 : decode cX10_let 153 = .ok (.iinc 8 1, 3) := by decide +kernel
theorem dX10_let_156 : decode cX10_let 156 = .ok (.goto (-98), 3) := by decide +kernel
theorem dX10_let_159 : decode cX10_let 159 = .ok (.iload_n 3, 1) := by decide +kernel
theorem dX10_let_160 : decode cX10_let 160 = .ok (.ifCond .ne 8, 3) := by decide +kernel
theorem dX10_let_163 : decode cX10_let 163 = .ok (.iload 5, 2) := by decide +kernel
theorem dX10_let_165 : decode cX10_let 165 = .ok (.goto 24, 3) := by decide +kernel
theorem dX10_let_168 : decode cX10_let 168 = .ok (.iload_n 3, 1) := by decide +kernel
theorem dX10_let_169 : decode cX10_let 169 = .ok (.iconst 1, 1) := by decide +kernel
theorem dX10_let_170 : decode cX10_let 170 = .ok (.if_icmp .ne 8, 3) := by decide +kernel
theorem dX10_let_173 : decode cX10_let 173 = .ok (.iload 6, 2) := by decide +kernel
theorem dX10_let_175 : decode cX10_let 175 = .ok (.goto 14, 3) := by decide +kernel
theorem dX10_let_178 : decode cX10_let 178 = .ok (.iload 5, 2) := by decide +kernel
theorem dX10_let_180 : decode cX10_let 180 = .ok (.ifCond .ne 7, 3) := by decide +kernel
theorem dX10_let_183 : decode cX10_let 183 = .ok (.iconst 0, 1) := by decide +kernel
theorem dX10_let_184 : decode cX10_let 184 = .ok (.goto 5, 3) := by decide +kernel
theorem dX10_let_187 : decode cX10_let 187 = .ok (.iload 7, 2) := by decide +kernel
theorem dX10_let_189 : decode cX10_let 189 = .ok (.ireturn, 1) := by decide +kernel
theorem dX10_write_0 : decode cX10_write 0 = .ok (.aload_n 0, 1) := by decide +kernel
theorem dX10_write_1 : decode cX10_write 1 = .ok (.iload_n 1, 1) := by decide +kernel
theorem dX10_write_2 : decode cX10_write 2 = .ok (.invokevirtual 212, 3) := by decide +kernel
theorem dX10_write_5 : decode cX10_write 5 = .ok (.ifCond .ne 6, 3) := by decide +kernel
theorem dX10_write_8 : decode cX10_write 8 = .ok (.ldc 205, 2) := by decide +kernel
theorem dX10_write_10 : decode cX10_write 10 = .ok (.ireturn, 1) := by decide +kernel
theorem dX10_write_11 : decode cX10_write 11 = .ok (.iload_n 2, 1) := by decide +kernel
theorem dX10_write_12 : decode cX10_write 12 = .ok (.i2l, 1) := by decide +kernel
theorem dX10_write_13 : decode cX10_write 13 = .ok (.lconst 0, 1) := by decide +kernel
theorem dX10_write_14 : decode cX10_write 14 = .ok (.ldc2_w 331, 3) := by decide +kernel
theorem dX10_write_17 : decode cX10_write 17 = .ok (.invokestatic 89, 3) := by decide +kernel
theorem dX10_write_20 : decode cX10_write 20 = .ok (.ifCond .ne 6, 3) := by decide +kernel
theorem dX10_write_23 : decode cX10_write 23 = .ok (.ldc 93, 2) := by decide +kernel
theorem dX10_write_25 : decode cX10_write 25 = .ok (.ireturn, 1) := by decide +kernel
theorem dX10_write_26 : decode cX10_write 26 = .ok (.aload_n 0, 1) := by decide +kernel
theorem dX10_write_27 : decode cX10_write 27 = .ok (.getfield 181, 3) := by decide +kernel
theorem dX10_write_30 : decode cX10_write 30 = .ok (.bipush 20, 2) := by decide +kernel
theorem dX10_write_32 : decode cX10_write 32 = .ok (.if_icmp .ne 6, 3) := by decide +kernel
theorem dX10_write_35 : decode cX10_write 35 = .ok (.ldc 97, 2) := by decide +kernel
theorem dX10_write_37 : decode cX10_write 37 = .ok (.ireturn, 1) := by decide +kernel
theorem dX10_write_38 : decode cX10_write 38 = .ok (.aload_n 0, 1) := by decide +kernel
theorem dX10_write_39 : decode cX10_write 39 = .ok (.getfield 81, 3) := by decide +kernel
theorem dX10_write_42 : decode cX10_write 42 = .ok (.aload_n 0, 1) := by decide +kernel
theorem dX10_write_43 : decode cX10_write 43 = .ok (.getfield 181, 3) := by decide +kernel
theorem dX10_write_46 : decode cX10_write 46 = .ok (.iload_n 1, 1) := by decide +kernel
theorem dX10_write_47 : decode cX10_write 47 = .ok (.iastore, 1) := by decide +kernel
theorem dX10_write_48 : decode cX10_write 48 = .ok (.aload_n 0, 1) := by decide +kernel
theorem dX10_write_49 : decode cX10_write 49 = .ok (.getfield 84, 3) := by decide +kernel
theorem dX10_write_52 : decode cX10_write 52 = .ok (.aload_n 0, 1) := by decide +kernel
theorem dX10_write_53 : decode cX10_write 53 = .ok (.getfield 181, 3) := by decide +kernel
theorem dX10_write_56 : decode cX10_write 56 = .ok (.iload_n 2, 1) := by decide +kernel
theorem dX10_write_57 : decode cX10_write 57 = .ok (.iastore, 1) := by decide +kernel
theorem dX10_write_58 : decode cX10_write 58 = .ok (.aload_n 0, 1) := by decide +kernel
theorem dX10_write_59 : decode cX10_write 59 = .ok (.dup, 1) := by decide +kernel
theorem dX10_write_60 : decode cX10_write 60 = .ok (.getfield 181, 3) := by decide +kernel
theorem dX10_write_63 : decode cX10_write 63 = .ok (.iconst 1, 1) := by decide +kernel
theorem dX10_write_64 : decode cX10_write 64 = .ok (.iadd, 1) := by decide +kernel
theorem dX10_write_65 : decode cX10_write 65 = .ok (.putfield 181, 3) := by decide +kernel
theorem dX10_write_68 : decode cX10_write 68 = .ok (.aload_n 0, 1) := by decide +kernel
theorem dX10_write_69 : decode cX10_write 69 = .ok (.getfield 181, 3) := by decide +kernel
theorem dX10_write_72 : decode cX10_write 72 = .ok (.ireturn, 1) := by decide +kernel
theorem dX10_keepsSo_0 : decode cX10_keepsSo 0 = .ok (.bipush 40, 2) := by decide +kernel
theorem dX10_keepsSo_2 : decode cX10_keepsSo 2 = .ok (.istore_n 3, 1) := by decide +kernel
theorem dX10_keepsSo_3 : decode cX10_keepsSo 3 = .ok (.aload_n 0, 1) := by decide +kernel
theorem dX10_keepsSo_4 : decode cX10_keepsSo 4 = .ok (.getfield 7, 3) := by decide +kernel
theorem dX10_keepsSo_7 : decode cX10_keepsSo 7 = .ok (.iload_n 3, 1) := by decide +kernel
theorem dX10_keepsSo_8 : decode cX10_keepsSo 8 = .ok (.bipush 14, 2) := by decide +kernel
theorem dX10_keepsSo_10 : decode cX10_keepsSo 10 = .ok (.iadd, 1) := by decide +kernel
theorem dX10_keepsSo_11 : decode cX10_keepsSo 11 = .ok (.iload_n 1, 1) := by decide +kernel
theorem dX10_keepsSo_12 : decode cX10_keepsSo 12 = .ok (.iadd, 1) := by decide +kernel
theorem dX10_keepsSo_13 : decode cX10_keepsSo 13 = .ok (.iaload, 1) := by decide +kernel
theorem dX10_keepsSo_14 : decode cX10_keepsSo 14 = .ok (.istore 4, 2) := by decide +kernel
theorem dX10_keepsSo_16 : decode cX10_keepsSo 16 = .ok (.aload_n 0, 1) := by decide +kernel
theorem dX10_keepsSo_17 : decode cX10_keepsSo 17 = .ok (.getfield 7, 3) := by decide +kernel
theorem dX10_keepsSo_20 : decode cX10_keepsSo 20 = .ok (.iload_n 3, 1) := by decide +kernel
theorem dX10_keepsSo_21 : decode cX10_keepsSo 21 = .ok (.bipush 31, 2) := by decide +kernel
theorem dX10_keepsSo_23 : decode cX10_keepsSo 23 = .ok (.iadd, 1) := by decide +kernel
theorem dX10_keepsSo_24 : decode cX10_keepsSo 24 = .ok (.iload 4, 2) := by decide +kernel
theorem dX10_keepsSo_26 : decode cX10_keepsSo 26 = .ok (.iadd, 1) := by decide +kernel
theorem dX10_keepsSo_27 : decode cX10_keepsSo 27 = .ok (.iaload, 1) := by decide +kernel
theorem dX10_keepsSo_28 : decode cX10_keepsSo 28 = .ok (.aload_n 0, 1) := by decide +kernel
theorem dX10_keepsSo_29 : decode cX10_keepsSo 29 = .ok (.getfield 7, 3) := by decide +kernel
theorem dX10_keepsSo_32 : decode cX10_keepsSo 32 = .ok (.bipush 37, 2) := by decide +kernel
theorem dX10_keepsSo_34 : decode cX10_keepsSo 34 = .ok (.iaload, 1) := by decide +kernel
theorem dX10_keepsSo_35 : decode cX10_keepsSo 35 = .ok (.if_icmp .le 18, 3) := by decide +kernel
theorem dX10_keepsSo_38 : decode cX10_keepsSo 38 = .ok (.aload_n 0, 1) := by decide +kernel
theorem dX10_keepsSo_39 : decode cX10_keepsSo 39 = .ok (.getfield 7, 3) := by decide +kernel
theorem dX10_keepsSo_42 : decode cX10_keepsSo 42 = .ok (.iload_n 3, 1) := by decide +kernel
theorem dX10_keepsSo_43 : decode cX10_keepsSo 43 = .ok (.bipush 31, 2) := by decide +kernel
theorem dX10_keepsSo_45 : decode cX10_keepsSo 45 = .ok (.iadd, 1) := by decide +kernel
theorem dX10_keepsSo_46 : decode cX10_keepsSo 46 = .ok (.iload 4, 2) := by decide +kernel
theorem dX10_keepsSo_48 : decode cX10_keepsSo 48 = .ok (.iadd, 1) := by decide +kernel
theorem dX10_keepsSo_49 : decode cX10_keepsSo 49 = .ok (.iaload, 1) := by decide +kernel
theorem dX10_keepsSo_50 : decode cX10_keepsSo 50 = .ok (.goto 10, 3) := by decide +kernel
theorem dX10_keepsSo_53 : decode cX10_keepsSo 53 = .ok (.aload_n 0, 1) := by decide +kernel
theorem dX10_keepsSo_54 : decode cX10_keepsSo 54 = .ok (.getfield 7, 3) := by decide +kernel
theorem dX10_keepsSo_57 : decode cX10_keepsSo 57 = .ok (.bipush 37, 2) := by decide +kernel
theorem dX10_keepsSo_59 : decode cX10_keepsSo 59 = .ok (.iaload, 1) := by decide +kernel
theorem dX10_keepsSo_60 : decode cX10_keepsSo 60 = .ok (.istore 5, 2) := by decide +kernel
theorem dX10_keepsSo_62 : decode cX10_keepsSo 62 = .ok (.aload_n 0, 1) := by decide +kernel
theorem dX10_keepsSo_63 : decode cX10_keepsSo 63 = .ok (.getfield 20, 3) := by decide +kernel
theorem dX10_keepsSo_66 : decode cX10_keepsSo 66 = .ok (.iconst 5, 1) := by decide +kernel
theorem dX10_keepsSo_67 : decode cX10_keepsSo 67 = .ok (.aload_n 0, 1) := by decide +kernel
theorem dX10_keepsSo_68 : decode cX10_keepsSo 68 = .ok (.getfield 7, 3) := by decide +kernel
theorem dX10_keepsSo_71 : decode cX10_keepsSo 71 = .ok (.iload_n 3, 1) := by decide +kernel
theorem dX10_keepsSo_72 : decode cX10_keepsSo 72 = .ok (.bipush 28, 2) := by decide +kernel
theorem dX10_keepsSo_74 : decode cX10_keepsSo 74 = .ok (.iadd, 1) := by decide +kernel
theorem dX10_keepsSo_75 : decode cX10_keepsSo 75 = .ok (.iload 4, 2) := by decide +kernel
theorem dX10_keepsSo_77 : decode cX10_keepsSo 77 = .ok (.iadd, 1) := by decide +kernel
theorem dX10_keepsSo_78 : decode cX10_keepsSo 78 = .ok (.iaload, 1) := by decide +kernel
theorem dX10_keepsSo_79 : decode cX10_keepsSo 79 = .ok (.imul, 1) := by decide +kernel
theorem dX10_keepsSo_80 : decode cX10_keepsSo 80 = .ok (.aload_n 0, 1) := by decide +kernel
theorem dX10_keepsSo_81 : decode cX10_keepsSo 81 = .ok (.getfield 32, 3) := by decide +kernel
theorem dX10_keepsSo_84 : decode cX10_keepsSo 84 = .ok (.iload_n 1, 1) := by decide +kernel
theorem dX10_keepsSo_85 : decode cX10_keepsSo 85 = .ok (.iaload, 1) := by decide +kernel
theorem dX10_keepsSo_86 : decode cX10_keepsSo 86 = .ok (.iadd, 1) := by decide +kernel
theorem dX10_keepsSo_87 : decode cX10_keepsSo 87 = .ok (.iaload, 1) := by decide +kernel
theorem dX10_keepsSo_88 : decode cX10_keepsSo 88 = .ok (.istore 6, 2) := by decide +kernel
theorem dX10_keepsSo_90 : decode cX10_keepsSo 90 = .ok (.aload_n 0, 1) := by decide +kernel
theorem dX10_keepsSo_91 : decode cX10_keepsSo 91 = .ok (.getfield 7, 3) := by decide +kernel
theorem dX10_keepsSo_94 : decode cX10_keepsSo 94 = .ok (.iload_n 3, 1) := by decide +kernel
theorem dX10_keepsSo_95 : decode cX10_keepsSo 95 = .ok (.iload_n 1, 1) := by decide +kernel
theorem dX10_keepsSo_96 : decode cX10_keepsSo 96 = .ok (.iadd, 1) := by decide +kernel
theorem dX10_keepsSo_97 : decode cX10_keepsSo 97 = .ok (.iaload, 1) := by decide +kernel
theorem dX10_keepsSo_98 : decode cX10_keepsSo 98 = .ok (.ifCond .ne 37, 3) := by decide +kernel
theorem dX10_keepsSo_101 : decode cX10_keepsSo 101 = .ok (.aload_n 0, 1) := by decide +kernel
theorem dX10_keepsSo_102 : decode cX10_keepsSo 102 = .ok (.getfield 7, 3) := by decide +kernel
theorem dX10_keepsSo_105 : decode cX10_keepsSo 105 = .ok (.iload_n 3, 1) := by decide +kernel
theorem dX10_keepsSo_106 : decode cX10_keepsSo 106 = .ok (.bipush 21, 2) := by decide +kernel
theorem dX10_keepsSo_108 : decode cX10_keepsSo 108 = .ok (.iadd, 1) := by decide +kernel
theorem dX10_keepsSo_109 : decode cX10_keepsSo 109 = .ok (.iload_n 1, 1) := by decide +kernel
theorem dX10_keepsSo_110 : decode cX10_keepsSo 110 = .ok (.iadd, 1) := by decide +kernel
theorem dX10_keepsSo_111 : decode cX10_keepsSo 111 = .ok (.iaload, 1) := by decide +kernel
theorem dX10_keepsSo_112 : decode cX10_keepsSo 112 = .ok (.ifCond .lt 23, 3) := by decide +kernel
theorem dX10_keepsSo_115 : decode cX10_keepsSo 115 = .ok (.iload 6, 2) := by decide +kernel
theorem dX10_keepsSo_117 : decode cX10_keepsSo 117 = .ok (.ldc 156, 2) := by decide +kernel
theorem dX10_keepsSo_119 : decode cX10_keepsSo 119 = .ok (.if_icmp .ge 16, 3) := by decide +kernel
theorem dX10_keepsSo_122 : decode cX10_keepsSo 122 = .ok (.iload 5, 2) := by decide +kernel
theorem dX10_keepsSo_124 : decode cX10_keepsSo 124 = .ok (.iload 6, 2) := by decide +kernel
theorem dX10_keepsSo_126 : decode cX10_keepsSo 126 = .ok (.iadd, 1) := by decide +kernel
theorem dX10_keepsSo_127 : decode cX10_keepsSo 127 = .ok (.iload_n 2, 1) := by decide +kernel
theorem dX10_keepsSo_128 : decode cX10_keepsSo 128 = .ok (.if_icmp .gt 7, 3) := by decide +kernel
theorem dX10_keepsSo_131 : decode cX10_keepsSo 131 = .ok (.iconst 1, 1) := by decide +kernel
theorem dX10_keepsSo_132 : decode cX10_keepsSo 132 = .ok (.goto 4, 3) := by decide +kernel
theorem dX10_keepsSo_135 : decode cX10_keepsSo 135 = .ok (.iconst 0, 1) := by decide +kernel
theorem dX10_keepsSo_136 : decode cX10_keepsSo 136 = .ok (.istore 7, 2) := by decide +kernel
theorem dX10_keepsSo_138 : decode cX10_keepsSo 138 = .ok (.iload 7, 2) := by decide +kernel
theorem dX10_keepsSo_140 : decode cX10_keepsSo 140 = .ok (.ifCond .eq 30, 3) := by decide +kernel
theorem dX10_keepsSo_143 : decode cX10_keepsSo 143 = .ok (.iload_n 2, 1) := by decide +kernel
theorem dX10_keepsSo_144 : decode cX10_keepsSo 144 = .ok (.aload_n 0, 1) := by decide +kernel
theorem dX10_keepsSo_145 : decode cX10_keepsSo 145 = .ok (.iload_n 3, 1) := by decide +kernel
theorem dX10_keepsSo_146 : decode cX10_keepsSo 146 = .ok (.iload_n 1, 1) := by decide +kernel
theorem dX10_keepsSo_147 : decode cX10_keepsSo 147 = .ok (.invokevirtual 215, 3) := by decide +kernel
theorem dX10_keepsSo_150 : decode cX10_keepsSo 150 = .ok (.isub, 1) := by decide +kernel
theorem dX10_keepsSo_151 : decode cX10_keepsSo 151 = .ok (.i2l, 1) := by decide +kernel
theorem dX10_keepsSo_152 : decode cX10_keepsSo 152 = .ok (.lconst 0, 1) := by decide +kernel
theorem dX10_keepsSo_153 : decode cX10_keepsSo 153 = .ok (.aload_n 0, 1) := by decide +kernel
theorem dX10_keepsSo_154 : decode cX10_keepsSo 154 = .ok (.getfield 38, 3) := by decide +kernel
theorem dX10_keepsSo_157 : decode cX10_keepsSo 157 = .ok (.iload_n 1, 1) := by decide +kernel
theorem dX10_keepsSo_158 : decode cX10_keepsSo 158 = .ok (.iaload, 1) := by decide +kernel
theorem dX10_keepsSo_159 : decode cX10_keepsSo 159 = .ok (.i2l, 1) := by decide +kernel
theorem dX10_keepsSo_160 : decode cX10_keepsSo 160 = .ok (.invokestatic 89, 3) := by decide +kernel
theorem dX10_keepsSo_163 : decode cX10_keepsSo 163 = .ok (.ifCond .eq 7, 3) := by decide +kernel
theorem dX10_keepsSo_166 : decode cX10_keepsSo 166 = .ok (.iconst 1, 1) := by decide +kernel
theorem dX10_keepsSo_167 : decode cX10_keepsSo 167 = .ok (.goto 4, 3) := by decide +kernel
theorem dX10_keepsSo_170 : decode cX10_keepsSo 170 = .ok (.iconst 0, 1) := by decide +kernel
theorem dX10_keepsSo_171 : decode cX10_keepsSo 171 = .ok (.istore 7, 2) := by decide +kernel
theorem dX10_keepsSo_173 : decode cX10_keepsSo 173 = .ok (.aload_n 0, 1) := by decide +kernel
theorem dX10_keepsSo_174 : decode cX10_keepsSo 174 = .ok (.getfield 7, 3) := by decide +kernel
theorem dX10_keepsSo_177 : decode cX10_keepsSo 177 = .ok (.iload_n 3, 1) := by decide +kernel
theorem dX10_keepsSo_178 : decode cX10_keepsSo 178 = .ok (.iload_n 1, 1) := by decide +kernel
theorem dX10_keepsSo_179 : decode cX10_keepsSo 179 = .ok (.iadd, 1) := by decide +kernel
theorem dX10_keepsSo_180 : decode cX10_keepsSo 180 = .ok (.iconst 1, 1) := by decide +kernel
theorem dX10_keepsSo_181 : decode cX10_keepsSo 181 = .ok (.iastore, 1) := by decide +kernel
theorem dX10_keepsSo_182 : decode cX10_keepsSo 182 = .ok (.aload_n 0, 1) := by decide +kernel
theorem dX10_keepsSo_183 : decode cX10_keepsSo 183 = .ok (.getfield 7, 3) := by decide +kernel
theorem dX10_keepsSo_186 : decode cX10_keepsSo 186 = .ok (.iload_n 3, 1) := by decide +kernel
theorem dX10_keepsSo_187 : decode cX10_keepsSo 187 = .ok (.bipush 28, 2) := by decide +kernel
theorem dX10_keepsSo_189 : decode cX10_keepsSo 189 = .ok (.iadd, 1) := by decide +kernel
theorem dX10_keepsSo_190 : decode cX10_keepsSo 190 = .ok (.iload 4, 2) := by decide +kernel
theorem dX10_keepsSo_192 : decode cX10_keepsSo 192 = .ok (.iadd, 1) := by decide +kernel
theorem dX10_keepsSo_193 : decode cX10_keepsSo 193 = .ok (.aload_n 0, 1) := by decide +kernel
theorem dX10_keepsSo_194 : decode cX10_keepsSo 194 = .ok (.getfield 32, 3) := by decide +kernel
theorem dX10_keepsSo_197 : decode cX10_keepsSo 197 = .ok (.iload_n 1, 1) := by decide +kernel
theorem dX10_keepsSo_198 : decode cX10_keepsSo 198 = .ok (.iaload, 1) := by decide +kernel
theorem dX10_keepsSo_199 : decode cX10_keepsSo 199 = .ok (.iastore, 1) := by decide +kernel
theorem dX10_keepsSo_200 : decode cX10_keepsSo 200 = .ok (.aload_n 0, 1) := by decide +kernel
theorem dX10_keepsSo_201 : decode cX10_keepsSo 201 = .ok (.getfield 7, 3) := by decide +kernel
theorem dX10_keepsSo_204 : decode cX10_keepsSo 204 = .ok (.iload_n 3, 1) := by decide +kernel
theorem dX10_keepsSo_205 : decode cX10_keepsSo 205 = .ok (.bipush 31, 2) := by decide +kernel
theorem dX10_keepsSo_207 : decode cX10_keepsSo 207 = .ok (.iadd, 1) := by decide +kernel
theorem dX10_keepsSo_208 : decode cX10_keepsSo 208 = .ok (.iload 4, 2) := by decide +kernel
theorem dX10_keepsSo_210 : decode cX10_keepsSo 210 = .ok (.iadd, 1) := by decide +kernel
theorem dX10_keepsSo_211 : decode cX10_keepsSo 211 = .ok (.iload_n 2, 1) := by decide +kernel
theorem dX10_keepsSo_212 : decode cX10_keepsSo 212 = .ok (.iastore, 1) := by decide +kernel
theorem dX10_keepsSo_213 : decode cX10_keepsSo 213 = .ok (.iconst 0, 1) := by decide +kernel
theorem dX10_keepsSo_214 : decode cX10_keepsSo 214 = .ok (.istore 8, 2) := by decide +kernel
theorem dX10_keepsSo_216 : decode cX10_keepsSo 216 = .ok (.iload 8, 2) := by decide +kernel
theorem dX10_keepsSo_218 : decode cX10_keepsSo 218 = .ok (.aload_n 0, 1) := by decide +kernel
theorem dX10_keepsSo_219 : decode cX10_keepsSo 219 = .ok (.getfield 175, 3) := by decide +kernel
theorem dX10_keepsSo_222 : decode cX10_keepsSo 222 = .ok (.if_icmp .ge 48, 3) := by decide +kernel
theorem dX10_keepsSo_225 : decode cX10_keepsSo 225 = .ok (.aload_n 0, 1) := by decide +kernel
theorem dX10_keepsSo_226 : decode cX10_keepsSo 226 = .ok (.getfield 7, 3) := by decide +kernel
theorem dX10_keepsSo_229 : decode cX10_keepsSo 229 = .ok (.iload_n 3, 1) := by decide +kernel
theorem dX10_keepsSo_230 : decode cX10_keepsSo 230 = .ok (.bipush 21, 2) := by decide +kernel
theorem dX10_keepsSo_232 : decode cX10_keepsSo 232 = .ok (.iadd, 1) := by decide +kernel
theorem dX10_keepsSo_233 : decode cX10_keepsSo 233 = .ok (.iload 8, 2) := by decide +kernel
theorem dX10_keepsSo_235 : decode cX10_keepsSo 235 = .ok (.iadd, 1) := by decide +kernel
theorem dX10_keepsSo_236 : decode cX10_keepsSo 236 = .ok (.aload_n 0, 1) := by decide +kernel
theorem dX10_keepsSo_237 : decode cX10_keepsSo 237 = .ok (.getfield 44, 3) := by decide +kernel
theorem dX10_keepsSo_240 : decode cX10_keepsSo 240 = .ok (.iload 8, 2) := by decide +kernel
theorem dX10_keepsSo_242 : decode cX10_keepsSo 242 = .ok (.iaload, 1) := by decide +kernel
theorem dX10_keepsSo_243 : decode cX10_keepsSo 243 = .ok (.iload_n 1, 1) := by decide +kernel
theorem dX10_keepsSo_244 : decode cX10_keepsSo 244 = .ok (.if_icmp .ne 7, 3) := by decide +kernel
theorem dX10_keepsSo_247 : decode cX10_keepsSo 247 = .ok (.iload_n 2, 1) := by decide +kernel
theorem dX10_keepsSo_248 : decode cX10_keepsSo 248 = .ok (.goto 15, 3) := by decide +kernel
theorem dX10_keepsSo_251 : decode cX10_keepsSo 251 = .ok (.aload_n 0, 1) := by decide +kernel
theorem dX10_keepsSo_252 : decode cX10_keepsSo 252 = .ok (.getfield 7, 3) := by decide +kernel
theorem dX10_keepsSo_255 : decode cX10_keepsSo 255 = .ok (.iload_n 3, 1) := by decide +kernel
theorem dX10_keepsSo_256 : decode cX10_keepsSo 256 = .ok (.bipush 21, 2) := by decide +kernel
theorem dX10_keepsSo_258 : decode cX10_keepsSo 258 = .ok (.iadd, 1) := by decide +kernel
theorem dX10_keepsSo_259 : decode cX10_keepsSo 259 = .ok (.iload 8, 2) := by decide +kernel
theorem dX10_keepsSo_261 : decode cX10_keepsSo 261 = .ok (.iadd, 1) := by decide +kernel
theorem dX10_keepsSo_262 : decode cX10_keepsSo 262 = .ok (.iaload, 1) := by decide +kernel
theorem dX10_keepsSo_263 : decode cX10_keepsSo 263 = .ok (.iastore, 1) := by decide +kernel
theorem dX10_keepsSo_264 : decode cX10_keepsSo 264 = .ok (.iinc 8 1, 3) := by decide +kernel
theorem dX10_keepsSo_267 : decode cX10_keepsSo 267 = .ok (.goto (-51), 3) := by decide +kernel
theorem dX10_keepsSo_270 : decode cX10_keepsSo 270 = .ok (.iload 7, 2) := by decide +kernel
theorem dX10_keepsSo_272 : decode cX10_keepsSo 272 = .ok (.ireturn, 1) := by decide +kernel
theorem dX10_judge_0 : decode cX10_judge 0 = .ok (.aload_n 0, 1) := by decide +kernel
theorem dX10_judge_1 : decode cX10_judge 1 = .ok (.iconst 0, 1) := by decide +kernel
theorem dX10_judge_2 : decode cX10_judge 2 = .ok (.bipush 40, 2) := by decide +kernel
theorem dX10_judge_4 : decode cX10_judge 4 = .ok (.invokevirtual 235, 3) := by decide +kernel
theorem dX10_judge_7 : decode cX10_judge 7 = .ok (.aload_n 0, 1) := by decide +kernel
theorem dX10_judge_8 : decode cX10_judge 8 = .ok (.getfield 7, 3) := by decide +kernel
theorem dX10_judge_11 : decode cX10_judge 11 = .ok (.bipush 37, 2) := by decide +kernel
theorem dX10_judge_13 : decode cX10_judge 13 = .ok (.iaload, 1) := by decide +kernel
theorem dX10_judge_14 : decode cX10_judge 14 = .ok (.istore_n 1, 1) := by decide +kernel
theorem dX10_judge_15 : decode cX10_judge 15 = .ok (.iconst 0, 1) := by decide +kernel
theorem dX10_judge_16 : decode cX10_judge 16 = .ok (.istore_n 2, 1) := by decide +kernel
theorem dX10_judge_17 : decode cX10_judge 17 = .ok (.iload_n 2, 1) := by decide +kernel
theorem dX10_judge_18 : decode cX10_judge 18 = .ok (.aload_n 0, 1) := by decide +kernel
theorem dX10_judge_19 : decode cX10_judge 19 = .ok (.getfield 181, 3) := by decide +kernel
theorem dX10_judge_22 : decode cX10_judge 22 = .ok (.if_icmp .ge 47, 3) := by decide +kernel
theorem dX10_judge_25 : decode cX10_judge 25 = .ok (.aload_n 0, 1) := by decide +kernel
theorem dX10_judge_26 : decode cX10_judge 26 = .ok (.getfield 84, 3) := by decide +kernel
theorem dX10_judge_29 : decode cX10_judge 29 = .ok (.iload_n 2, 1) := by decide +kernel
theorem dX10_judge_30 : decode cX10_judge 30 = .ok (.iaload, 1) := by decide +kernel
theorem dX10_judge_31 : decode cX10_judge 31 = .ok (.iload_n 1, 1) := by decide +kernel
theorem dX10_judge_32 : decode cX10_judge 32 = .ok (.if_icmp .lt 22, 3) := by decide +kernel
theorem dX10_judge_35 : decode cX10_judge 35 = .ok (.aload_n 0, 1) := by decide +kernel
theorem dX10_judge_36 : decode cX10_judge 36 = .ok (.aload_n 0, 1) := by decide +kernel
theorem dX10_judge_37 : decode cX10_judge 37 = .ok (.getfield 81, 3) := by decide +kernel
theorem dX10_judge_40 : decode cX10_judge 40 = .ok (.iload_n 2, 1) := by decide +kernel
theorem dX10_judge_41 : decode cX10_judge 41 = .ok (.iaload, 1) := by decide +kernel
theorem dX10_judge_42 : decode cX10_judge 42 = .ok (.aload_n 0, 1) := by decide +kernel
theorem dX10_judge_43 : decode cX10_judge 43 = .ok (.getfield 84, 3) := by decide +kernel
theorem dX10_judge_46 : decode cX10_judge 46 = .ok (.iload_n 2, 1) := by decide +kernel
theorem dX10_judge_47 : decode cX10_judge 47 = .ok (.iaload, 1) := by decide +kernel
theorem dX10_judge_48 : decode cX10_judge 48 = .ok (.invokevirtual 346, 3) := by decide +kernel
theorem dX10_judge_51 : decode cX10_judge 51 = .ok (.ifCond .ne 5, 3) := by decide +kernel
theorem dX10_judge_54 : decode cX10_judge 54 = .ok (.iload_n 2, 1) := by decide +kernel
theorem dX10_judge_55 : decode cX10_judge 55 = .ok (.ireturn, 1) := by decide +kernel
theorem dX10_judge_56 : decode cX10_judge 56 = .ok (.aload_n 0, 1) := by decide +kernel
theorem dX10_judge_57 : decode cX10_judge 57 = .ok (.getfield 84, 3) := by decide +kernel
theorem dX10_judge_60 : decode cX10_judge 60 = .ok (.iload_n 2, 1) := by decide +kernel
theorem dX10_judge_61 : decode cX10_judge 61 = .ok (.iaload, 1) := by decide +kernel
theorem dX10_judge_62 : decode cX10_judge 62 = .ok (.istore_n 1, 1) := by decide +kernel
theorem dX10_judge_63 : decode cX10_judge 63 = .ok (.iinc 2 1, 3) := by decide +kernel
theorem dX10_judge_66 : decode cX10_judge 66 = .ok (.goto (-49), 3) := by decide +kernel
theorem dX10_judge_69 : decode cX10_judge 69 = .ok (.iconst (-1), 1) := by decide +kernel
theorem dX10_judge_70 : decode cX10_judge 70 = .ok (.ireturn, 1) := by decide +kernel
theorem dX10_tear_0 : decode cX10_tear 0 = .ok (.aload_n 0, 1) := by decide +kernel
theorem dX10_tear_1 : decode cX10_tear 1 = .ok (.getfield 181, 3) := by decide +kernel
theorem dX10_tear_4 : decode cX10_tear 4 = .ok (.istore_n 1, 1) := by decide +kernel
theorem dX10_tear_5 : decode cX10_tear 5 = .ok (.aload_n 0, 1) := by decide +kernel
theorem dX10_tear_6 : decode cX10_tear 6 = .ok (.iconst 0, 1) := by decide +kernel
theorem dX10_tear_7 : decode cX10_tear 7 = .ok (.putfield 181, 3) := by decide +kernel
theorem dX10_tear_10 : decode cX10_tear 10 = .ok (.iload_n 1, 1) := by decide +kernel
theorem dX10_tear_11 : decode cX10_tear 11 = .ok (.ireturn, 1) := by decide +kernel
theorem dX10_seed_0 : decode cX10_seed 0 = .ok (.iload_n 1, 1) := by decide +kernel
theorem dX10_seed_1 : decode cX10_seed 1 = .ok (.ifCond .ge 6, 3) := by decide +kernel
theorem dX10_seed_4 : decode cX10_seed 4 = .ok (.ldc 93, 2) := by decide +kernel
theorem dX10_seed_6 : decode cX10_seed 6 = .ok (.ireturn, 1) := by decide +kernel
theorem dX10_seed_7 : decode cX10_seed 7 = .ok (.aload_n 0, 1) := by decide +kernel
theorem dX10_seed_8 : decode cX10_seed 8 = .ok (.getfield 7, 3) := by decide +kernel
theorem dX10_seed_11 : decode cX10_seed 11 = .ok (.bipush 38, 2) := by decide +kernel
theorem dX10_seed_13 : decode cX10_seed 13 = .ok (.iaload, 1) := by decide +kernel
theorem dX10_seed_14 : decode cX10_seed 14 = .ok (.istore_n 2, 1) := by decide +kernel
theorem dX10_seed_15 : decode cX10_seed 15 = .ok (.aload_n 0, 1) := by decide +kernel
theorem dX10_seed_16 : decode cX10_seed 16 = .ok (.getfield 7, 3) := by decide +kernel
theorem dX10_seed_19 : decode cX10_seed 19 = .ok (.bipush 38, 2) := by decide +kernel
theorem dX10_seed_21 : decode cX10_seed 21 = .ok (.iload_n 1, 1) := by decide +kernel
theorem dX10_seed_22 : decode cX10_seed 22 = .ok (.iastore, 1) := by decide +kernel
theorem dX10_seed_23 : decode cX10_seed 23 = .ok (.iload_n 2, 1) := by decide +kernel
theorem dX10_seed_24 : decode cX10_seed 24 = .ok (.ireturn, 1) := by decide +kernel
theorem dX10_image_0 : decode cX10_image 0 = .ok (.iload_n 1, 1) := by decide +kernel
theorem dX10_image_1 : decode cX10_image 1 = .ok (.i2l, 1) := by decide +kernel
theorem dX10_image_2 : decode cX10_image 2 = .ok (.lconst 0, 1) := by decide +kernel
theorem dX10_image_3 : decode cX10_image 3 = .ok (.lconst 1, 1) := by decide +kernel
theorem dX10_image_4 : decode cX10_image 4 = .ok (.invokestatic 89, 3) := by decide +kernel
theorem dX10_image_7 : decode cX10_image 7 = .ok (.ifCond .ne 6, 3) := by decide +kernel
theorem dX10_image_10 : decode cX10_image 10 = .ok (.ldc 205, 2) := by decide +kernel
theorem dX10_image_12 : decode cX10_image 12 = .ok (.ireturn, 1) := by decide +kernel
theorem dX10_image_13 : decode cX10_image 13 = .ok (.aload_n 0, 1) := by decide +kernel
theorem dX10_image_14 : decode cX10_image 14 = .ok (.iconst 0, 1) := by decide +kernel
theorem dX10_image_15 : decode cX10_image 15 = .ok (.bipush 80, 2) := by decide +kernel
theorem dX10_image_17 : decode cX10_image 17 = .ok (.bipush 40, 2) := by decide +kernel
theorem dX10_image_19 : decode cX10_image 19 = .ok (.iload_n 1, 1) := by decide +kernel
theorem dX10_image_20 : decode cX10_image 20 = .ok (.imul, 1) := by decide +kernel
theorem dX10_image_21 : decode cX10_image 21 = .ok (.iadd, 1) := by decide +kernel
theorem dX10_image_22 : decode cX10_image 22 = .ok (.invokevirtual 235, 3) := by decide +kernel
theorem dX10_image_25 : decode cX10_image 25 = .ok (.aload_n 0, 1) := by decide +kernel
theorem dX10_image_26 : decode cX10_image 26 = .ok (.getfield 13, 3) := by decide +kernel
theorem dX10_image_29 : decode cX10_image 29 = .ok (.iload_n 1, 1) := by decide +kernel
theorem dX10_image_30 : decode cX10_image 30 = .ok (.iconst 1, 1) := by decide +kernel
theorem dX10_image_31 : decode cX10_image 31 = .ok (.bastore, 1) := by decide +kernel
theorem dX10_image_32 : decode cX10_image 32 = .ok (.aload_n 0, 1) := by decide +kernel
theorem dX10_image_33 : decode cX10_image 33 = .ok (.iconst 0, 1) := by decide +kernel
theorem dX10_image_34 : decode cX10_image 34 = .ok (.putfield 184, 3) := by decide +kernel
theorem dX10_image_37 : decode cX10_image 37 = .ok (.iconst 1, 1) := by decide +kernel
theorem dX10_image_38 : decode cX10_image 38 = .ok (.ireturn, 1) := by decide +kernel
theorem dX10_goBack_0 : decode cX10_goBack 0 = .ok (.iload_n 1, 1) := by decide +kernel
theorem dX10_goBack_1 : decode cX10_goBack 1 = .ok (.i2l, 1) := by decide +kernel
theorem dX10_goBack_2 : decode cX10_goBack 2 = .ok (.lconst 0, 1) := by decide +kernel
theorem dX10_goBack_3 : decode cX10_goBack 3 = .ok (.lconst 1, 1) := by decide +kernel
theorem dX10_goBack_4 : decode cX10_goBack 4 = .ok (.invokestatic 89, 3) := by decide +kernel
theorem dX10_goBack_7 : decode cX10_goBack 7 = .ok (.ifCond .ne 6, 3) := by decide +kernel
theorem dX10_goBack_10 : decode cX10_goBack 10 = .ok (.ldc 205, 2) := by decide +kernel
theorem dX10_goBack_12 : decode cX10_goBack 12 = .ok (.ireturn, 1) := by decide +kernel
theorem dX10_goBack_13 : decode cX10_goBack 13 = .ok (.aload_n 0, 1) := by decide +kernel
theorem dX10_goBack_14 : decode cX10_goBack 14 = .ok (.getfield 13, 3) := by decide +kernel
theorem dX10_goBack_17 : decode cX10_goBack 17 = .ok (.iload_n 1, 1) := by decide +kernel
theorem dX10_goBack_18 : decode cX10_goBack 18 = .ok (.baload, 1) := by decide +kernel
theorem dX10_goBack_19 : decode cX10_goBack 19 = .ok (.ifCond .ne 6, 3) := by decide +kernel
theorem dX10_goBack_22 : decode cX10_goBack 22 = .ok (.ldc 227, 2) := by decide +kernel
theorem dX10_goBack_24 : decode cX10_goBack 24 = .ok (.ireturn, 1) := by decide +kernel
theorem dX10_goBack_25 : decode cX10_goBack 25 = .ok (.aload_n 0, 1) := by decide +kernel
theorem dX10_goBack_26 : decode cX10_goBack 26 = .ok (.bipush 80, 2) := by decide +kernel
theorem dX10_goBack_28 : decode cX10_goBack 28 = .ok (.bipush 40, 2) := by decide +kernel
theorem dX10_goBack_30 : decode cX10_goBack 30 = .ok (.iload_n 1, 1) := by decide +kernel
theorem dX10_goBack_31 : decode cX10_goBack 31 = .ok (.imul, 1) := by decide +kernel
theorem dX10_goBack_32 : decode cX10_goBack 32 = .ok (.iadd, 1) := by decide +kernel
theorem dX10_goBack_33 : decode cX10_goBack 33 = .ok (.iconst 0, 1) := by decide +kernel
theorem dX10_goBack_34 : decode cX10_goBack 34 = .ok (.invokevirtual 235, 3) := by decide +kernel
theorem dX10_goBack_37 : decode cX10_goBack 37 = .ok (.aload_n 0, 1) := by decide +kernel
theorem dX10_goBack_38 : decode cX10_goBack 38 = .ok (.iconst 0, 1) := by decide +kernel
theorem dX10_goBack_39 : decode cX10_goBack 39 = .ok (.putfield 184, 3) := by decide +kernel
theorem dX10_goBack_42 : decode cX10_goBack 42 = .ok (.iconst 1, 1) := by decide +kernel
theorem dX10_goBack_43 : decode cX10_goBack 43 = .ok (.ireturn, 1) := by decide +kernel
theorem dJ6_bitCount_0f7a4_0 : decode cJ6_bitCount_0f7a4 0 = .ok (.iload_n 0, 1) := by decide +kernel
theorem dJ6_bitCount_0f7a4_1 : decode cJ6_bitCount_0f7a4 1 = .ok (.iload_n 0, 1) := by decide +kernel
theorem dJ6_bitCount_0f7a4_2 : decode cJ6_bitCount_0f7a4 2 = .ok (.iconst 1, 1) := by decide +kernel
theorem dJ6_bitCount_0f7a4_3 : decode cJ6_bitCount_0f7a4 3 = .ok (.iushr, 1) := by decide +kernel
theorem dJ6_bitCount_0f7a4_4 : decode cJ6_bitCount_0f7a4 4 = .ok (.ldc_w 265, 3) := by decide +kernel
theorem dJ6_bitCount_0f7a4_7 : decode cJ6_bitCount_0f7a4 7 = .ok (.iand, 1) := by decide +kernel
theorem dJ6_bitCount_0f7a4_8 : decode cJ6_bitCount_0f7a4 8 = .ok (.isub, 1) := by decide +kernel
theorem dJ6_bitCount_0f7a4_9 : decode cJ6_bitCount_0f7a4 9 = .ok (.istore_n 0, 1) := by decide +kernel
theorem dJ6_bitCount_0f7a4_10 : decode cJ6_bitCount_0f7a4 10 = .ok (.iload_n 0, 1) := by decide +kernel
theorem dJ6_bitCount_0f7a4_11 : decode cJ6_bitCount_0f7a4 11 = .ok (.ldc_w 266, 3) := by decide +kernel
theorem dJ6_bitCount_0f7a4_14 : decode cJ6_bitCount_0f7a4 14 = .ok (.iand, 1) := by decide +kernel
theorem dJ6_bitCount_0f7a4_15 : decode cJ6_bitCount_0f7a4 15 = .ok (.iload_n 0, 1) := by decide +kernel
theorem dJ6_bitCount_0f7a4_16 : decode cJ6_bitCount_0f7a4 16 = .ok (.iconst 2, 1) := by decide +kernel
theorem dJ6_bitCount_0f7a4_17 : decode cJ6_bitCount_0f7a4 17 = .ok (.iushr, 1) := by decide +kernel
theorem dJ6_bitCount_0f7a4_18 : decode cJ6_bitCount_0f7a4 18 = .ok (.ldc_w 266, 3) := by decide +kernel
theorem dJ6_bitCount_0f7a4_21 : decode cJ6_bitCount_0f7a4 21 = .ok (.iand, 1) := by decide +kernel
theorem dJ6_bitCount_0f7a4_22 : decode cJ6_bitCount_0f7a4 22 = .ok (.iadd, 1) := by decide +kernel
theorem dJ6_bitCount_0f7a4_23 : decode cJ6_bitCount_0f7a4 23 = .ok (.istore_n 0, 1) := by decide +kernel
theorem dJ6_bitCount_0f7a4_24 : decode cJ6_bitCount_0f7a4 24 = .ok (.iload_n 0, 1) := by decide +kernel
theorem dJ6_bitCount_0f7a4_25 : decode cJ6_bitCount_0f7a4 25 = .ok (.iload_n 0, 1) := by decide +kernel
theorem dJ6_bitCount_0f7a4_26 : decode cJ6_bitCount_0f7a4 26 = .ok (.iconst 4, 1) := by decide +kernel
theorem dJ6_bitCount_0f7a4_27 : decode cJ6_bitCount_0f7a4 27 = .ok (.iushr, 1) := by decide +kernel
theorem dJ6_bitCount_0f7a4_28 : decode cJ6_bitCount_0f7a4 28 = .ok (.iadd, 1) := by decide +kernel
theorem dJ6_bitCount_0f7a4_29 : decode cJ6_bitCount_0f7a4 29 = .ok (.ldc_w 267, 3) := by decide +kernel
theorem dJ6_bitCount_0f7a4_32 : decode cJ6_bitCount_0f7a4 32 = .ok (.iand, 1) := by decide +kernel
theorem dJ6_bitCount_0f7a4_33 : decode cJ6_bitCount_0f7a4 33 = .ok (.istore_n 0, 1) := by decide +kernel
theorem dJ6_bitCount_0f7a4_34 : decode cJ6_bitCount_0f7a4 34 = .ok (.iload_n 0, 1) := by decide +kernel
theorem dJ6_bitCount_0f7a4_35 : decode cJ6_bitCount_0f7a4 35 = .ok (.iload_n 0, 1) := by decide +kernel
theorem dJ6_bitCount_0f7a4_36 : decode cJ6_bitCount_0f7a4 36 = .ok (.bipush 8, 2) := by decide +kernel
theorem dJ6_bitCount_0f7a4_38 : decode cJ6_bitCount_0f7a4 38 = .ok (.iushr, 1) := by decide +kernel
theorem dJ6_bitCount_0f7a4_39 : decode cJ6_bitCount_0f7a4 39 = .ok (.iadd, 1) := by decide +kernel
theorem dJ6_bitCount_0f7a4_40 : decode cJ6_bitCount_0f7a4 40 = .ok (.istore_n 0, 1) := by decide +kernel
theorem dJ6_bitCount_0f7a4_41 : decode cJ6_bitCount_0f7a4 41 = .ok (.iload_n 0, 1) := by decide +kernel
theorem dJ6_bitCount_0f7a4_42 : decode cJ6_bitCount_0f7a4 42 = .ok (.iload_n 0, 1) := by decide +kernel
theorem dJ6_bitCount_0f7a4_43 : decode cJ6_bitCount_0f7a4 43 = .ok (.bipush 16, 2) := by decide +kernel
theorem dJ6_bitCount_0f7a4_45 : decode cJ6_bitCount_0f7a4 45 = .ok (.iushr, 1) := by decide +kernel
theorem dJ6_bitCount_0f7a4_46 : decode cJ6_bitCount_0f7a4 46 = .ok (.iadd, 1) := by decide +kernel
theorem dJ6_bitCount_0f7a4_47 : decode cJ6_bitCount_0f7a4 47 = .ok (.istore_n 0, 1) := by decide +kernel
theorem dJ6_bitCount_0f7a4_48 : decode cJ6_bitCount_0f7a4 48 = .ok (.iload_n 0, 1) := by decide +kernel
theorem dJ6_bitCount_0f7a4_49 : decode cJ6_bitCount_0f7a4 49 = .ok (.bipush 63, 2) := by decide +kernel
theorem dJ6_bitCount_0f7a4_51 : decode cJ6_bitCount_0f7a4 51 = .ok (.iand, 1) := by decide +kernel
theorem dJ6_bitCount_0f7a4_52 : decode cJ6_bitCount_0f7a4 52 = .ok (.ireturn, 1) := by decide +kernel
theorem dJ9_floorMod_7cf53_0 : decode cJ9_floorMod_7cf53 0 = .ok (.iload_n 0, 1) := by decide +kernel
theorem dJ9_floorMod_7cf53_1 : decode cJ9_floorMod_7cf53 1 = .ok (.iload_n 1, 1) := by decide +kernel
theorem dJ9_floorMod_7cf53_2 : decode cJ9_floorMod_7cf53 2 = .ok (.irem, 1) := by decide +kernel
theorem dJ9_floorMod_7cf53_3 : decode cJ9_floorMod_7cf53 3 = .ok (.istore_n 2, 1) := by decide +kernel
theorem dJ9_floorMod_7cf53_4 : decode cJ9_floorMod_7cf53 4 = .ok (.iload_n 0, 1) := by decide +kernel
theorem dJ9_floorMod_7cf53_5 : decode cJ9_floorMod_7cf53 5 = .ok (.iload_n 1, 1) := by decide +kernel
theorem dJ9_floorMod_7cf53_6 : decode cJ9_floorMod_7cf53 6 = .ok (.ixor, 1) := by decide +kernel
theorem dJ9_floorMod_7cf53_7 : decode cJ9_floorMod_7cf53 7 = .ok (.ifCond .ge 11, 3) := by decide +kernel
theorem dJ9_floorMod_7cf53_10 : decode cJ9_floorMod_7cf53 10 = .ok (.iload_n 2, 1) := by decide +kernel
theorem dJ9_floorMod_7cf53_11 : decode cJ9_floorMod_7cf53 11 = .ok (.ifCond .eq 7, 3) := by decide +kernel
theorem dJ9_floorMod_7cf53_14 : decode cJ9_floorMod_7cf53 14 = .ok (.iload_n 2, 1) := by decide +kernel
theorem dJ9_floorMod_7cf53_15 : decode cJ9_floorMod_7cf53 15 = .ok (.iload_n 1, 1) := by decide +kernel
theorem dJ9_floorMod_7cf53_16 : decode cJ9_floorMod_7cf53 16 = .ok (.iadd, 1) := by decide +kernel
theorem dJ9_floorMod_7cf53_17 : decode cJ9_floorMod_7cf53 17 = .ok (.ireturn, 1) := by decide +kernel
theorem dJ9_floorMod_7cf53_18 : decode cJ9_floorMod_7cf53 18 = .ok (.iload_n 2, 1) := by decide +kernel
theorem dJ9_floorMod_7cf53_19 : decode cJ9_floorMod_7cf53 19 = .ok (.ireturn, 1) := by decide +kernel
theorem dJ9_max_7cf53_0 : decode cJ9_max_7cf53 0 = .ok (.iload_n 0, 1) := by decide +kernel
theorem dJ9_max_7cf53_1 : decode cJ9_max_7cf53 1 = .ok (.iload_n 1, 1) := by decide +kernel
theorem dJ9_max_7cf53_2 : decode cJ9_max_7cf53 2 = .ok (.if_icmp .lt 7, 3) := by decide +kernel
theorem dJ9_max_7cf53_5 : decode cJ9_max_7cf53 5 = .ok (.iload_n 0, 1) := by decide +kernel
theorem dJ9_max_7cf53_6 : decode cJ9_max_7cf53 6 = .ok (.goto 4, 3) := by decide +kernel
theorem dJ9_max_7cf53_9 : decode cJ9_max_7cf53 9 = .ok (.iload_n 1, 1) := by decide +kernel
theorem dJ9_max_7cf53_10 : decode cJ9_max_7cf53 10 = .ok (.ireturn, 1) := by decide +kernel
theorem dJ9_min_7cf53_0 : decode cJ9_min_7cf53 0 = .ok (.iload_n 0, 1) := by decide +kernel
theorem dJ9_min_7cf53_1 : decode cJ9_min_7cf53 1 = .ok (.iload_n 1, 1) := by decide +kernel
theorem dJ9_min_7cf53_2 : decode cJ9_min_7cf53 2 = .ok (.if_icmp .gt 7, 3) := by decide +kernel
theorem dJ9_min_7cf53_5 : decode cJ9_min_7cf53 5 = .ok (.iload_n 0, 1) := by decide +kernel
theorem dJ9_min_7cf53_6 : decode cJ9_min_7cf53 6 = .ok (.goto 4, 3) := by decide +kernel
theorem dJ9_min_7cf53_9 : decode cJ9_min_7cf53 9 = .ok (.iload_n 1, 1) := by decide +kernel
theorem dJ9_min_7cf53_10 : decode cJ9_min_7cf53 10 = .ok (.ireturn, 1) := by decide +kernel
theorem dL_law_0 : decode cL_law 0 = .ok (.new 7, 3) := by decide +kernel
theorem dL_law_3 : decode cL_law 3 = .ok (.dup, 1) := by decide +kernel
theorem dL_law_4 : decode cL_law 4 = .ok (.invokespecial 9, 3) := by decide +kernel
theorem dL_law_7 : decode cL_law 7 = .ok (.astore_n 1, 1) := by decide +kernel
theorem dL_law_8 : decode cL_law 8 = .ok (.new 10, 3) := by decide +kernel
theorem dL_law_11 : decode cL_law 11 = .ok (.dup, 1) := by decide +kernel
theorem dL_law_12 : decode cL_law 12 = .ok (.invokespecial 12, 3) := by decide +kernel
theorem dL_law_15 : decode cL_law 15 = .ok (.astore_n 2, 1) := by decide +kernel
theorem dL_law_16 : decode cL_law 16 = .ok (.iconst 0, 1) := by decide +kernel
theorem dL_law_17 : decode cL_law 17 = .ok (.istore_n 3, 1) := by decide +kernel
theorem dL_law_18 : decode cL_law 18 = .ok (.iload_n 3, 1) := by decide +kernel
theorem dL_law_19 : decode cL_law 19 = .ok (.aload_n 0, 1) := by decide +kernel
theorem dL_law_20 : decode cL_law 20 = .ok (.arraylength, 1) := by decide +kernel
theorem dL_law_21 : decode cL_law 21 = .ok (.iconst 4, 1) := by decide +kernel
theorem dL_law_22 : decode cL_law 22 = .ok (.isub, 1) := by decide +kernel
theorem dL_law_23 : decode cL_law 23 = .ok (.if_icmp .gt 941, 3) := by decide +kernel
theorem dL_law_26 : decode cL_law 26 = .ok (.aload_n 0, 1) := by decide +kernel
theorem dL_law_27 : decode cL_law 27 = .ok (.iload_n 3, 1) := by decide +kernel
theorem dL_law_28 : decode cL_law 28 = .ok (.iaload, 1) := by decide +kernel
theorem dL_law_29 : decode cL_law 29 = .ok (.bipush 31, 2) := by decide +kernel
theorem dL_law_31 : decode cL_law 31 = .ok (.iand, 1) := by decide +kernel
theorem dL_law_32 : decode cL_law 32 = .ok (.tableswitch 926 0 29 #[136, 159, 172, 185, 208, 241, 274, 307, 330, 363, 386, 409, 432, 465, 488, 511, 544, 577, 620, 643, 676, 699, 732, 755, 798, 831, 844, 857, 880, 903], 136) := by decide +kernel
theorem dL_law_168 : decode cL_law 168 = .ok (.aload_n 1, 1) := by decide +kernel
theorem dL_law_169 : decode cL_law 169 = .ok (.aload_n 0, 1) := by decide +kernel
theorem dL_law_170 : decode cL_law 170 = .ok (.iload_n 3, 1) := by decide +kernel
theorem dL_law_171 : decode cL_law 171 = .ok (.iconst 1, 1) := by decide +kernel
theorem dL_law_172 : decode cL_law 172 = .ok (.iadd, 1) := by decide +kernel
theorem dL_law_173 : decode cL_law 173 = .ok (.iaload, 1) := by decide +kernel
theorem dL_law_174 : decode cL_law 174 = .ok (.invokevirtual 13, 3) := by decide +kernel
theorem dL_law_177 : decode cL_law 177 = .ok (.aload_n 2, 1) := by decide +kernel
theorem dL_law_178 : decode cL_law 178 = .ok (.aload_n 0, 1) := by decide +kernel
theorem dL_law_179 : decode cL_law 179 = .ok (.iload_n 3, 1) := by decide +kernel
theorem dL_law_180 : decode cL_law 180 = .ok (.iconst 1, 1) := by decide +kernel
theorem dL_law_181 : decode cL_law 181 = .ok (.iadd, 1) := by decide +kernel
theorem dL_law_182 : decode cL_law 182 = .ok (.iaload, 1) := by decide +kernel
theorem dL_law_183 : decode cL_law 183 = .ok (.invokevirtual 17, 3) := by decide +kernel
theorem dL_law_186 : decode cL_law 186 = .ok (.if_icmp .eq 772, 3) := by decide +kernel
theorem dL_law_189 : decode cL_law 189 = .ok (.iconst 0, 1) := by decide +kernel
theorem dL_law_190 : decode cL_law 190 = .ok (.ireturn, 1) := by decide +kernel
theorem dL_law_191 : decode cL_law 191 = .ok (.aload_n 1, 1) := by decide +kernel
theorem dL_law_192 : decode cL_law 192 = .ok (.invokevirtual 18, 3) := by decide +kernel
theorem dL_law_195 : decode cL_law 195 = .ok (.aload_n 2, 1) := by decide +kernel
theorem dL_law_196 : decode cL_law 196 = .ok (.invokevirtual 22, 3) := by decide +kernel
theorem dL_law_199 : decode cL_law 199 = .ok (.if_icmp .eq 759, 3) := by decide +kernel
theorem dL_law_202 : decode cL_law 202 = .ok (.iconst 0, 1) := by decide +kernel
theorem dL_law_203 : decode cL_law 203 = .ok (.ireturn, 1) := by decide +kernel
theorem dL_law_204 : decode cL_law 204 = .ok (.aload_n 1, 1) := by decide +kernel
theorem dL_law_205 : decode cL_law 205 = .ok (.invokevirtual 23, 3) := by decide +kernel
theorem dL_law_208 : decode cL_law 208 = .ok (.aload_n 2, 1) := by decide +kernel
theorem dL_law_209 : decode cL_law 209 = .ok (.invokevirtual 26, 3) := by decide +kernel
theorem dL_law_212 : decode cL_law 212 = .ok (.if_icmp .eq 746, 3) := by decide +kernel
theorem dL_law_215 : decode cL_law 215 = .ok (.iconst 0, 1) := by decide +kernel
theorem dL_law_216 : decode cL_law 216 = .ok (.ireturn, 1) := by decide +kernel
theorem dL_law_217 : decode cL_law 217 = .ok (.aload_n 1, 1) := by decide +kernel
theorem dL_law_218 : decode cL_law 218 = .ok (.aload_n 0, 1) := by decide +kernel
theorem dL_law_219 : decode cL_law 219 = .ok (.iload_n 3, 1) := by decide +kernel
theorem dL_law_220 : decode cL_law 220 = .ok (.iconst 1, 1) := by decide +kernel
theorem dL_law_221 : decode cL_law 221 = .ok (.iadd, 1) := by decide +kernel
theorem dL_law_222 : decode cL_law 222 = .ok (.iaload, 1) := by decide +kernel
theorem dL_law_223 : decode cL_law 223 = .ok (.invokevirtual 27, 3) := by decide +kernel
theorem dL_law_226 : decode cL_law 226 = .ok (.aload_n 2, 1) := by decide +kernel
theorem dL_law_227 : decode cL_law 227 = .ok (.aload_n 0, 1) := by decide +kernel
theorem dL_law_228 : decode cL_law 228 = .ok (.iload_n 3, 1) := by decide +kernel
theorem dL_law_229 : decode cL_law 229 = .ok (.iconst 1, 1) := by decide +kernel
theorem dL_law_230 : decode cL_law 230 = .ok (.iadd, 1) := by decide +kernel
theorem dL_law_231 : decode cL_law 231 = .ok (.iaload, 1) := by decide +kernel
theorem dL_law_232 : decode cL_law 232 = .ok (.invokevirtual 30, 3) := by decide +kernel
theorem dL_law_235 : decode cL_law 235 = .ok (.if_icmp .eq 723, 3) := by decide +kernel
theorem dL_law_238 : decode cL_law 238 = .ok (.iconst 0, 1) := by decide +kernel
theorem dL_law_239 : decode cL_law 239 = .ok (.ireturn, 1) := by decide +kernel
theorem dL_law_240 : decode cL_law 240 = .ok (.aload_n 1, 1) := by decide +kernel
theorem dL_law_241 : decode cL_law 241 = .ok (.aload_n 0, 1) := by decide +kernel
theorem dL_law_242 : decode cL_law 242 = .ok (.iload_n 3, 1) := by decide +kernel
theorem dL_law_243 : decode cL_law 243 = .ok (.iconst 1, 1) := by decide +kernel
theorem dL_law_244 : decode cL_law 244 = .ok (.iadd, 1) := by decide +kernel
theorem dL_law_245 : decode cL_law 245 = .ok (.iaload, 1) := by decide +kernel
theorem dL_law_246 : decode cL_law 246 = .ok (.aload_n 0, 1) := by decide +kernel
theorem dL_law_247 : decode cL_law 247 = .ok (.iload_n 3, 1) := by decide +kernel
theorem dL_law_248 : decode cL_law 248 = .ok (.iconst 2, 1) := by decide +kernel
theorem dL_law_249 : decode cL_law 249 = .ok (.iadd, 1) := by decide +kernel
theorem dL_law_250 : decode cL_law 250 = .ok (.iaload, 1) := by decide +kernel
theorem dL_law_251 : decode cL_law 251 = .ok (.invokevirtual 31, 3) := by decide +kernel
theorem dL_law_254 : decode cL_law 254 = .ok (.aload_n 2, 1) := by decide +kernel
theorem dL_law_255 : decode cL_law 255 = .ok (.aload_n 0, 1) := by decide +kernel
theorem dL_law_256 : decode cL_law 256 = .ok (.iload_n 3, 1) := by decide +kernel
theorem dL_law_257 : decode cL_law 257 = .ok (.iconst 1, 1) := by decide +kernel
theorem dL_law_258 : decode cL_law 258 = .ok (.iadd, 1) := by decide +kernel
theorem dL_law_259 : decode cL_law 259 = .ok (.iaload, 1) := by decide +kernel
theorem dL_law_260 : decode cL_law 260 = .ok (.aload_n 0, 1) := by decide +kernel
theorem dL_law_261 : decode cL_law 261 = .ok (.iload_n 3, 1) := by decide +kernel
theorem dL_law_262 : decode cL_law 262 = .ok (.iconst 2, 1) := by decide +kernel
theorem dL_law_263 : decode cL_law 263 = .ok (.iadd, 1) := by decide +kernel
theorem dL_law_264 : decode cL_law 264 = .ok (.iaload, 1) := by decide +kernel
theorem dL_law_265 : decode cL_law 265 = .ok (.invokevirtual 35, 3) := by decide +kernel
theorem dL_law_268 : decode cL_law 268 = .ok (.if_icmp .eq 690, 3) := by decide +kernel
theorem dL_law_271 : decode cL_law 271 = .ok (.iconst 0, 1) := by decide +kernel
theorem dL_law_272 : decode cL_law 272 = .ok (.ireturn, 1) := by decide +kernel
theorem dL_law_273 : decode cL_law 273 = .ok (.aload_n 1, 1) := by decide +kernel
theorem dL_law_274 : decode cL_law 274 = .ok (.aload_n 0, 1) := by decide +kernel
theorem dL_law_275 : decode cL_law 275 = .ok (.iload_n 3, 1) := by decide +kernel
theorem dL_law_276 : decode cL_law 276 = .ok (.iconst 1, 1) := by decide +kernel
theorem dL_law_277 : decode cL_law 277 = .ok (.iadd, 1) := by decide +kernel
theorem dL_law_278 : decode cL_law 278 = .ok (.iaload, 1) := by decide +kernel
theorem dL_law_279 : decode cL_law 279 = .ok (.aload_n 0, 1) := by decide +kernel
theorem dL_law_280 : decode cL_law 280 = .ok (.iload_n 3, 1) := by decide +kernel
theorem dL_law_281 : decode cL_law 281 = .ok (.iconst 2, 1) := by decide +kernel
theorem dL_law_282 : decode cL_law 282 = .ok (.iadd, 1) := by decide +kernel
theorem dL_law_283 : decode cL_law 283 = .ok (.iaload, 1) := by decide +kernel
theorem dL_law_284 : decode cL_law 284 = .ok (.invokevirtual 36, 3) := by decide +kernel
theorem dL_law_287 : decode cL_law 287 = .ok (.aload_n 2, 1) := by decide +kernel
theorem dL_law_288 : decode cL_law 288 = .ok (.aload_n 0, 1) := by decide +kernel
theorem dL_law_289 : decode cL_law 289 = .ok (.iload_n 3, 1) := by decide +kernel
theorem dL_law_290 : decode cL_law 290 = .ok (.iconst 1, 1) := by decide +kernel
theorem dL_law_291 : decode cL_law 291 = .ok (.iadd, 1) := by decide +kernel
theorem dL_law_292 : decode cL_law 292 = .ok (.iaload, 1) := by decide +kernel
theorem dL_law_293 : decode cL_law 293 = .ok (.aload_n 0, 1) := by decide +kernel
theorem dL_law_294 : decode cL_law 294 = .ok (.iload_n 3, 1) := by decide +kernel
theorem dL_law_295 : decode cL_law 295 = .ok (.iconst 2, 1) := by decide +kernel
theorem dL_law_296 : decode cL_law 296 = .ok (.iadd, 1) := by decide +kernel
theorem dL_law_297 : decode cL_law 297 = .ok (.iaload, 1) := by decide +kernel
theorem dL_law_298 : decode cL_law 298 = .ok (.invokevirtual 39, 3) := by decide +kernel
theorem dL_law_301 : decode cL_law 301 = .ok (.if_icmp .eq 657, 3) := by decide +kernel
theorem dL_law_304 : decode cL_law 304 = .ok (.iconst 0, 1) := by decide +kernel
theorem dL_law_305 : decode cL_law 305 = .ok (.ireturn, 1) := by decide +kernel
theorem dL_law_306 : decode cL_law 306 = .ok (.aload_n 1, 1) := by decide +kernel
theorem dL_law_307 : decode cL_law 307 = .ok (.aload_n 0, 1) := by decide +kernel
theorem dL_law_308 : decode cL_law 308 = .ok (.iload_n 3, 1) := by decide +kernel
theorem dL_law_309 : decode cL_law 309 = .ok (.iconst 1, 1) := by decide +kernel
theorem dL_law_310 : decode cL_law 310 = .ok (.iadd, 1) := by decide +kernel
theorem dL_law_311 : decode cL_law 311 = .ok (.iaload, 1) := by decide +kernel
theorem dL_law_312 : decode cL_law 312 = .ok (.aload_n 0, 1) := by decide +kernel
theorem dL_law_313 : decode cL_law 313 = .ok (.iload_n 3, 1) := by decide +kernel
theorem dL_law_314 : decode cL_law 314 = .ok (.iconst 2, 1) := by decide +kernel
theorem dL_law_315 : decode cL_law 315 = .ok (.iadd, 1) := by decide +kernel
theorem dL_law_316 : decode cL_law 316 = .ok (.iaload, 1) := by decide +kernel
theorem dL_law_317 : decode cL_law 317 = .ok (.invokevirtual 40, 3) := by decide +kernel
theorem dL_law_320 : decode cL_law 320 = .ok (.aload_n 2, 1) := by decide +kernel
theorem dL_law_321 : decode cL_law 321 = .ok (.aload_n 0, 1) := by decide +kernel
theorem dL_law_322 : decode cL_law 322 = .ok (.iload_n 3, 1) := by decide +kernel
theorem dL_law_323 : decode cL_law 323 = .ok (.iconst 1, 1) := by decide +kernel
theorem dL_law_324 : decode cL_law 324 = .ok (.iadd, 1) := by decide +kernel
theorem dL_law_325 : decode cL_law 325 = .ok (.iaload, 1) := by decide +kernel
theorem dL_law_326 : decode cL_law 326 = .ok (.aload_n 0, 1) := by decide +kernel
theorem dL_law_327 : decode cL_law 327 = .ok (.iload_n 3, 1) := by decide +kernel
theorem dL_law_328 : decode cL_law 328 = .ok (.iconst 2, 1) := by decide +kernel
theorem dL_law_329 : decode cL_law 329 = .ok (.iadd, 1) := by decide +kernel
theorem dL_law_330 : decode cL_law 330 = .ok (.iaload, 1) := by decide +kernel
theorem dL_law_331 : decode cL_law 331 = .ok (.invokevirtual 43, 3) := by decide +kernel
theorem dL_law_334 : decode cL_law 334 = .ok (.if_icmp .eq 624, 3) := by decide +kernel
theorem dL_law_337 : decode cL_law 337 = .ok (.iconst 0, 1) := by decide +kernel
theorem dL_law_338 : decode cL_law 338 = .ok (.ireturn, 1) := by decide +kernel
theorem dL_law_339 : decode cL_law 339 = .ok (.aload_n 1, 1) := by decide +kernel
theorem dL_law_340 : decode cL_law 340 = .ok (.aload_n 0, 1) := by decide +kernel
theorem dL_law_341 : decode cL_law 341 = .ok (.iload_n 3, 1) := by decide +kernel
theorem dL_law_342 : decode cL_law 342 = .ok (.iconst 1, 1) := by decide +kernel
theorem dL_law_343 : decode cL_law 343 = .ok (.iadd, 1) := by decide +kernel
theorem dL_law_344 : decode cL_law 344 = .ok (.iaload, 1) := by decide +kernel
theorem dL_law_345 : decode cL_law 345 = .ok (.invokevirtual 44, 3) := by decide +kernel
theorem dL_law_348 : decode cL_law 348 = .ok (.aload_n 2, 1) := by decide +kernel
theorem dL_law_349 : decode cL_law 349 = .ok (.aload_n 0, 1) := by decide +kernel
theorem dL_law_350 : decode cL_law 350 = .ok (.iload_n 3, 1) := by decide +kernel
theorem dL_law_351 : decode cL_law 351 = .ok (.iconst 1, 1) := by decide +kernel
theorem dL_law_352 : decode cL_law 352 = .ok (.iadd, 1) := by decide +kernel
theorem dL_law_353 : decode cL_law 353 = .ok (.iaload, 1) := by decide +kernel
theorem dL_law_354 : decode cL_law 354 = .ok (.invokevirtual 47, 3) := by decide +kernel
theorem dL_law_357 : decode cL_law 357 = .ok (.if_icmp .eq 601, 3) := by decide +kernel
theorem dL_law_360 : decode cL_law 360 = .ok (.iconst 0, 1) := by decide +kernel
theorem dL_law_361 : decode cL_law 361 = .ok (.ireturn, 1) := by decide +kernel
theorem dL_law_362 : decode cL_law 362 = .ok (.aload_n 1, 1) := by decide +kernel
theorem dL_law_363 : decode cL_law 363 = .ok (.aload_n 0, 1) := by decide +kernel
theorem dL_law_364 : decode cL_law 364 = .ok (.iload_n 3, 1) := by decide +kernel
theorem dL_law_365 : decode cL_law 365 = .ok (.iconst 1, 1) := by decide +kernel
theorem dL_law_366 : decode cL_law 366 = .ok (.iadd, 1) := by decide +kernel
theorem dL_law_367 : decode cL_law 367 = .ok (.iaload, 1) := by decide +kernel
theorem dL_law_368 : decode cL_law 368 = .ok (.aload_n 0, 1) := by decide +kernel
theorem dL_law_369 : decode cL_law 369 = .ok (.iload_n 3, 1) := by decide +kernel
theorem dL_law_370 : decode cL_law 370 = .ok (.iconst 2, 1) := by decide +kernel
theorem dL_law_371 : decode cL_law 371 = .ok (.iadd, 1) := by decide +kernel
theorem dL_law_372 : decode cL_law 372 = .ok (.iaload, 1) := by decide +kernel
theorem dL_law_373 : decode cL_law 373 = .ok (.invokevirtual 48, 3) := by decide +kernel
theorem dL_law_376 : decode cL_law 376 = .ok (.aload_n 2, 1) := by decide +kernel
theorem dL_law_377 : decode cL_law 377 = .ok (.aload_n 0, 1) := by decide +kernel
theorem dL_law_378 : decode cL_law 378 = .ok (.iload_n 3, 1) := by decide +kernel
theorem dL_law_379 : decode cL_law 379 = .ok (.iconst 1, 1) := by decide +kernel
theorem dL_law_380 : decode cL_law 380 = .ok (.iadd, 1) := by decide +kernel
theorem dL_law_381 : decode cL_law 381 = .ok (.iaload, 1) := by decide +kernel
theorem dL_law_382 : decode cL_law 382 = .ok (.aload_n 0, 1) := by decide +kernel
theorem dL_law_383 : decode cL_law 383 = .ok (.iload_n 3, 1) := by decide +kernel
theorem dL_law_384 : decode cL_law 384 = .ok (.iconst 2, 1) := by decide +kernel
theorem dL_law_385 : decode cL_law 385 = .ok (.iadd, 1) := by decide +kernel
theorem dL_law_386 : decode cL_law 386 = .ok (.iaload, 1) := by decide +kernel
theorem dL_law_387 : decode cL_law 387 = .ok (.invokevirtual 51, 3) := by decide +kernel
theorem dL_law_390 : decode cL_law 390 = .ok (.if_icmp .eq 568, 3) := by decide +kernel
theorem dL_law_393 : decode cL_law 393 = .ok (.iconst 0, 1) := by decide +kernel
theorem dL_law_394 : decode cL_law 394 = .ok (.ireturn, 1) := by decide +kernel
theorem dL_law_395 : decode cL_law 395 = .ok (.aload_n 1, 1) := by decide +kernel
theorem dL_law_396 : decode cL_law 396 = .ok (.aload_n 0, 1) := by decide +kernel
theorem dL_law_397 : decode cL_law 397 = .ok (.iload_n 3, 1) := by decide +kernel
theorem dL_law_398 : decode cL_law 398 = .ok (.iconst 1, 1) := by decide +kernel
theorem dL_law_399 : decode cL_law 399 = .ok (.iadd, 1) := by decide +kernel
theorem dL_law_400 : decode cL_law 400 = .ok (.iaload, 1) := by decide +kernel
theorem dL_law_401 : decode cL_law 401 = .ok (.invokevirtual 52, 3) := by decide +kernel
theorem dL_law_404 : decode cL_law 404 = .ok (.aload_n 2, 1) := by decide +kernel
theorem dL_law_405 : decode cL_law 405 = .ok (.aload_n 0, 1) := by decide +kernel
theorem dL_law_406 : decode cL_law 406 = .ok (.iload_n 3, 1) := by decide +kernel
theorem dL_law_407 : decode cL_law 407 = .ok (.iconst 1, 1) := by decide +kernel
theorem dL_law_408 : decode cL_law 408 = .ok (.iadd, 1) := by decide +kernel
theorem dL_law_409 : decode cL_law 409 = .ok (.iaload, 1) := by decide +kernel
theorem dL_law_410 : decode cL_law 410 = .ok (.invokevirtual 55, 3) := by decide +kernel
theorem dL_law_413 : decode cL_law 413 = .ok (.if_icmp .eq 545, 3) := by decide +kernel
theorem dL_law_416 : decode cL_law 416 = .ok (.iconst 0, 1) := by decide +kernel
theorem dL_law_417 : decode cL_law 417 = .ok (.ireturn, 1) := by decide +kernel
theorem dL_law_418 : decode cL_law 418 = .ok (.aload_n 1, 1) := by decide +kernel
theorem dL_law_419 : decode cL_law 419 = .ok (.aload_n 0, 1) := by decide +kernel
theorem dL_law_420 : decode cL_law 420 = .ok (.iload_n 3, 1) := by decide +kernel
theorem dL_law_421 : decode cL_law 421 = .ok (.iconst 1, 1) := by decide +kernel
theorem dL_law_422 : decode cL_law 422 = .ok (.iadd, 1) := by decide +kernel
theorem dL_law_423 : decode cL_law 423 = .ok (.iaload, 1) := by decide +kernel
theorem dL_law_424 : decode cL_law 424 = .ok (.invokevirtual 56, 3) := by decide +kernel
theorem dL_law_427 : decode cL_law 427 = .ok (.aload_n 2, 1) := by decide +kernel
theorem dL_law_428 : decode cL_law 428 = .ok (.aload_n 0, 1) := by decide +kernel
theorem dL_law_429 : decode cL_law 429 = .ok (.iload_n 3, 1) := by decide +kernel
theorem dL_law_430 : decode cL_law 430 = .ok (.iconst 1, 1) := by decide +kernel
theorem dL_law_431 : decode cL_law 431 = .ok (.iadd, 1) := by decide +kernel
theorem dL_law_432 : decode cL_law 432 = .ok (.iaload, 1) := by decide +kernel
theorem dL_law_433 : decode cL_law 433 = .ok (.invokevirtual 59, 3) := by decide +kernel
theorem dL_law_436 : decode cL_law 436 = .ok (.if_icmp .eq 522, 3) := by decide +kernel
theorem dL_law_439 : decode cL_law 439 = .ok (.iconst 0, 1) := by decide +kernel
theorem dL_law_440 : decode cL_law 440 = .ok (.ireturn, 1) := by decide +kernel
theorem dL_law_441 : decode cL_law 441 = .ok (.aload_n 1, 1) := by decide +kernel
theorem dL_law_442 : decode cL_law 442 = .ok (.aload_n 0, 1) := by decide +kernel
theorem dL_law_443 : decode cL_law 443 = .ok (.iload_n 3, 1) := by decide +kernel
theorem dL_law_444 : decode cL_law 444 = .ok (.iconst 1, 1) := by decide +kernel
theorem dL_law_445 : decode cL_law 445 = .ok (.iadd, 1) := by decide +kernel
theorem dL_law_446 : decode cL_law 446 = .ok (.iaload, 1) := by decide +kernel
theorem dL_law_447 : decode cL_law 447 = .ok (.invokevirtual 60, 3) := by decide +kernel
theorem dL_law_450 : decode cL_law 450 = .ok (.aload_n 2, 1) := by decide +kernel
theorem dL_law_451 : decode cL_law 451 = .ok (.aload_n 0, 1) := by decide +kernel
theorem dL_law_452 : decode cL_law 452 = .ok (.iload_n 3, 1) := by decide +kernel
theorem dL_law_453 : decode cL_law 453 = .ok (.iconst 1, 1) := by decide +kernel
theorem dL_law_454 : decode cL_law 454 = .ok (.iadd, 1) := by decide +kernel
theorem dL_law_455 : decode cL_law 455 = .ok (.iaload, 1) := by decide +kernel
theorem dL_law_456 : decode cL_law 456 = .ok (.invokevirtual 63, 3) := by decide +kernel
theorem dL_law_459 : decode cL_law 459 = .ok (.if_icmp .eq 499, 3) := by decide +kernel
theorem dL_law_462 : decode cL_law 462 = .ok (.iconst 0, 1) := by decide +kernel
theorem dL_law_463 : decode cL_law 463 = .ok (.ireturn, 1) := by decide +kernel
theorem dL_law_464 : decode cL_law 464 = .ok (.aload_n 1, 1) := by decide +kernel
theorem dL_law_465 : decode cL_law 465 = .ok (.aload_n 0, 1) := by decide +kernel
theorem dL_law_466 : decode cL_law 466 = .ok (.iload_n 3, 1) := by decide +kernel
theorem dL_law_467 : decode cL_law 467 = .ok (.iconst 1, 1) := by decide +kernel
theorem dL_law_468 : decode cL_law 468 = .ok (.iadd, 1) := by decide +kernel
theorem dL_law_469 : decode cL_law 469 = .ok (.iaload, 1) := by decide +kernel
theorem dL_law_470 : decode cL_law 470 = .ok (.aload_n 0, 1) := by decide +kernel
theorem dL_law_471 : decode cL_law 471 = .ok (.iload_n 3, 1) := by decide +kernel
theorem dL_law_472 : decode cL_law 472 = .ok (.iconst 2, 1) := by decide +kernel
theorem dL_law_473 : decode cL_law 473 = .ok (.iadd, 1) := by decide +kernel
theorem dL_law_474 : decode cL_law 474 = .ok (.iaload, 1) := by decide +kernel
theorem dL_law_475 : decode cL_law 475 = .ok (.invokevirtual 64, 3) := by decide +kernel
theorem dL_law_478 : decode cL_law 478 = .ok (.aload_n 2, 1) := by decide +kernel
theorem dL_law_479 : decode cL_law 479 = .ok (.aload_n 0, 1) := by decide +kernel
theorem dL_law_480 : decode cL_law 480 = .ok (.iload_n 3, 1) := by decide +kernel
theorem dL_law_481 : decode cL_law 481 = .ok (.iconst 1, 1) := by decide +kernel
theorem dL_law_482 : decode cL_law 482 = .ok (.iadd, 1) := by decide +kernel
theorem dL_law_483 : decode cL_law 483 = .ok (.iaload, 1) := by decide +kernel
theorem dL_law_484 : decode cL_law 484 = .ok (.aload_n 0, 1) := by decide +kernel
theorem dL_law_485 : decode cL_law 485 = .ok (.iload_n 3, 1) := by decide +kernel
theorem dL_law_486 : decode cL_law 486 = .ok (.iconst 2, 1) := by decide +kernel
theorem dL_law_487 : decode cL_law 487 = .ok (.iadd, 1) := by decide +kernel
theorem dL_law_488 : decode cL_law 488 = .ok (.iaload, 1) := by decide +kernel
theorem dL_law_489 : decode cL_law 489 = .ok (.invokevirtual 67, 3) := by decide +kernel
theorem dL_law_492 : decode cL_law 492 = .ok (.if_icmp .eq 466, 3) := by decide +kernel
theorem dL_law_495 : decode cL_law 495 = .ok (.iconst 0, 1) := by decide +kernel
theorem dL_law_496 : decode cL_law 496 = .ok (.ireturn, 1) := by decide +kernel
theorem dL_law_497 : decode cL_law 497 = .ok (.aload_n 1, 1) := by decide +kernel
theorem dL_law_498 : decode cL_law 498 = .ok (.aload_n 0, 1) := by decide +kernel
theorem dL_law_499 : decode cL_law 499 = .ok (.iload_n 3, 1) := by decide +kernel
theorem dL_law_500 : decode cL_law 500 = .ok (.iconst 1, 1) := by decide +kernel
theorem dL_law_501 : decode cL_law 501 = .ok (.iadd, 1) := by decide +kernel
theorem dL_law_502 : decode cL_law 502 = .ok (.iaload, 1) := by decide +kernel
theorem dL_law_503 : decode cL_law 503 = .ok (.invokevirtual 68, 3) := by decide +kernel
theorem dL_law_506 : decode cL_law 506 = .ok (.aload_n 2, 1) := by decide +kernel
theorem dL_law_507 : decode cL_law 507 = .ok (.aload_n 0, 1) := by decide +kernel
theorem dL_law_508 : decode cL_law 508 = .ok (.iload_n 3, 1) := by decide +kernel
theorem dL_law_509 : decode cL_law 509 = .ok (.iconst 1, 1) := by decide +kernel
theorem dL_law_510 : decode cL_law 510 = .ok (.iadd, 1) := by decide +kernel
theorem dL_law_511 : decode cL_law 511 = .ok (.iaload, 1) := by decide +kernel
theorem dL_law_512 : decode cL_law 512 = .ok (.invokevirtual 71, 3) := by decide +kernel
theorem dL_law_515 : decode cL_law 515 = .ok (.if_icmp .eq 443, 3) := by decide +kernel
theorem dL_law_518 : decode cL_law 518 = .ok (.iconst 0, 1) := by decide +kernel
theorem dL_law_519 : decode cL_law 519 = .ok (.ireturn, 1) := by decide +kernel
theorem dL_law_520 : decode cL_law 520 = .ok (.aload_n 1, 1) := by decide +kernel
theorem dL_law_521 : decode cL_law 521 = .ok (.aload_n 0, 1) := by decide +kernel
theorem dL_law_522 : decode cL_law 522 = .ok (.iload_n 3, 1) := by decide +kernel
theorem dL_law_523 : decode cL_law 523 = .ok (.iconst 1, 1) := by decide +kernel
theorem dL_law_524 : decode cL_law 524 = .ok (.iadd, 1) := by decide +kernel
theorem dL_law_525 : decode cL_law 525 = .ok (.iaload, 1) := by decide +kernel
theorem dL_law_526 : decode cL_law 526 = .ok (.invokevirtual 72, 3) := by decide +kernel
theorem dL_law_529 : decode cL_law 529 = .ok (.aload_n 2, 1) := by decide +kernel
theorem dL_law_530 : decode cL_law 530 = .ok (.aload_n 0, 1) := by decide +kernel
theorem dL_law_531 : decode cL_law 531 = .ok (.iload_n 3, 1) := by decide +kernel
theorem dL_law_532 : decode cL_law 532 = .ok (.iconst 1, 1) := by decide +kernel
theorem dL_law_533 : decode cL_law 533 = .ok (.iadd, 1) := by decide +kernel
theorem dL_law_534 : decode cL_law 534 = .ok (.iaload, 1) := by decide +kernel
theorem dL_law_535 : decode cL_law 535 = .ok (.invokevirtual 75, 3) := by decide +kernel
theorem dL_law_538 : decode cL_law 538 = .ok (.if_icmp .eq 420, 3) := by decide +kernel
theorem dL_law_541 : decode cL_law 541 = .ok (.iconst 0, 1) := by decide +kernel
theorem dL_law_542 : decode cL_law 542 = .ok (.ireturn, 1) := by decide +kernel
theorem dL_law_543 : decode cL_law 543 = .ok (.aload_n 1, 1) := by decide +kernel
theorem dL_law_544 : decode cL_law 544 = .ok (.aload_n 0, 1) := by decide +kernel
theorem dL_law_545 : decode cL_law 545 = .ok (.iload_n 3, 1) := by decide +kernel
theorem dL_law_546 : decode cL_law 546 = .ok (.iconst 1, 1) := by decide +kernel
theorem dL_law_547 : decode cL_law 547 = .ok (.iadd, 1) := by decide +kernel
theorem dL_law_548 : decode cL_law 548 = .ok (.iaload, 1) := by decide +kernel
theorem dL_law_549 : decode cL_law 549 = .ok (.aload_n 0, 1) := by decide +kernel
theorem dL_law_550 : decode cL_law 550 = .ok (.iload_n 3, 1) := by decide +kernel
theorem dL_law_551 : decode cL_law 551 = .ok (.iconst 2, 1) := by decide +kernel
theorem dL_law_552 : decode cL_law 552 = .ok (.iadd, 1) := by decide +kernel
theorem dL_law_553 : decode cL_law 553 = .ok (.iaload, 1) := by decide +kernel
theorem dL_law_554 : decode cL_law 554 = .ok (.invokevirtual 76, 3) := by decide +kernel
theorem dL_law_557 : decode cL_law 557 = .ok (.aload_n 2, 1) := by decide +kernel
theorem dL_law_558 : decode cL_law 558 = .ok (.aload_n 0, 1) := by decide +kernel
theorem dL_law_559 : decode cL_law 559 = .ok (.iload_n 3, 1) := by decide +kernel
theorem dL_law_560 : decode cL_law 560 = .ok (.iconst 1, 1) := by decide +kernel
theorem dL_law_561 : decode cL_law 561 = .ok (.iadd, 1) := by decide +kernel
theorem dL_law_562 : decode cL_law 562 = .ok (.iaload, 1) := by decide +kernel
theorem dL_law_563 : decode cL_law 563 = .ok (.aload_n 0, 1) := by decide +kernel
theorem dL_law_564 : decode cL_law 564 = .ok (.iload_n 3, 1) := by decide +kernel
theorem dL_law_565 : decode cL_law 565 = .ok (.iconst 2, 1) := by decide +kernel
theorem dL_law_566 : decode cL_law 566 = .ok (.iadd, 1) := by decide +kernel
theorem dL_law_567 : decode cL_law 567 = .ok (.iaload, 1) := by decide +kernel
theorem dL_law_568 : decode cL_law 568 = .ok (.invokevirtual 79, 3) := by decide +kernel
theorem dL_law_571 : decode cL_law 571 = .ok (.if_icmp .eq 387, 3) := by decide +kernel
theorem dL_law_574 : decode cL_law 574 = .ok (.iconst 0, 1) := by decide +kernel
theorem dL_law_575 : decode cL_law 575 = .ok (.ireturn, 1) := by decide +kernel
theorem dL_law_576 : decode cL_law 576 = .ok (.aload_n 1, 1) := by decide +kernel
theorem dL_law_577 : decode cL_law 577 = .ok (.aload_n 0, 1) := by decide +kernel
theorem dL_law_578 : decode cL_law 578 = .ok (.iload_n 3, 1) := by decide +kernel
theorem dL_law_579 : decode cL_law 579 = .ok (.iconst 1, 1) := by decide +kernel
theorem dL_law_580 : decode cL_law 580 = .ok (.iadd, 1) := by decide +kernel
theorem dL_law_581 : decode cL_law 581 = .ok (.iaload, 1) := by decide +kernel
theorem dL_law_582 : decode cL_law 582 = .ok (.aload_n 0, 1) := by decide +kernel
theorem dL_law_583 : decode cL_law 583 = .ok (.iload_n 3, 1) := by decide +kernel
theorem dL_law_584 : decode cL_law 584 = .ok (.iconst 2, 1) := by decide +kernel
theorem dL_law_585 : decode cL_law 585 = .ok (.iadd, 1) := by decide +kernel
theorem dL_law_586 : decode cL_law 586 = .ok (.iaload, 1) := by decide +kernel
theorem dL_law_587 : decode cL_law 587 = .ok (.invokevirtual 80, 3) := by decide +kernel
theorem dL_law_590 : decode cL_law 590 = .ok (.aload_n 2, 1) := by decide +kernel
theorem dL_law_591 : decode cL_law 591 = .ok (.aload_n 0, 1) := by decide +kernel
theorem dL_law_592 : decode cL_law 592 = .ok (.iload_n 3, 1) := by decide +kernel
theorem dL_law_593 : decode cL_law 593 = .ok (.iconst 1, 1) := by decide +kernel
theorem dL_law_594 : decode cL_law 594 = .ok (.iadd, 1) := by decide +kernel
theorem dL_law_595 : decode cL_law 595 = .ok (.iaload, 1) := by decide +kernel
theorem dL_law_596 : decode cL_law 596 = .ok (.aload_n 0, 1) := by decide +kernel
theorem dL_law_597 : decode cL_law 597 = .ok (.iload_n 3, 1) := by decide +kernel
theorem dL_law_598 : decode cL_law 598 = .ok (.iconst 2, 1) := by decide +kernel
theorem dL_law_599 : decode cL_law 599 = .ok (.iadd, 1) := by decide +kernel
theorem dL_law_600 : decode cL_law 600 = .ok (.iaload, 1) := by decide +kernel
theorem dL_law_601 : decode cL_law 601 = .ok (.invokevirtual 83, 3) := by decide +kernel
theorem dL_law_604 : decode cL_law 604 = .ok (.if_icmp .eq 354, 3) := by decide +kernel
theorem dL_law_607 : decode cL_law 607 = .ok (.iconst 0, 1) := by decide +kernel
theorem dL_law_608 : decode cL_law 608 = .ok (.ireturn, 1) := by decide +kernel
theorem dL_law_609 : decode cL_law 609 = .ok (.aload_n 1, 1) := by decide +kernel
theorem dL_law_610 : decode cL_law 610 = .ok (.aload_n 0, 1) := by decide +kernel
theorem dL_law_611 : decode cL_law 611 = .ok (.iload_n 3, 1) := by decide +kernel
theorem dL_law_612 : decode cL_law 612 = .ok (.iconst 1, 1) := by decide +kernel
theorem dL_law_613 : decode cL_law 613 = .ok (.iadd, 1) := by decide +kernel
theorem dL_law_614 : decode cL_law 614 = .ok (.iaload, 1) := by decide +kernel
theorem dL_law_615 : decode cL_law 615 = .ok (.aload_n 0, 1) := by decide +kernel
theorem dL_law_616 : decode cL_law 616 = .ok (.iload_n 3, 1) := by decide +kernel
theorem dL_law_617 : decode cL_law 617 = .ok (.iconst 2, 1) := by decide +kernel
theorem dL_law_618 : decode cL_law 618 = .ok (.iadd, 1) := by decide +kernel
theorem dL_law_619 : decode cL_law 619 = .ok (.iaload, 1) := by decide +kernel
theorem dL_law_620 : decode cL_law 620 = .ok (.aload_n 0, 1) := by decide +kernel
theorem dL_law_621 : decode cL_law 621 = .ok (.iload_n 3, 1) := by decide +kernel
theorem dL_law_622 : decode cL_law 622 = .ok (.iconst 3, 1) := by decide +kernel
theorem dL_law_623 : decode cL_law 623 = .ok (.iadd, 1) := by decide +kernel
theorem dL_law_624 : decode cL_law 624 = .ok (.iaload, 1) := by decide +kernel
theorem dL_law_625 : decode cL_law 625 = .ok (.invokevirtual 84, 3) := by decide +kernel
theorem dL_law_628 : decode cL_law 628 = .ok (.aload_n 2, 1) := by decide +kernel
theorem dL_law_629 : decode cL_law 629 = .ok (.aload_n 0, 1) := by decide +kernel
theorem dL_law_630 : decode cL_law 630 = .ok (.iload_n 3, 1) := by decide +kernel
theorem dL_law_631 : decode cL_law 631 = .ok (.iconst 1, 1) := by decide +kernel
theorem dL_law_632 : decode cL_law 632 = .ok (.iadd, 1) := by decide +kernel
theorem dL_law_633 : decode cL_law 633 = .ok (.iaload, 1) := by decide +kernel
theorem dL_law_634 : decode cL_law 634 = .ok (.aload_n 0, 1) := by decide +kernel
theorem dL_law_635 : decode cL_law 635 = .ok (.iload_n 3, 1) := by decide +kernel
theorem dL_law_636 : decode cL_law 636 = .ok (.iconst 2, 1) := by decide +kernel
theorem dL_law_637 : decode cL_law 637 = .ok (.iadd, 1) := by decide +kernel
theorem dL_law_638 : decode cL_law 638 = .ok (.iaload, 1) := by decide +kernel
theorem dL_law_639 : decode cL_law 639 = .ok (.aload_n 0, 1) := by decide +kernel
theorem dL_law_640 : decode cL_law 640 = .ok (.iload_n 3, 1) := by decide +kernel
theorem dL_law_641 : decode cL_law 641 = .ok (.iconst 3, 1) := by decide +kernel
theorem dL_law_642 : decode cL_law 642 = .ok (.iadd, 1) := by decide +kernel
theorem dL_law_643 : decode cL_law 643 = .ok (.iaload, 1) := by decide +kernel
theorem dL_law_644 : decode cL_law 644 = .ok (.invokevirtual 88, 3) := by decide +kernel
theorem dL_law_647 : decode cL_law 647 = .ok (.if_icmp .eq 311, 3) := by decide +kernel
theorem dL_law_650 : decode cL_law 650 = .ok (.iconst 0, 1) := by decide +kernel
theorem dL_law_651 : decode cL_law 651 = .ok (.ireturn, 1) := by decide +kernel
theorem dL_law_652 : decode cL_law 652 = .ok (.aload_n 1, 1) := by decide +kernel
theorem dL_law_653 : decode cL_law 653 = .ok (.aload_n 0, 1) := by decide +kernel
theorem dL_law_654 : decode cL_law 654 = .ok (.iload_n 3, 1) := by decide +kernel
theorem dL_law_655 : decode cL_law 655 = .ok (.iconst 1, 1) := by decide +kernel
theorem dL_law_656 : decode cL_law 656 = .ok (.iadd, 1) := by decide +kernel
theorem dL_law_657 : decode cL_law 657 = .ok (.iaload, 1) := by decide +kernel
theorem dL_law_658 : decode cL_law 658 = .ok (.invokevirtual 89, 3) := by decide +kernel
theorem dL_law_661 : decode cL_law 661 = .ok (.aload_n 2, 1) := by decide +kernel
theorem dL_law_662 : decode cL_law 662 = .ok (.aload_n 0, 1) := by decide +kernel
theorem dL_law_663 : decode cL_law 663 = .ok (.iload_n 3, 1) := by decide +kernel
theorem dL_law_664 : decode cL_law 664 = .ok (.iconst 1, 1) := by decide +kernel
theorem dL_law_665 : decode cL_law 665 = .ok (.iadd, 1) := by decide +kernel
theorem dL_law_666 : decode cL_law 666 = .ok (.iaload, 1) := by decide +kernel
theorem dL_law_667 : decode cL_law 667 = .ok (.invokevirtual 92, 3) := by decide +kernel
theorem dL_law_670 : decode cL_law 670 = .ok (.if_icmp .eq 288, 3) := by decide +kernel
theorem dL_law_673 : decode cL_law 673 = .ok (.iconst 0, 1) := by decide +kernel
theorem dL_law_674 : decode cL_law 674 = .ok (.ireturn, 1) := by decide +kernel
theorem dL_law_675 : decode cL_law 675 = .ok (.aload_n 1, 1) := by decide +kernel
theorem dL_law_676 : decode cL_law 676 = .ok (.aload_n 0, 1) := by decide +kernel
theorem dL_law_677 : decode cL_law 677 = .ok (.iload_n 3, 1) := by decide +kernel
theorem dL_law_678 : decode cL_law 678 = .ok (.iconst 1, 1) := by decide +kernel
theorem dL_law_679 : decode cL_law 679 = .ok (.iadd, 1) := by decide +kernel
theorem dL_law_680 : decode cL_law 680 = .ok (.iaload, 1) := by decide +kernel
theorem dL_law_681 : decode cL_law 681 = .ok (.aload_n 0, 1) := by decide +kernel
theorem dL_law_682 : decode cL_law 682 = .ok (.iload_n 3, 1) := by decide +kernel
theorem dL_law_683 : decode cL_law 683 = .ok (.iconst 2, 1) := by decide +kernel
theorem dL_law_684 : decode cL_law 684 = .ok (.iadd, 1) := by decide +kernel
theorem dL_law_685 : decode cL_law 685 = .ok (.iaload, 1) := by decide +kernel
theorem dL_law_686 : decode cL_law 686 = .ok (.invokevirtual 93, 3) := by decide +kernel
theorem dL_law_689 : decode cL_law 689 = .ok (.aload_n 2, 1) := by decide +kernel
theorem dL_law_690 : decode cL_law 690 = .ok (.aload_n 0, 1) := by decide +kernel
theorem dL_law_691 : decode cL_law 691 = .ok (.iload_n 3, 1) := by decide +kernel
theorem dL_law_692 : decode cL_law 692 = .ok (.iconst 1, 1) := by decide +kernel
theorem dL_law_693 : decode cL_law 693 = .ok (.iadd, 1) := by decide +kernel
theorem dL_law_694 : decode cL_law 694 = .ok (.iaload, 1) := by decide +kernel
theorem dL_law_695 : decode cL_law 695 = .ok (.aload_n 0, 1) := by decide +kernel
theorem dL_law_696 : decode cL_law 696 = .ok (.iload_n 3, 1) := by decide +kernel
theorem dL_law_697 : decode cL_law 697 = .ok (.iconst 2, 1) := by decide +kernel
theorem dL_law_698 : decode cL_law 698 = .ok (.iadd, 1) := by decide +kernel
theorem dL_law_699 : decode cL_law 699 = .ok (.iaload, 1) := by decide +kernel
theorem dL_law_700 : decode cL_law 700 = .ok (.invokevirtual 96, 3) := by decide +kernel
theorem dL_law_703 : decode cL_law 703 = .ok (.if_icmp .eq 255, 3) := by decide +kernel
theorem dL_law_706 : decode cL_law 706 = .ok (.iconst 0, 1) := by decide +kernel
theorem dL_law_707 : decode cL_law 707 = .ok (.ireturn, 1) := by decide +kernel
theorem dL_law_708 : decode cL_law 708 = .ok (.aload_n 1, 1) := by decide +kernel
theorem dL_law_709 : decode cL_law 709 = .ok (.aload_n 0, 1) := by decide +kernel
theorem dL_law_710 : decode cL_law 710 = .ok (.iload_n 3, 1) := by decide +kernel
theorem dL_law_711 : decode cL_law 711 = .ok (.iconst 1, 1) := by decide +kernel
theorem dL_law_712 : decode cL_law 712 = .ok (.iadd, 1) := by decide +kernel
theorem dL_law_713 : decode cL_law 713 = .ok (.iaload, 1) := by decide +kernel
theorem dL_law_714 : decode cL_law 714 = .ok (.invokevirtual 97, 3) := by decide +kernel
theorem dL_law_717 : decode cL_law 717 = .ok (.aload_n 2, 1) := by decide +kernel
theorem dL_law_718 : decode cL_law 718 = .ok (.aload_n 0, 1) := by decide +kernel
theorem dL_law_719 : decode cL_law 719 = .ok (.iload_n 3, 1) := by decide +kernel
theorem dL_law_720 : decode cL_law 720 = .ok (.iconst 1, 1) := by decide +kernel
theorem dL_law_721 : decode cL_law 721 = .ok (.iadd, 1) := by decide +kernel
theorem dL_law_722 : decode cL_law 722 = .ok (.iaload, 1) := by decide +kernel
theorem dL_law_723 : decode cL_law 723 = .ok (.invokevirtual 100, 3) := by decide +kernel
theorem dL_law_726 : decode cL_law 726 = .ok (.if_icmp .eq 232, 3) := by decide +kernel
theorem dL_law_729 : decode cL_law 729 = .ok (.iconst 0, 1) := by decide +kernel
theorem dL_law_730 : decode cL_law 730 = .ok (.ireturn, 1) := by decide +kernel
theorem dL_law_731 : decode cL_law 731 = .ok (.aload_n 1, 1) := by decide +kernel
theorem dL_law_732 : decode cL_law 732 = .ok (.aload_n 0, 1) := by decide +kernel
theorem dL_law_733 : decode cL_law 733 = .ok (.iload_n 3, 1) := by decide +kernel
theorem dL_law_734 : decode cL_law 734 = .ok (.iconst 1, 1) := by decide +kernel
theorem dL_law_735 : decode cL_law 735 = .ok (.iadd, 1) := by decide +kernel
theorem dL_law_736 : decode cL_law 736 = .ok (.iaload, 1) := by decide +kernel
theorem dL_law_737 : decode cL_law 737 = .ok (.aload_n 0, 1) := by decide +kernel
theorem dL_law_738 : decode cL_law 738 = .ok (.iload_n 3, 1) := by decide +kernel
theorem dL_law_739 : decode cL_law 739 = .ok (.iconst 2, 1) := by decide +kernel
theorem dL_law_740 : decode cL_law 740 = .ok (.iadd, 1) := by decide +kernel
theorem dL_law_741 : decode cL_law 741 = .ok (.iaload, 1) := by decide +kernel
theorem dL_law_742 : decode cL_law 742 = .ok (.invokevirtual 101, 3) := by decide +kernel
theorem dL_law_745 : decode cL_law 745 = .ok (.aload_n 2, 1) := by decide +kernel
theorem dL_law_746 : decode cL_law 746 = .ok (.aload_n 0, 1) := by decide +kernel
theorem dL_law_747 : decode cL_law 747 = .ok (.iload_n 3, 1) := by decide +kernel
theorem dL_law_748 : decode cL_law 748 = .ok (.iconst 1, 1) := by decide +kernel
theorem dL_law_749 : decode cL_law 749 = .ok (.iadd, 1) := by decide +kernel
theorem dL_law_750 : decode cL_law 750 = .ok (.iaload, 1) := by decide +kernel
theorem dL_law_751 : decode cL_law 751 = .ok (.aload_n 0, 1) := by decide +kernel
theorem dL_law_752 : decode cL_law 752 = .ok (.iload_n 3, 1) := by decide +kernel
theorem dL_law_753 : decode cL_law 753 = .ok (.iconst 2, 1) := by decide +kernel
theorem dL_law_754 : decode cL_law 754 = .ok (.iadd, 1) := by decide +kernel
theorem dL_law_755 : decode cL_law 755 = .ok (.iaload, 1) := by decide +kernel
theorem dL_law_756 : decode cL_law 756 = .ok (.invokevirtual 104, 3) := by decide +kernel
theorem dL_law_759 : decode cL_law 759 = .ok (.if_icmp .eq 199, 3) := by decide +kernel
theorem dL_law_762 : decode cL_law 762 = .ok (.iconst 0, 1) := by decide +kernel
theorem dL_law_763 : decode cL_law 763 = .ok (.ireturn, 1) := by decide +kernel
theorem dL_law_764 : decode cL_law 764 = .ok (.aload_n 1, 1) := by decide +kernel
theorem dL_law_765 : decode cL_law 765 = .ok (.aload_n 0, 1) := by decide +kernel
theorem dL_law_766 : decode cL_law 766 = .ok (.iload_n 3, 1) := by decide +kernel
theorem dL_law_767 : decode cL_law 767 = .ok (.iconst 1, 1) := by decide +kernel
theorem dL_law_768 : decode cL_law 768 = .ok (.iadd, 1) := by decide +kernel
theorem dL_law_769 : decode cL_law 769 = .ok (.iaload, 1) := by decide +kernel
theorem dL_law_770 : decode cL_law 770 = .ok (.invokevirtual 105, 3) := by decide +kernel
theorem dL_law_773 : decode cL_law 773 = .ok (.aload_n 2, 1) := by decide +kernel
theorem dL_law_774 : decode cL_law 774 = .ok (.aload_n 0, 1) := by decide +kernel
theorem dL_law_775 : decode cL_law 775 = .ok (.iload_n 3, 1) := by decide +kernel
theorem dL_law_776 : decode cL_law 776 = .ok (.iconst 1, 1) := by decide +kernel
theorem dL_law_777 : decode cL_law 777 = .ok (.iadd, 1) := by decide +kernel
theorem dL_law_778 : decode cL_law 778 = .ok (.iaload, 1) := by decide +kernel
theorem dL_law_779 : decode cL_law 779 = .ok (.invokevirtual 108, 3) := by decide +kernel
theorem dL_law_782 : decode cL_law 782 = .ok (.if_icmp .eq 176, 3) := by decide +kernel
theorem dL_law_785 : decode cL_law 785 = .ok (.iconst 0, 1) := by decide +kernel
theorem dL_law_786 : decode cL_law 786 = .ok (.ireturn, 1) := by decide +kernel
theorem dL_law_787 : decode cL_law 787 = .ok (.aload_n 1, 1) := by decide +kernel
theorem dL_law_788 : decode cL_law 788 = .ok (.aload_n 0, 1) := by decide +kernel
theorem dL_law_789 : decode cL_law 789 = .ok (.iload_n 3, 1) := by decide +kernel
theorem dL_law_790 : decode cL_law 790 = .ok (.iconst 1, 1) := by decide +kernel
theorem dL_law_791 : decode cL_law 791 = .ok (.iadd, 1) := by decide +kernel
theorem dL_law_792 : decode cL_law 792 = .ok (.iaload, 1) := by decide +kernel
theorem dL_law_793 : decode cL_law 793 = .ok (.aload_n 0, 1) := by decide +kernel
theorem dL_law_794 : decode cL_law 794 = .ok (.iload_n 3, 1) := by decide +kernel
theorem dL_law_795 : decode cL_law 795 = .ok (.iconst 2, 1) := by decide +kernel
theorem dL_law_796 : decode cL_law 796 = .ok (.iadd, 1) := by decide +kernel
theorem dL_law_797 : decode cL_law 797 = .ok (.iaload, 1) := by decide +kernel
theorem dL_law_798 : decode cL_law 798 = .ok (.aload_n 0, 1) := by decide +kernel
theorem dL_law_799 : decode cL_law 799 = .ok (.iload_n 3, 1) := by decide +kernel
theorem dL_law_800 : decode cL_law 800 = .ok (.iconst 3, 1) := by decide +kernel
theorem dL_law_801 : decode cL_law 801 = .ok (.iadd, 1) := by decide +kernel
theorem dL_law_802 : decode cL_law 802 = .ok (.iaload, 1) := by decide +kernel
theorem dL_law_803 : decode cL_law 803 = .ok (.invokevirtual 109, 3) := by decide +kernel
theorem dL_law_806 : decode cL_law 806 = .ok (.aload_n 2, 1) := by decide +kernel
theorem dL_law_807 : decode cL_law 807 = .ok (.aload_n 0, 1) := by decide +kernel
theorem dL_law_808 : decode cL_law 808 = .ok (.iload_n 3, 1) := by decide +kernel
theorem dL_law_809 : decode cL_law 809 = .ok (.iconst 1, 1) := by decide +kernel
theorem dL_law_810 : decode cL_law 810 = .ok (.iadd, 1) := by decide +kernel
theorem dL_law_811 : decode cL_law 811 = .ok (.iaload, 1) := by decide +kernel
theorem dL_law_812 : decode cL_law 812 = .ok (.aload_n 0, 1) := by decide +kernel
theorem dL_law_813 : decode cL_law 813 = .ok (.iload_n 3, 1) := by decide +kernel
theorem dL_law_814 : decode cL_law 814 = .ok (.iconst 2, 1) := by decide +kernel
theorem dL_law_815 : decode cL_law 815 = .ok (.iadd, 1) := by decide +kernel
theorem dL_law_816 : decode cL_law 816 = .ok (.iaload, 1) := by decide +kernel
theorem dL_law_817 : decode cL_law 817 = .ok (.aload_n 0, 1) := by decide +kernel
theorem dL_law_818 : decode cL_law 818 = .ok (.iload_n 3, 1) := by decide +kernel
theorem dL_law_819 : decode cL_law 819 = .ok (.iconst 3, 1) := by decide +kernel
theorem dL_law_820 : decode cL_law 820 = .ok (.iadd, 1) := by decide +kernel
theorem dL_law_821 : decode cL_law 821 = .ok (.iaload, 1) := by decide +kernel
theorem dL_law_822 : decode cL_law 822 = .ok (.invokevirtual 112, 3) := by decide +kernel
theorem dL_law_825 : decode cL_law 825 = .ok (.if_icmp .eq 133, 3) := by decide +kernel
theorem dL_law_828 : decode cL_law 828 = .ok (.iconst 0, 1) := by decide +kernel
theorem dL_law_829 : decode cL_law 829 = .ok (.ireturn, 1) := by decide +kernel
theorem dL_law_830 : decode cL_law 830 = .ok (.aload_n 1, 1) := by decide +kernel
theorem dL_law_831 : decode cL_law 831 = .ok (.aload_n 0, 1) := by decide +kernel
theorem dL_law_832 : decode cL_law 832 = .ok (.iload_n 3, 1) := by decide +kernel
theorem dL_law_833 : decode cL_law 833 = .ok (.iconst 1, 1) := by decide +kernel
theorem dL_law_834 : decode cL_law 834 = .ok (.iadd, 1) := by decide +kernel
theorem dL_law_835 : decode cL_law 835 = .ok (.iaload, 1) := by decide +kernel
theorem dL_law_836 : decode cL_law 836 = .ok (.aload_n 0, 1) := by decide +kernel
theorem dL_law_837 : decode cL_law 837 = .ok (.iload_n 3, 1) := by decide +kernel
theorem dL_law_838 : decode cL_law 838 = .ok (.iconst 2, 1) := by decide +kernel
theorem dL_law_839 : decode cL_law 839 = .ok (.iadd, 1) := by decide +kernel
theorem dL_law_840 : decode cL_law 840 = .ok (.iaload, 1) := by decide +kernel
theorem dL_law_841 : decode cL_law 841 = .ok (.invokevirtual 113, 3) := by decide +kernel
theorem dL_law_844 : decode cL_law 844 = .ok (.aload_n 2, 1) := by decide +kernel
theorem dL_law_845 : decode cL_law 845 = .ok (.aload_n 0, 1) := by decide +kernel
theorem dL_law_846 : decode cL_law 846 = .ok (.iload_n 3, 1) := by decide +kernel
theorem dL_law_847 : decode cL_law 847 = .ok (.iconst 1, 1) := by decide +kernel
theorem dL_law_848 : decode cL_law 848 = .ok (.iadd, 1) := by decide +kernel
theorem dL_law_849 : decode cL_law 849 = .ok (.iaload, 1) := by decide +kernel
theorem dL_law_850 : decode cL_law 850 = .ok (.aload_n 0, 1) := by decide +kernel
theorem dL_law_851 : decode cL_law 851 = .ok (.iload_n 3, 1) := by decide +kernel
theorem dL_law_852 : decode cL_law 852 = .ok (.iconst 2, 1) := by decide +kernel
theorem dL_law_853 : decode cL_law 853 = .ok (.iadd, 1) := by decide +kernel
theorem dL_law_854 : decode cL_law 854 = .ok (.iaload, 1) := by decide +kernel
theorem dL_law_855 : decode cL_law 855 = .ok (.invokevirtual 116, 3) := by decide +kernel
theorem dL_law_858 : decode cL_law 858 = .ok (.if_icmp .eq 100, 3) := by decide +kernel
theorem dL_law_861 : decode cL_law 861 = .ok (.iconst 0, 1) := by decide +kernel
theorem dL_law_862 : decode cL_law 862 = .ok (.ireturn, 1) := by decide +kernel
theorem dL_law_863 : decode cL_law 863 = .ok (.aload_n 1, 1) := by decide +kernel
theorem dL_law_864 : decode cL_law 864 = .ok (.invokevirtual 117, 3) := by decide +kernel
theorem dL_law_867 : decode cL_law 867 = .ok (.aload_n 2, 1) := by decide +kernel
theorem dL_law_868 : decode cL_law 868 = .ok (.invokevirtual 120, 3) := by decide +kernel
theorem dL_law_871 : decode cL_law 871 = .ok (.if_icmp .eq 87, 3) := by decide +kernel
