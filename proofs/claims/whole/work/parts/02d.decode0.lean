theorem dX0_init_0 : decode cX0_init 0 = .ok (.aload_n 0, 1) := by decide +kernel
theorem dX0_init_1 : decode cX0_init 1 = .ok (.invokespecial 3, 3) := by decide +kernel
theorem dX0_init_4 : decode cX0_init 4 = .ok (.aload_n 0, 1) := by decide +kernel
theorem dX0_init_5 : decode cX0_init 5 = .ok (.bipush 20, 2) := by decide +kernel
theorem dX0_init_7 : decode cX0_init 7 = .ok (.newarray .int, 2) := by decide +kernel
theorem dX0_init_9 : decode cX0_init 9 = .ok (.putfield 9, 3) := by decide +kernel
theorem dX0_init_12 : decode cX0_init 12 = .ok (.aload_n 0, 1) := by decide +kernel
theorem dX0_init_13 : decode cX0_init 13 = .ok (.bipush 20, 2) := by decide +kernel
theorem dX0_init_15 : decode cX0_init 15 = .ok (.newarray .int, 2) := by decide +kernel
theorem dX0_init_17 : decode cX0_init 17 = .ok (.putfield 15, 3) := by decide +kernel
theorem dX0_init_20 : decode cX0_init 20 = .ok (.aload_n 0, 1) := by decide +kernel
theorem dX0_init_21 : decode cX0_init 21 = .ok (.aload_n 1, 1) := by decide +kernel
theorem dX0_init_22 : decode cX0_init 22 = .ok (.putfield 18, 3) := by decide +kernel
theorem dX0_init_25 : decode cX0_init 25 = .ok (.aload_n 0, 1) := by decide +kernel
theorem dX0_init_26 : decode cX0_init 26 = .ok (.new 22, 3) := by decide +kernel
theorem dX0_init_29 : decode cX0_init 29 = .ok (.dup, 1) := by decide +kernel
theorem dX0_init_30 : decode cX0_init 30 = .ok (.aload_n 1, 1) := by decide +kernel
theorem dX0_init_31 : decode cX0_init 31 = .ok (.invokespecial 24, 3) := by decide +kernel
theorem dX0_init_34 : decode cX0_init 34 = .ok (.putfield 27, 3) := by decide +kernel
theorem dX0_init_37 : decode cX0_init 37 = .ok (.return_, 1) := by decide +kernel
theorem dX0_empty_0 : decode cX0_empty 0 = .ok (.aload_n 0, 1) := by decide +kernel
theorem dX0_empty_1 : decode cX0_empty 1 = .ok (.iconst 0, 1) := by decide +kernel
theorem dX0_empty_2 : decode cX0_empty 2 = .ok (.putfield 31, 3) := by decide +kernel
theorem dX0_empty_5 : decode cX0_empty 5 = .ok (.return_, 1) := by decide +kernel
theorem dX0_add_0 : decode cX0_add 0 = .ok (.aload_n 0, 1) := by decide +kernel
theorem dX0_add_1 : decode cX0_add 1 = .ok (.getfield 9, 3) := by decide +kernel
theorem dX0_add_4 : decode cX0_add 4 = .ok (.aload_n 0, 1) := by decide +kernel
theorem dX0_add_5 : decode cX0_add 5 = .ok (.getfield 31, 3) := by decide +kernel
theorem dX0_add_8 : decode cX0_add 8 = .ok (.iload_n 1, 1) := by decide +kernel
theorem dX0_add_9 : decode cX0_add 9 = .ok (.invokestatic 35, 3) := by decide +kernel
theorem dX0_add_12 : decode cX0_add 12 = .ok (.aload_n 0, 1) := by decide +kernel
theorem dX0_add_13 : decode cX0_add 13 = .ok (.getfield 15, 3) := by decide +kernel
theorem dX0_add_16 : decode cX0_add 16 = .ok (.aload_n 0, 1) := by decide +kernel
theorem dX0_add_17 : decode cX0_add 17 = .ok (.getfield 31, 3) := by decide +kernel
theorem dX0_add_20 : decode cX0_add 20 = .ok (.iload_n 2, 1) := by decide +kernel
theorem dX0_add_21 : decode cX0_add 21 = .ok (.invokestatic 35, 3) := by decide +kernel
theorem dX0_add_24 : decode cX0_add 24 = .ok (.aload_n 0, 1) := by decide +kernel
theorem dX0_add_25 : decode cX0_add 25 = .ok (.dup, 1) := by decide +kernel
theorem dX0_add_26 : decode cX0_add 26 = .ok (.getfield 31, 3) := by decide +kernel
theorem dX0_add_29 : decode cX0_add 29 = .ok (.iconst 1, 1) := by decide +kernel
theorem dX0_add_30 : decode cX0_add 30 = .ok (.iadd, 1) := by decide +kernel
theorem dX0_add_31 : decode cX0_add 31 = .ok (.putfield 31, 3) := by decide +kernel
theorem dX0_add_34 : decode cX0_add 34 = .ok (.aload_n 0, 1) := by decide +kernel
theorem dX0_add_35 : decode cX0_add 35 = .ok (.getfield 31, 3) := by decide +kernel
theorem dX0_add_38 : decode cX0_add 38 = .ok (.ireturn, 1) := by decide +kernel
theorem dX0_firstWrong_0 : decode cX0_firstWrong 0 = .ok (.aload_n 1, 1) := by decide +kernel
theorem dX0_firstWrong_1 : decode cX0_firstWrong 1 = .ok (.getfield 39, 3) := by decide +kernel
theorem dX0_firstWrong_4 : decode cX0_firstWrong 4 = .ok (.aload_n 0, 1) := by decide +kernel
theorem dX0_firstWrong_5 : decode cX0_firstWrong 5 = .ok (.getfield 27, 3) := by decide +kernel
theorem dX0_firstWrong_8 : decode cX0_firstWrong 8 = .ok (.getfield 39, 3) := by decide +kernel
theorem dX0_firstWrong_11 : decode cX0_firstWrong 11 = .ok (.invokestatic 42, 3) := by decide +kernel
theorem dX0_firstWrong_14 : decode cX0_firstWrong 14 = .ok (.aload_n 1, 1) := by decide +kernel
theorem dX0_firstWrong_15 : decode cX0_firstWrong 15 = .ok (.invokevirtual 46, 3) := by decide +kernel
theorem dX0_firstWrong_18 : decode cX0_firstWrong 18 = .ok (.istore_n 2, 1) := by decide +kernel
theorem dX0_firstWrong_19 : decode cX0_firstWrong 19 = .ok (.iconst 0, 1) := by decide +kernel
theorem dX0_firstWrong_20 : decode cX0_firstWrong 20 = .ok (.istore_n 3, 1) := by decide +kernel
theorem dX0_firstWrong_21 : decode cX0_firstWrong 21 = .ok (.iload_n 3, 1) := by decide +kernel
theorem dX0_firstWrong_22 : decode cX0_firstWrong 22 = .ok (.aload_n 0, 1) := by decide +kernel
theorem dX0_firstWrong_23 : decode cX0_firstWrong 23 = .ok (.getfield 31, 3) := by decide +kernel
theorem dX0_firstWrong_26 : decode cX0_firstWrong 26 = .ok (.if_icmp .ge 93, 3) := by decide +kernel
theorem dX0_firstWrong_29 : decode cX0_firstWrong 29 = .ok (.aload_n 0, 1) := by decide +kernel
theorem dX0_firstWrong_30 : decode cX0_firstWrong 30 = .ok (.getfield 9, 3) := by decide +kernel
theorem dX0_firstWrong_33 : decode cX0_firstWrong 33 = .ok (.iload_n 3, 1) := by decide +kernel
theorem dX0_firstWrong_34 : decode cX0_firstWrong 34 = .ok (.invokestatic 50, 3) := by decide +kernel
theorem dX0_firstWrong_37 : decode cX0_firstWrong 37 = .ok (.istore 4, 2) := by decide +kernel
theorem dX0_firstWrong_39 : decode cX0_firstWrong 39 = .ok (.aload_n 0, 1) := by decide +kernel
theorem dX0_firstWrong_40 : decode cX0_firstWrong 40 = .ok (.getfield 15, 3) := by decide +kernel
theorem dX0_firstWrong_43 : decode cX0_firstWrong 43 = .ok (.iload_n 3, 1) := by decide +kernel
theorem dX0_firstWrong_44 : decode cX0_firstWrong 44 = .ok (.invokestatic 50, 3) := by decide +kernel
theorem dX0_firstWrong_47 : decode cX0_firstWrong 47 = .ok (.istore 5, 2) := by decide +kernel
theorem dX0_firstWrong_49 : decode cX0_firstWrong 49 = .ok (.iload 5, 2) := by decide +kernel
theorem dX0_firstWrong_51 : decode cX0_firstWrong 51 = .ok (.iload_n 2, 1) := by decide +kernel
theorem dX0_firstWrong_52 : decode cX0_firstWrong 52 = .ok (.if_icmp .lt 14, 3) := by decide +kernel
theorem dX0_firstWrong_55 : decode cX0_firstWrong 55 = .ok (.aload_n 0, 1) := by decide +kernel
theorem dX0_firstWrong_56 : decode cX0_firstWrong 56 = .ok (.iload 4, 2) := by decide +kernel
theorem dX0_firstWrong_58 : decode cX0_firstWrong 58 = .ok (.iload 5, 2) := by decide +kernel
theorem dX0_firstWrong_60 : decode cX0_firstWrong 60 = .ok (.invokevirtual 54, 3) := by decide +kernel
theorem dX0_firstWrong_63 : decode cX0_firstWrong 63 = .ok (.ifCond .ne 5, 3) := by decide +kernel
theorem dX0_firstWrong_66 : decode cX0_firstWrong 66 = .ok (.iload_n 3, 1) := by decide +kernel
theorem dX0_firstWrong_67 : decode cX0_firstWrong 67 = .ok (.ireturn, 1) := by decide +kernel
theorem dX0_firstWrong_68 : decode cX0_firstWrong 68 = .ok (.aload_n 0, 1) := by decide +kernel
theorem dX0_firstWrong_69 : decode cX0_firstWrong 69 = .ok (.getfield 27, 3) := by decide +kernel
theorem dX0_firstWrong_72 : decode cX0_firstWrong 72 = .ok (.iload 4, 2) := by decide +kernel
theorem dX0_firstWrong_74 : decode cX0_firstWrong 74 = .ok (.iconst 1, 1) := by decide +kernel
theorem dX0_firstWrong_75 : decode cX0_firstWrong 75 = .ok (.iload 5, 2) := by decide +kernel
theorem dX0_firstWrong_77 : decode cX0_firstWrong 77 = .ok (.invokevirtual 58, 3) := by decide +kernel
theorem dX0_firstWrong_80 : decode cX0_firstWrong 80 = .ok (.aload_n 0, 1) := by decide +kernel
theorem dX0_firstWrong_81 : decode cX0_firstWrong 81 = .ok (.getfield 27, 3) := by decide +kernel
theorem dX0_firstWrong_84 : decode cX0_firstWrong 84 = .ok (.aload_n 0, 1) := by decide +kernel
theorem dX0_firstWrong_85 : decode cX0_firstWrong 85 = .ok (.getfield 27, 3) := by decide +kernel
theorem dX0_firstWrong_88 : decode cX0_firstWrong 88 = .ok (.iload 4, 2) := by decide +kernel
theorem dX0_firstWrong_90 : decode cX0_firstWrong 90 = .ok (.invokevirtual 62, 3) := by decide +kernel
theorem dX0_firstWrong_93 : decode cX0_firstWrong 93 = .ok (.aload_n 0, 1) := by decide +kernel
theorem dX0_firstWrong_94 : decode cX0_firstWrong 94 = .ok (.getfield 18, 3) := by decide +kernel
theorem dX0_firstWrong_97 : decode cX0_firstWrong 97 = .ok (.getfield 66, 3) := by decide +kernel
theorem dX0_firstWrong_100 : decode cX0_firstWrong 100 = .ok (.iload 4, 2) := by decide +kernel
theorem dX0_firstWrong_102 : decode cX0_firstWrong 102 = .ok (.invokestatic 50, 3) := by decide +kernel
theorem dX0_firstWrong_105 : decode cX0_firstWrong 105 = .ok (.iload 5, 2) := by decide +kernel
theorem dX0_firstWrong_107 : decode cX0_firstWrong 107 = .ok (.invokevirtual 71, 3) := by decide +kernel
theorem dX0_firstWrong_110 : decode cX0_firstWrong 110 = .ok (.iload 5, 2) := by decide +kernel
theorem dX0_firstWrong_112 : decode cX0_firstWrong 112 = .ok (.istore_n 2, 1) := by decide +kernel
theorem dX0_firstWrong_113 : decode cX0_firstWrong 113 = .ok (.iinc 3 1, 3) := by decide +kernel
theorem dX0_firstWrong_116 : decode cX0_firstWrong 116 = .ok (.goto (-95), 3) := by decide +kernel
theorem dX0_firstWrong_119 : decode cX0_firstWrong 119 = .ok (.iconst (-1), 1) := by decide +kernel
theorem dX0_firstWrong_120 : decode cX0_firstWrong 120 = .ok (.ireturn, 1) := by decide +kernel
theorem dX0_canBeKept_0 : decode cX0_canBeKept 0 = .ok (.aload_n 0, 1) := by decide +kernel
theorem dX0_canBeKept_1 : decode cX0_canBeKept 1 = .ok (.getfield 27, 3) := by decide +kernel
theorem dX0_canBeKept_4 : decode cX0_canBeKept 4 = .ok (.iload_n 1, 1) := by decide +kernel
theorem dX0_canBeKept_5 : decode cX0_canBeKept 5 = .ok (.invokevirtual 62, 3) := by decide +kernel
theorem dX0_canBeKept_8 : decode cX0_canBeKept 8 = .ok (.istore_n 3, 1) := by decide +kernel
theorem dX0_canBeKept_9 : decode cX0_canBeKept 9 = .ok (.aload_n 0, 1) := by decide +kernel
theorem dX0_canBeKept_10 : decode cX0_canBeKept 10 = .ok (.getfield 18, 3) := by decide +kernel
theorem dX0_canBeKept_13 : decode cX0_canBeKept 13 = .ok (.aload_n 0, 1) := by decide +kernel
theorem dX0_canBeKept_14 : decode cX0_canBeKept 14 = .ok (.getfield 27, 3) := by decide +kernel
theorem dX0_canBeKept_17 : decode cX0_canBeKept 17 = .ok (.iload_n 3, 1) := by decide +kernel
theorem dX0_canBeKept_18 : decode cX0_canBeKept 18 = .ok (.invokevirtual 74, 3) := by decide +kernel
theorem dX0_canBeKept_21 : decode cX0_canBeKept 21 = .ok (.aload_n 0, 1) := by decide +kernel
theorem dX0_canBeKept_22 : decode cX0_canBeKept 22 = .ok (.getfield 18, 3) := by decide +kernel
theorem dX0_canBeKept_25 : decode cX0_canBeKept 25 = .ok (.getfield 66, 3) := by decide +kernel
theorem dX0_canBeKept_28 : decode cX0_canBeKept 28 = .ok (.iload_n 1, 1) := by decide +kernel
theorem dX0_canBeKept_29 : decode cX0_canBeKept 29 = .ok (.invokestatic 50, 3) := by decide +kernel
theorem dX0_canBeKept_32 : decode cX0_canBeKept 32 = .ok (.invokevirtual 77, 3) := by decide +kernel
theorem dX0_canBeKept_35 : decode cX0_canBeKept 35 = .ok (.istore 4, 2) := by decide +kernel
theorem dX0_canBeKept_37 : decode cX0_canBeKept 37 = .ok (.aload_n 0, 1) := by decide +kernel
theorem dX0_canBeKept_38 : decode cX0_canBeKept 38 = .ok (.getfield 27, 3) := by decide +kernel
theorem dX0_canBeKept_41 : decode cX0_canBeKept 41 = .ok (.invokevirtual 46, 3) := by decide +kernel
theorem dX0_canBeKept_44 : decode cX0_canBeKept 44 = .ok (.aload_n 0, 1) := by decide +kernel
theorem dX0_canBeKept_45 : decode cX0_canBeKept 45 = .ok (.getfield 27, 3) := by decide +kernel
theorem dX0_canBeKept_48 : decode cX0_canBeKept 48 = .ok (.iload_n 3, 1) := by decide +kernel
theorem dX0_canBeKept_49 : decode cX0_canBeKept 49 = .ok (.invokevirtual 81, 3) := by decide +kernel
theorem dX0_canBeKept_52 : decode cX0_canBeKept 52 = .ok (.invokestatic 84, 3) := by decide +kernel
theorem dX0_canBeKept_55 : decode cX0_canBeKept 55 = .ok (.istore 5, 2) := by decide +kernel
theorem dX0_canBeKept_57 : decode cX0_canBeKept 57 = .ok (.aload_n 0, 1) := by decide +kernel
theorem dX0_canBeKept_58 : decode cX0_canBeKept 58 = .ok (.getfield 27, 3) := by decide +kernel
theorem dX0_canBeKept_61 : decode cX0_canBeKept 61 = .ok (.iload_n 1, 1) := by decide +kernel
theorem dX0_canBeKept_62 : decode cX0_canBeKept 62 = .ok (.invokevirtual 89, 3) := by decide +kernel
theorem dX0_canBeKept_65 : decode cX0_canBeKept 65 = .ok (.ifCond .eq 34, 3) := by decide +kernel
theorem dX0_canBeKept_68 : decode cX0_canBeKept 68 = .ok (.aload_n 0, 1) := by decide +kernel
theorem dX0_canBeKept_69 : decode cX0_canBeKept 69 = .ok (.getfield 27, 3) := by decide +kernel
theorem dX0_canBeKept_72 : decode cX0_canBeKept 72 = .ok (.iload_n 1, 1) := by decide +kernel
theorem dX0_canBeKept_73 : decode cX0_canBeKept 73 = .ok (.iload_n 2, 1) := by decide +kernel
theorem dX0_canBeKept_74 : decode cX0_canBeKept 74 = .ok (.invokevirtual 93, 3) := by decide +kernel
theorem dX0_canBeKept_77 : decode cX0_canBeKept 77 = .ok (.ifCond .eq 22, 3) := by decide +kernel
theorem dX0_canBeKept_80 : decode cX0_canBeKept 80 = .ok (.iload 4, 2) := by decide +kernel
theorem dX0_canBeKept_82 : decode cX0_canBeKept 82 = .ok (.iconst (-1), 1) := by decide +kernel
theorem dX0_canBeKept_83 : decode cX0_canBeKept 83 = .ok (.if_icmp .eq 16, 3) := by decide +kernel
theorem dX0_canBeKept_86 : decode cX0_canBeKept 86 = .ok (.iload 5, 2) := by decide +kernel
theorem dX0_canBeKept_88 : decode cX0_canBeKept 88 = .ok (.iload 4, 2) := by decide +kernel
theorem dX0_canBeKept_90 : decode cX0_canBeKept 90 = .ok (.iadd, 1) := by decide +kernel
theorem dX0_canBeKept_91 : decode cX0_canBeKept 91 = .ok (.iload_n 2, 1) := by decide +kernel
theorem dX0_canBeKept_92 : decode cX0_canBeKept 92 = .ok (.if_icmp .gt 7, 3) := by decide +kernel
theorem dX0_canBeKept_95 : decode cX0_canBeKept 95 = .ok (.iconst 1, 1) := by decide +kernel
theorem dX0_canBeKept_96 : decode cX0_canBeKept 96 = .ok (.goto 4, 3) := by decide +kernel
theorem dX0_canBeKept_99 : decode cX0_canBeKept 99 = .ok (.iconst 0, 1) := by decide +kernel
theorem dX0_canBeKept_100 : decode cX0_canBeKept 100 = .ok (.ireturn, 1) := by decide +kernel
theorem dX1_init_0 : decode cX1_init 0 = .ok (.aload_n 0, 1) := by decide +kernel
theorem dX1_init_1 : decode cX1_init 1 = .ok (.invokespecial 5, 3) := by decide +kernel
theorem dX1_init_4 : decode cX1_init 4 = .ok (.aload_n 0, 1) := by decide +kernel
theorem dX1_init_5 : decode cX1_init 5 = .ok (.bipush 31, 2) := by decide +kernel
theorem dX1_init_7 : decode cX1_init 7 = .ok (.newarray .int, 2) := by decide +kernel
theorem dX1_init_9 : decode cX1_init 9 = .ok (.putfield 11, 3) := by decide +kernel
theorem dX1_init_12 : decode cX1_init 12 = .ok (.aload_n 0, 1) := by decide +kernel
theorem dX1_init_13 : decode cX1_init 13 = .ok (.aload_n 1, 1) := by decide +kernel
theorem dX1_init_14 : decode cX1_init 14 = .ok (.putfield 15, 3) := by decide +kernel
theorem dX1_init_17 : decode cX1_init 17 = .ok (.return_, 1) := by decide +kernel
theorem dX1_begin_0 : decode cX1_begin 0 = .ok (.iconst 0, 1) := by decide +kernel
theorem dX1_begin_1 : decode cX1_begin 1 = .ok (.istore_n 1, 1) := by decide +kernel
theorem dX1_begin_2 : decode cX1_begin 2 = .ok (.iload_n 1, 1) := by decide +kernel
theorem dX1_begin_3 : decode cX1_begin 3 = .ok (.aload_n 0, 1) := by decide +kernel
theorem dX1_begin_4 : decode cX1_begin 4 = .ok (.getfield 11, 3) := by decide +kernel
theorem dX1_begin_7 : decode cX1_begin 7 = .ok (.arraylength, 1) := by decide +kernel
theorem dX1_begin_8 : decode cX1_begin 8 = .ok (.if_icmp .ge 16, 3) := by decide +kernel
theorem dX1_begin_11 : decode cX1_begin 11 = .ok (.aload_n 0, 1) := by decide +kernel
theorem dX1_begin_12 : decode cX1_begin 12 = .ok (.getfield 11, 3) := by decide +kernel
theorem dX1_begin_15 : decode cX1_begin 15 = .ok (.iload_n 1, 1) := by decide +kernel
theorem dX1_begin_16 : decode cX1_begin 16 = .ok (.iconst 0, 1) := by decide +kernel
theorem dX1_begin_17 : decode cX1_begin 17 = .ok (.iastore, 1) := by decide +kernel
theorem dX1_begin_18 : decode cX1_begin 18 = .ok (.iinc 1 1, 3) := by decide +kernel
theorem dX1_begin_21 : decode cX1_begin 21 = .ok (.goto (-19), 3) := by decide +kernel
theorem dX1_begin_24 : decode cX1_begin 24 = .ok (.iconst 0, 1) := by decide +kernel
theorem dX1_begin_25 : decode cX1_begin 25 = .ok (.istore_n 1, 1) := by decide +kernel
theorem dX1_begin_26 : decode cX1_begin 26 = .ok (.iload_n 1, 1) := by decide +kernel
theorem dX1_begin_27 : decode cX1_begin 27 = .ok (.bipush 7, 2) := by decide +kernel
theorem dX1_begin_29 : decode cX1_begin 29 = .ok (.if_icmp .ge 43, 3) := by decide +kernel
theorem dX1_begin_32 : decode cX1_begin 32 = .ok (.aload_n 0, 1) := by decide +kernel
theorem dX1_begin_33 : decode cX1_begin 33 = .ok (.getfield 11, 3) := by decide +kernel
theorem dX1_begin_36 : decode cX1_begin 36 = .ok (.bipush 8, 2) := by decide +kernel
theorem dX1_begin_38 : decode cX1_begin 38 = .ok (.iload_n 1, 1) := by decide +kernel
theorem dX1_begin_39 : decode cX1_begin 39 = .ok (.iadd, 1) := by decide +kernel
theorem dX1_begin_40 : decode cX1_begin 40 = .ok (.iconst (-1), 1) := by decide +kernel
theorem dX1_begin_41 : decode cX1_begin 41 = .ok (.invokestatic 19, 3) := by decide +kernel
theorem dX1_begin_44 : decode cX1_begin 44 = .ok (.aload_n 0, 1) := by decide +kernel
theorem dX1_begin_45 : decode cX1_begin 45 = .ok (.getfield 11, 3) := by decide +kernel
theorem dX1_begin_48 : decode cX1_begin 48 = .ok (.bipush 15, 2) := by decide +kernel
theorem dX1_begin_50 : decode cX1_begin 50 = .ok (.iload_n 1, 1) := by decide +kernel
theorem dX1_begin_51 : decode cX1_begin 51 = .ok (.iadd, 1) := by decide +kernel
theorem dX1_begin_52 : decode cX1_begin 52 = .ok (.aload_n 0, 1) := by decide +kernel
theorem dX1_begin_53 : decode cX1_begin 53 = .ok (.getfield 15, 3) := by decide +kernel
theorem dX1_begin_56 : decode cX1_begin 56 = .ok (.getfield 23, 3) := by decide +kernel
theorem dX1_begin_59 : decode cX1_begin 59 = .ok (.iload_n 1, 1) := by decide +kernel
theorem dX1_begin_60 : decode cX1_begin 60 = .ok (.invokestatic 28, 3) := by decide +kernel
theorem dX1_begin_63 : decode cX1_begin 63 = .ok (.invokestatic 19, 3) := by decide +kernel
theorem dX1_begin_66 : decode cX1_begin 66 = .ok (.iinc 1 1, 3) := by decide +kernel
theorem dX1_begin_69 : decode cX1_begin 69 = .ok (.goto (-43), 3) := by decide +kernel
theorem dX1_begin_72 : decode cX1_begin 72 = .ok (.iconst 0, 1) := by decide +kernel
theorem dX1_begin_73 : decode cX1_begin 73 = .ok (.istore_n 1, 1) := by decide +kernel
theorem dX1_begin_74 : decode cX1_begin 74 = .ok (.iload_n 1, 1) := by decide +kernel
theorem dX1_begin_75 : decode cX1_begin 75 = .ok (.iconst 3, 1) := by decide +kernel
theorem dX1_begin_76 : decode cX1_begin 76 = .ok (.if_icmp .ge 31, 3) := by decide +kernel
theorem dX1_begin_79 : decode cX1_begin 79 = .ok (.aload_n 0, 1) := by decide +kernel
theorem dX1_begin_80 : decode cX1_begin 80 = .ok (.getfield 11, 3) := by decide +kernel
theorem dX1_begin_83 : decode cX1_begin 83 = .ok (.bipush 22, 2) := by decide +kernel
theorem dX1_begin_85 : decode cX1_begin 85 = .ok (.iload_n 1, 1) := by decide +kernel
theorem dX1_begin_86 : decode cX1_begin 86 = .ok (.iadd, 1) := by decide +kernel
theorem dX1_begin_87 : decode cX1_begin 87 = .ok (.aload_n 0, 1) := by decide +kernel
theorem dX1_begin_88 : decode cX1_begin 88 = .ok (.getfield 15, 3) := by decide +kernel
theorem dX1_begin_91 : decode cX1_begin 91 = .ok (.getfield 32, 3) := by decide +kernel
theorem dX1_begin_94 : decode cX1_begin 94 = .ok (.iload_n 1, 1) := by decide +kernel
theorem dX1_begin_95 : decode cX1_begin 95 = .ok (.invokestatic 28, 3) := by decide +kernel
theorem dX1_begin_98 : decode cX1_begin 98 = .ok (.invokestatic 19, 3) := by decide +kernel
theorem dX1_begin_101 : decode cX1_begin 101 = .ok (.iinc 1 1, 3) := by decide +kernel
theorem dX1_begin_104 : decode cX1_begin 104 = .ok (.goto (-30), 3) := by decide +kernel
theorem dX1_begin_107 : decode cX1_begin 107 = .ok (.return_, 1) := by decide +kernel
theorem dX1_today_0 : decode cX1_today 0 = .ok (.aload_n 0, 1) := by decide +kernel
theorem dX1_today_1 : decode cX1_today 1 = .ok (.getfield 11, 3) := by decide +kernel
theorem dX1_today_4 : decode cX1_today 4 = .ok (.iconst 0, 1) := by decide +kernel
theorem dX1_today_5 : decode cX1_today 5 = .ok (.invokestatic 28, 3) := by decide +kernel
theorem dX1_today_8 : decode cX1_today 8 = .ok (.ireturn, 1) := by decide +kernel
theorem dX1_how_0 : decode cX1_how 0 = .ok (.aload_n 0, 1) := by decide +kernel
theorem dX1_how_1 : decode cX1_how 1 = .ok (.getfield 11, 3) := by decide +kernel
theorem dX1_how_4 : decode cX1_how 4 = .ok (.iconst 1, 1) := by decide +kernel
theorem dX1_how_5 : decode cX1_how 5 = .ok (.iload_n 1, 1) := by decide +kernel
theorem dX1_how_6 : decode cX1_how 6 = .ok (.iadd, 1) := by decide +kernel
theorem dX1_how_7 : decode cX1_how 7 = .ok (.invokestatic 28, 3) := by decide +kernel
theorem dX1_how_10 : decode cX1_how 10 = .ok (.ireturn, 1) := by decide +kernel
theorem dX1_isOpen_0 : decode cX1_isOpen 0 = .ok (.aload_n 0, 1) := by decide +kernel
theorem dX1_isOpen_1 : decode cX1_isOpen 1 = .ok (.getfield 15, 3) := by decide +kernel
theorem dX1_isOpen_4 : decode cX1_isOpen 4 = .ok (.iload_n 1, 1) := by decide +kernel
theorem dX1_isOpen_5 : decode cX1_isOpen 5 = .ok (.invokevirtual 35, 3) := by decide +kernel
theorem dX1_isOpen_8 : decode cX1_isOpen 8 = .ok (.ifCond .eq 15, 3) := by decide +kernel
theorem dX1_isOpen_11 : decode cX1_isOpen 11 = .ok (.aload_n 0, 1) := by decide +kernel
theorem dX1_isOpen_12 : decode cX1_isOpen 12 = .ok (.iload_n 1, 1) := by decide +kernel
theorem dX1_isOpen_13 : decode cX1_isOpen 13 = .ok (.invokevirtual 39, 3) := by decide +kernel
theorem dX1_isOpen_16 : decode cX1_isOpen 16 = .ok (.ifCond .ne 7, 3) := by decide +kernel
theorem dX1_isOpen_19 : decode cX1_isOpen 19 = .ok (.iconst 1, 1) := by decide +kernel
theorem dX1_isOpen_20 : decode cX1_isOpen 20 = .ok (.goto 4, 3) := by decide +kernel
theorem dX1_isOpen_23 : decode cX1_isOpen 23 = .ok (.iconst 0, 1) := by decide +kernel
theorem dX1_isOpen_24 : decode cX1_isOpen 24 = .ok (.ireturn, 1) := by decide +kernel
theorem dX1_endedOn_0 : decode cX1_endedOn 0 = .ok (.aload_n 0, 1) := by decide +kernel
theorem dX1_endedOn_1 : decode cX1_endedOn 1 = .ok (.getfield 11, 3) := by decide +kernel
theorem dX1_endedOn_4 : decode cX1_endedOn 4 = .ok (.bipush 8, 2) := by decide +kernel
theorem dX1_endedOn_6 : decode cX1_endedOn 6 = .ok (.iload_n 1, 1) := by decide +kernel
theorem dX1_endedOn_7 : decode cX1_endedOn 7 = .ok (.iadd, 1) := by decide +kernel
theorem dX1_endedOn_8 : decode cX1_endedOn 8 = .ok (.invokestatic 28, 3) := by decide +kernel
theorem dX1_endedOn_11 : decode cX1_endedOn 11 = .ok (.ireturn, 1) := by decide +kernel
theorem dX1_holderOf_0 : decode cX1_holderOf 0 = .ok (.aload_n 0, 1) := by decide +kernel
theorem dX1_holderOf_1 : decode cX1_holderOf 1 = .ok (.getfield 11, 3) := by decide +kernel
theorem dX1_holderOf_4 : decode cX1_holderOf 4 = .ok (.bipush 15, 2) := by decide +kernel
theorem dX1_holderOf_6 : decode cX1_holderOf 6 = .ok (.iload_n 1, 1) := by decide +kernel
theorem dX1_holderOf_7 : decode cX1_holderOf 7 = .ok (.iadd, 1) := by decide +kernel
theorem dX1_holderOf_8 : decode cX1_holderOf 8 = .ok (.invokestatic 28, 3) := by decide +kernel
theorem dX1_holderOf_11 : decode cX1_holderOf 11 = .ok (.ireturn, 1) := by decide +kernel
theorem dX1_townOf_0 : decode cX1_townOf 0 = .ok (.aload_n 0, 1) := by decide +kernel
theorem dX1_townOf_1 : decode cX1_townOf 1 = .ok (.getfield 11, 3) := by decide +kernel
theorem dX1_townOf_4 : decode cX1_townOf 4 = .ok (.bipush 22, 2) := by decide +kernel
theorem dX1_townOf_6 : decode cX1_townOf 6 = .ok (.iload_n 1, 1) := by decide +kernel
theorem dX1_townOf_7 : decode cX1_townOf 7 = .ok (.iadd, 1) := by decide +kernel
theorem dX1_townOf_8 : decode cX1_townOf 8 = .ok (.invokestatic 28, 3) := by decide +kernel
theorem dX1_townOf_11 : decode cX1_townOf 11 = .ok (.ireturn, 1) := by decide +kernel
theorem dX1_thereOn_0 : decode cX1_thereOn 0 = .ok (.aload_n 0, 1) := by decide +kernel
theorem dX1_thereOn_1 : decode cX1_thereOn 1 = .ok (.getfield 11, 3) := by decide +kernel
theorem dX1_thereOn_4 : decode cX1_thereOn 4 = .ok (.bipush 25, 2) := by decide +kernel
theorem dX1_thereOn_6 : decode cX1_thereOn 6 = .ok (.iload_n 1, 1) := by decide +kernel
theorem dX1_thereOn_7 : decode cX1_thereOn 7 = .ok (.iadd, 1) := by decide +kernel
theorem dX1_thereOn_8 : decode cX1_thereOn 8 = .ok (.invokestatic 28, 3) := by decide +kernel
theorem dX1_thereOn_11 : decode cX1_thereOn 11 = .ok (.ireturn, 1) := by decide +kernel
theorem dX1_onTheWay_0 : decode cX1_onTheWay 0 = .ok (.aload_n 0, 1) := by decide +kernel
theorem dX1_onTheWay_1 : decode cX1_onTheWay 1 = .ok (.iload_n 1, 1) := by decide +kernel
theorem dX1_onTheWay_2 : decode cX1_onTheWay 2 = .ok (.invokevirtual 43, 3) := by decide +kernel
theorem dX1_onTheWay_5 : decode cX1_onTheWay 5 = .ok (.aload_n 0, 1) := by decide +kernel
theorem dX1_onTheWay_6 : decode cX1_onTheWay 6 = .ok (.invokevirtual 46, 3) := by decide +kernel
theorem dX1_onTheWay_9 : decode cX1_onTheWay 9 = .ok (.if_icmp .le 7, 3) := by decide +kernel
theorem dX1_onTheWay_12 : decode cX1_onTheWay 12 = .ok (.iconst 1, 1) := by decide +kernel
theorem dX1_onTheWay_13 : decode cX1_onTheWay 13 = .ok (.goto 4, 3) := by decide +kernel
theorem dX1_onTheWay_16 : decode cX1_onTheWay 16 = .ok (.iconst 0, 1) := by decide +kernel
theorem dX1_onTheWay_17 : decode cX1_onTheWay 17 = .ok (.ireturn, 1) := by decide +kernel
theorem dX1_fellOn_0 : decode cX1_fellOn 0 = .ok (.aload_n 0, 1) := by decide +kernel
theorem dX1_fellOn_1 : decode cX1_fellOn 1 = .ok (.getfield 11, 3) := by decide +kernel
theorem dX1_fellOn_4 : decode cX1_fellOn 4 = .ok (.bipush 28, 2) := by decide +kernel
theorem dX1_fellOn_6 : decode cX1_fellOn 6 = .ok (.iload_n 1, 1) := by decide +kernel
theorem dX1_fellOn_7 : decode cX1_fellOn 7 = .ok (.iadd, 1) := by decide +kernel
theorem dX1_fellOn_8 : decode cX1_fellOn 8 = .ok (.invokestatic 28, 3) := by decide +kernel
theorem dX1_fellOn_11 : decode cX1_fellOn 11 = .ok (.ireturn, 1) := by decide +kernel
theorem dX1_setOf_0 : decode cX1_setOf 0 = .ok (.iconst 0, 1) := by decide +kernel
theorem dX1_setOf_1 : decode cX1_setOf 1 = .ok (.istore_n 2, 1) := by decide +kernel
theorem dX1_setOf_2 : decode cX1_setOf 2 = .ok (.iconst 0, 1) := by decide +kernel
theorem dX1_setOf_3 : decode cX1_setOf 3 = .ok (.istore_n 3, 1) := by decide +kernel
theorem dX1_setOf_4 : decode cX1_setOf 4 = .ok (.iload_n 3, 1) := by decide +kernel
theorem dX1_setOf_5 : decode cX1_setOf 5 = .ok (.aload_n 0, 1) := by decide +kernel
theorem dX1_setOf_6 : decode cX1_setOf 6 = .ok (.getfield 15, 3) := by decide +kernel
theorem dX1_setOf_9 : decode cX1_setOf 9 = .ok (.getfield 50, 3) := by decide +kernel
theorem dX1_setOf_12 : decode cX1_setOf 12 = .ok (.if_icmp .ge 28, 3) := by decide +kernel
theorem dX1_setOf_15 : decode cX1_setOf 15 = .ok (.iload_n 2, 1) := by decide +kernel
theorem dX1_setOf_16 : decode cX1_setOf 16 = .ok (.aload_n 0, 1) := by decide +kernel
theorem dX1_setOf_17 : decode cX1_setOf 17 = .ok (.iload_n 3, 1) := by decide +kernel
theorem dX1_setOf_18 : decode cX1_setOf 18 = .ok (.invokevirtual 39, 3) := by decide +kernel
theorem dX1_setOf_21 : decode cX1_setOf 21 = .ok (.iload_n 1, 1) := by decide +kernel
theorem dX1_setOf_22 : decode cX1_setOf 22 = .ok (.if_icmp .ne 9, 3) := by decide +kernel
theorem dX1_setOf_25 : decode cX1_setOf 25 = .ok (.iconst 1, 1) := by decide +kernel
theorem dX1_setOf_26 : decode cX1_setOf 26 = .ok (.iload_n 3, 1) := by decide +kernel
theorem dX1_setOf_27 : decode cX1_setOf 27 = .ok (.ishl, 1) := by decide +kernel
theorem dX1_setOf_28 : decode cX1_setOf 28 = .ok (.goto 4, 3) := by decide +kernel
theorem dX1_setOf_31 : decode cX1_setOf 31 = .ok (.iconst 0, 1) := by decide +kernel
theorem dX1_setOf_32 : decode cX1_setOf 32 = .ok (.ior, 1) := by decide +kernel
theorem dX1_setOf_33 : decode cX1_setOf 33 = .ok (.istore_n 2, 1) := by decide +kernel
theorem dX1_setOf_34 : decode cX1_setOf 34 = .ok (.iinc 3 1, 3) := by decide +kernel
theorem dX1_setOf_37 : decode cX1_setOf 37 = .ok (.goto (-33), 3) := by decide +kernel
theorem dX1_setOf_40 : decode cX1_setOf 40 = .ok (.iload_n 2, 1) := by decide +kernel
theorem dX1_setOf_41 : decode cX1_setOf 41 = .ok (.ireturn, 1) := by decide +kernel
theorem dX1_heldBy_0 : decode cX1_heldBy 0 = .ok (.iconst 0, 1) := by decide +kernel
theorem dX1_heldBy_1 : decode cX1_heldBy 1 = .ok (.istore_n 2, 1) := by decide +kernel
theorem dX1_heldBy_2 : decode cX1_heldBy 2 = .ok (.iconst 0, 1) := by decide +kernel
theorem dX1_heldBy_3 : decode cX1_heldBy 3 = .ok (.istore_n 3, 1) := by decide +kernel
theorem dX1_heldBy_4 : decode cX1_heldBy 4 = .ok (.iload_n 3, 1) := by decide +kernel
theorem dX1_heldBy_5 : decode cX1_heldBy 5 = .ok (.aload_n 0, 1) := by decide +kernel
theorem dX1_heldBy_6 : decode cX1_heldBy 6 = .ok (.getfield 15, 3) := by decide +kernel
theorem dX1_heldBy_9 : decode cX1_heldBy 9 = .ok (.getfield 50, 3) := by decide +kernel
theorem dX1_heldBy_12 : decode cX1_heldBy 12 = .ok (.if_icmp .ge 28, 3) := by decide +kernel
theorem dX1_heldBy_15 : decode cX1_heldBy 15 = .ok (.iload_n 2, 1) := by decide +kernel
theorem dX1_heldBy_16 : decode cX1_heldBy 16 = .ok (.aload_n 0, 1) := by decide +kernel
theorem dX1_heldBy_17 : decode cX1_heldBy 17 = .ok (.iload_n 3, 1) := by decide +kernel
theorem dX1_heldBy_18 : decode cX1_heldBy 18 = .ok (.invokevirtual 54, 3) := by decide +kernel
theorem dX1_heldBy_21 : decode cX1_heldBy 21 = .ok (.iload_n 1, 1) := by decide +kernel
theorem dX1_heldBy_22 : decode cX1_heldBy 22 = .ok (.if_icmp .ne 9, 3) := by decide +kernel
theorem dX1_heldBy_25 : decode cX1_heldBy 25 = .ok (.iconst 1, 1) := by decide +kernel
theorem dX1_heldBy_26 : decode cX1_heldBy 26 = .ok (.iload_n 3, 1) := by decide +kernel
theorem dX1_heldBy_27 : decode cX1_heldBy 27 = .ok (.ishl, 1) := by decide +kernel
theorem dX1_heldBy_28 : decode cX1_heldBy 28 = .ok (.goto 4, 3) := by decide +kernel
theorem dX1_heldBy_31 : decode cX1_heldBy 31 = .ok (.iconst 0, 1) := by decide +kernel
theorem dX1_heldBy_32 : decode cX1_heldBy 32 = .ok (.ior, 1) := by decide +kernel
theorem dX1_heldBy_33 : decode cX1_heldBy 33 = .ok (.istore_n 2, 1) := by decide +kernel
theorem dX1_heldBy_34 : decode cX1_heldBy 34 = .ok (.iinc 3 1, 3) := by decide +kernel
theorem dX1_heldBy_37 : decode cX1_heldBy 37 = .ok (.goto (-33), 3) := by decide +kernel
theorem dX1_heldBy_40 : decode cX1_heldBy 40 = .ok (.iload_n 2, 1) := by decide +kernel
theorem dX1_heldBy_41 : decode cX1_heldBy 41 = .ok (.ireturn, 1) := by decide +kernel
theorem dX1_openOf_0 : decode cX1_openOf 0 = .ok (.aload_n 0, 1) := by decide +kernel
theorem dX1_openOf_1 : decode cX1_openOf 1 = .ok (.iload_n 1, 1) := by decide +kernel
theorem dX1_openOf_2 : decode cX1_openOf 2 = .ok (.invokevirtual 57, 3) := by decide +kernel
theorem dX1_openOf_5 : decode cX1_openOf 5 = .ok (.aload_n 0, 1) := by decide +kernel
theorem dX1_openOf_6 : decode cX1_openOf 6 = .ok (.iconst 0, 1) := by decide +kernel
theorem dX1_openOf_7 : decode cX1_openOf 7 = .ok (.invokevirtual 60, 3) := by decide +kernel
theorem dX1_openOf_10 : decode cX1_openOf 10 = .ok (.iand, 1) := by decide +kernel
theorem dX1_openOf_11 : decode cX1_openOf 11 = .ok (.ireturn, 1) := by decide +kernel
theorem dX1_sizesOf_0 : decode cX1_sizesOf 0 = .ok (.aload_n 0, 1) := by decide +kernel
theorem dX1_sizesOf_1 : decode cX1_sizesOf 1 = .ok (.getfield 15, 3) := by decide +kernel
theorem dX1_sizesOf_4 : decode cX1_sizesOf 4 = .ok (.aload_n 0, 1) := by decide +kernel
theorem dX1_sizesOf_5 : decode cX1_sizesOf 5 = .ok (.iload_n 1, 1) := by decide +kernel
theorem dX1_sizesOf_6 : decode cX1_sizesOf 6 = .ok (.invokevirtual 57, 3) := by decide +kernel
theorem dX1_sizesOf_9 : decode cX1_sizesOf 9 = .ok (.invokevirtual 63, 3) := by decide +kernel
theorem dX1_sizesOf_12 : decode cX1_sizesOf 12 = .ok (.ireturn, 1) := by decide +kernel
theorem dX1_givenOn_0 : decode cX1_givenOn 0 = .ok (.aload_n 0, 1) := by decide +kernel
theorem dX1_givenOn_1 : decode cX1_givenOn 1 = .ok (.getfield 15, 3) := by decide +kernel
theorem dX1_givenOn_4 : decode cX1_givenOn 4 = .ok (.getfield 66, 3) := by decide +kernel
theorem dX1_givenOn_7 : decode cX1_givenOn 7 = .ok (.iload_n 1, 1) := by decide +kernel
theorem dX1_givenOn_8 : decode cX1_givenOn 8 = .ok (.invokestatic 28, 3) := by decide +kernel
theorem dX1_givenOn_11 : decode cX1_givenOn 11 = .ok (.istore_n 2, 1) := by decide +kernel
theorem dX1_givenOn_12 : decode cX1_givenOn 12 = .ok (.iload_n 2, 1) := by decide +kernel
theorem dX1_givenOn_13 : decode cX1_givenOn 13 = .ok (.iconst (-1), 1) := by decide +kernel
theorem dX1_givenOn_14 : decode cX1_givenOn 14 = .ok (.if_icmp .ne 5, 3) := by decide +kernel
theorem dX1_givenOn_17 : decode cX1_givenOn 17 = .ok (.iconst 0, 1) := by decide +kernel
theorem dX1_givenOn_18 : decode cX1_givenOn 18 = .ok (.ireturn, 1) := by decide +kernel
theorem dX1_givenOn_19 : decode cX1_givenOn 19 = .ok (.aload_n 0, 1) := by decide +kernel
theorem dX1_givenOn_20 : decode cX1_givenOn 20 = .ok (.getfield 11, 3) := by decide +kernel
theorem dX1_givenOn_23 : decode cX1_givenOn 23 = .ok (.iconst 1, 1) := by decide +kernel
theorem dX1_givenOn_24 : decode cX1_givenOn 24 = .ok (.iload_n 2, 1) := by decide +kernel
theorem dX1_givenOn_25 : decode cX1_givenOn 25 = .ok (.iadd, 1) := by decide +kernel
theorem dX1_givenOn_26 : decode cX1_givenOn 26 = .ok (.invokestatic 28, 3) := by decide +kernel
theorem dX1_givenOn_29 : decode cX1_givenOn 29 = .ok (.iconst 1, 1) := by decide +kernel
theorem dX1_givenOn_30 : decode cX1_givenOn 30 = .ok (.if_icmp .ne 17, 3) := by decide +kernel
theorem dX1_givenOn_33 : decode cX1_givenOn 33 = .ok (.aload_n 0, 1) := by decide +kernel
theorem dX1_givenOn_34 : decode cX1_givenOn 34 = .ok (.getfield 11, 3) := by decide +kernel
theorem dX1_givenOn_37 : decode cX1_givenOn 37 = .ok (.bipush 8, 2) := by decide +kernel
theorem dX1_givenOn_39 : decode cX1_givenOn 39 = .ok (.iload_n 2, 1) := by decide +kernel
theorem dX1_givenOn_40 : decode cX1_givenOn 40 = .ok (.iadd, 1) := by decide +kernel
theorem dX1_givenOn_41 : decode cX1_givenOn 41 = .ok (.invokestatic 28, 3) := by decide +kernel
theorem dX1_givenOn_44 : decode cX1_givenOn 44 = .ok (.goto 4, 3) := by decide +kernel
theorem dX1_givenOn_47 : decode cX1_givenOn 47 = .ok (.iconst (-1), 1) := by decide +kernel
theorem dX1_givenOn_48 : decode cX1_givenOn 48 = .ok (.ireturn, 1) := by decide +kernel
theorem dX1_ripeOn_0 : decode cX1_ripeOn 0 = .ok (.aload_n 0, 1) := by decide +kernel
theorem dX1_ripeOn_1 : decode cX1_ripeOn 1 = .ok (.iload_n 1, 1) := by decide +kernel
theorem dX1_ripeOn_2 : decode cX1_ripeOn 2 = .ok (.invokevirtual 69, 3) := by decide +kernel
theorem dX1_ripeOn_5 : decode cX1_ripeOn 5 = .ok (.istore_n 2, 1) := by decide +kernel
theorem dX1_ripeOn_6 : decode cX1_ripeOn 6 = .ok (.iload_n 2, 1) := by decide +kernel
theorem dX1_ripeOn_7 : decode cX1_ripeOn 7 = .ok (.iconst (-1), 1) := by decide +kernel
theorem dX1_ripeOn_8 : decode cX1_ripeOn 8 = .ok (.if_icmp .ne 7, 3) := by decide +kernel
theorem dX1_ripeOn_11 : decode cX1_ripeOn 11 = .ok (.iconst (-1), 1) := by decide +kernel
theorem dX1_ripeOn_12 : decode cX1_ripeOn 12 = .ok (.goto 22, 3) := by decide +kernel
theorem dX1_ripeOn_15 : decode cX1_ripeOn 15 = .ok (.aload_n 0, 1) := by decide +kernel
theorem dX1_ripeOn_16 : decode cX1_ripeOn 16 = .ok (.getfield 15, 3) := by decide +kernel
theorem dX1_ripeOn_19 : decode cX1_ripeOn 19 = .ok (.iload_n 2, 1) := by decide +kernel
theorem dX1_ripeOn_20 : decode cX1_ripeOn 20 = .ok (.aload_n 0, 1) := by decide +kernel
theorem dX1_ripeOn_21 : decode cX1_ripeOn 21 = .ok (.getfield 15, 3) := by decide +kernel
theorem dX1_ripeOn_24 : decode cX1_ripeOn 24 = .ok (.getfield 72, 3) := by decide +kernel
theorem dX1_ripeOn_27 : decode cX1_ripeOn 27 = .ok (.iload_n 1, 1) := by decide +kernel
theorem dX1_ripeOn_28 : decode cX1_ripeOn 28 = .ok (.invokestatic 28, 3) := by decide +kernel
theorem dX1_ripeOn_31 : decode cX1_ripeOn 31 = .ok (.invokevirtual 75, 3) := by decide +kernel
theorem dX1_ripeOn_34 : decode cX1_ripeOn 34 = .ok (.ireturn, 1) := by decide +kernel
theorem dX1_isRipe_0 : decode cX1_isRipe 0 = .ok (.aload_n 0, 1) := by decide +kernel
theorem dX1_isRipe_1 : decode cX1_isRipe 1 = .ok (.iload_n 1, 1) := by decide +kernel
theorem dX1_isRipe_2 : decode cX1_isRipe 2 = .ok (.invokevirtual 79, 3) := by decide +kernel
theorem dX1_isRipe_5 : decode cX1_isRipe 5 = .ok (.istore_n 2, 1) := by decide +kernel
theorem dX1_isRipe_6 : decode cX1_isRipe 6 = .ok (.iload_n 2, 1) := by decide +kernel
theorem dX1_isRipe_7 : decode cX1_isRipe 7 = .ok (.iconst (-1), 1) := by decide +kernel
theorem dX1_isRipe_8 : decode cX1_isRipe 8 = .ok (.if_icmp .eq 15, 3) := by decide +kernel
theorem dX1_isRipe_11 : decode cX1_isRipe 11 = .ok (.aload_n 0, 1) := by decide +kernel
theorem dX1_isRipe_12 : decode cX1_isRipe 12 = .ok (.invokevirtual 46, 3) := by decide +kernel
theorem dX1_isRipe_15 : decode cX1_isRipe 15 = .ok (.iload_n 2, 1) := by decide +kernel
theorem dX1_isRipe_16 : decode cX1_isRipe 16 = .ok (.if_icmp .lt 7, 3) := by decide +kernel
theorem dX1_isRipe_19 : decode cX1_isRipe 19 = .ok (.iconst 1, 1) := by decide +kernel
theorem dX1_isRipe_20 : decode cX1_isRipe 20 = .ok (.goto 4, 3) := by decide +kernel
theorem dX1_isRipe_23 : decode cX1_isRipe 23 = .ok (.iconst 0, 1) := by decide +kernel
theorem dX1_isRipe_24 : decode cX1_isRipe 24 = .ok (.ireturn, 1) := by decide +kernel
theorem dX1_mayBeKeptOn_0 : decode cX1_mayBeKeptOn 0 = .ok (.aload_n 0, 1) := by decide +kernel
theorem dX1_mayBeKeptOn_1 : decode cX1_mayBeKeptOn 1 = .ok (.iload_n 1, 1) := by decide +kernel
theorem dX1_mayBeKeptOn_2 : decode cX1_mayBeKeptOn 2 = .ok (.invokevirtual 79, 3) := by decide +kernel
theorem dX1_mayBeKeptOn_5 : decode cX1_mayBeKeptOn 5 = .ok (.istore_n 3, 1) := by decide +kernel
theorem dX1_mayBeKeptOn_6 : decode cX1_mayBeKeptOn 6 = .ok (.iload_n 3, 1) := by decide +kernel
theorem dX1_mayBeKeptOn_7 : decode cX1_mayBeKeptOn 7 = .ok (.iconst (-1), 1) := by decide +kernel
theorem dX1_mayBeKeptOn_8 : decode cX1_mayBeKeptOn 8 = .ok (.if_icmp .eq 29, 3) := by decide +kernel
theorem dX1_mayBeKeptOn_11 : decode cX1_mayBeKeptOn 11 = .ok (.iload_n 2, 1) := by decide +kernel
theorem dX1_mayBeKeptOn_12 : decode cX1_mayBeKeptOn 12 = .ok (.iload_n 3, 1) := by decide +kernel
theorem dX1_mayBeKeptOn_13 : decode cX1_mayBeKeptOn 13 = .ok (.if_icmp .lt 24, 3) := by decide +kernel
theorem dX1_mayBeKeptOn_16 : decode cX1_mayBeKeptOn 16 = .ok (.iload_n 2, 1) := by decide +kernel
theorem dX1_mayBeKeptOn_17 : decode cX1_mayBeKeptOn 17 = .ok (.iload_n 3, 1) := by decide +kernel
theorem dX1_mayBeKeptOn_18 : decode cX1_mayBeKeptOn 18 = .ok (.aload_n 0, 1) := by decide +kernel
theorem dX1_mayBeKeptOn_19 : decode cX1_mayBeKeptOn 19 = .ok (.getfield 15, 3) := by decide +kernel
theorem dX1_mayBeKeptOn_22 : decode cX1_mayBeKeptOn 22 = .ok (.getfield 82, 3) := by decide +kernel
theorem dX1_mayBeKeptOn_25 : decode cX1_mayBeKeptOn 25 = .ok (.iload_n 1, 1) := by decide +kernel
theorem dX1_mayBeKeptOn_26 : decode cX1_mayBeKeptOn 26 = .ok (.invokestatic 28, 3) := by decide +kernel
theorem dX1_mayBeKeptOn_29 : decode cX1_mayBeKeptOn 29 = .ok (.iadd, 1) := by decide +kernel
theorem dX1_mayBeKeptOn_30 : decode cX1_mayBeKeptOn 30 = .ok (.if_icmp .gt 7, 3) := by decide +kernel
theorem dX1_mayBeKeptOn_33 : decode cX1_mayBeKeptOn 33 = .ok (.iconst 1, 1) := by decide +kernel
theorem dX1_mayBeKeptOn_34 : decode cX1_mayBeKeptOn 34 = .ok (.goto 4, 3) := by decide +kernel
theorem dX1_mayBeKeptOn_37 : decode cX1_mayBeKeptOn 37 = .ok (.iconst 0, 1) := by decide +kernel
theorem dX1_mayBeKeptOn_38 : decode cX1_mayBeKeptOn 38 = .ok (.ireturn, 1) := by decide +kernel
theorem dX1_canKeep_0 : decode cX1_canKeep 0 = .ok (.aload_n 0, 1) := by decide +kernel
theorem dX1_canKeep_1 : decode cX1_canKeep 1 = .ok (.iload_n 1, 1) := by decide +kernel
theorem dX1_canKeep_2 : decode cX1_canKeep 2 = .ok (.invokevirtual 54, 3) := by decide +kernel
theorem dX1_canKeep_5 : decode cX1_canKeep 5 = .ok (.istore_n 2, 1) := by decide +kernel
theorem dX1_canKeep_6 : decode cX1_canKeep 6 = .ok (.aload_n 0, 1) := by decide +kernel
theorem dX1_canKeep_7 : decode cX1_canKeep 7 = .ok (.iload_n 1, 1) := by decide +kernel
theorem dX1_canKeep_8 : decode cX1_canKeep 8 = .ok (.invokevirtual 85, 3) := by decide +kernel
theorem dX1_canKeep_11 : decode cX1_canKeep 11 = .ok (.ifCond .eq 46, 3) := by decide +kernel
theorem dX1_canKeep_14 : decode cX1_canKeep 14 = .ok (.aload_n 0, 1) := by decide +kernel
theorem dX1_canKeep_15 : decode cX1_canKeep 15 = .ok (.iload_n 2, 1) := by decide +kernel
theorem dX1_canKeep_16 : decode cX1_canKeep 16 = .ok (.invokevirtual 88, 3) := by decide +kernel
theorem dX1_canKeep_19 : decode cX1_canKeep 19 = .ok (.aload_n 0, 1) := by decide +kernel
theorem dX1_canKeep_20 : decode cX1_canKeep 20 = .ok (.getfield 15, 3) := by decide +kernel
theorem dX1_canKeep_23 : decode cX1_canKeep 23 = .ok (.getfield 91, 3) := by decide +kernel
theorem dX1_canKeep_26 : decode cX1_canKeep 26 = .ok (.iload_n 1, 1) := by decide +kernel
theorem dX1_canKeep_27 : decode cX1_canKeep 27 = .ok (.invokestatic 28, 3) := by decide +kernel
theorem dX1_canKeep_30 : decode cX1_canKeep 30 = .ok (.if_icmp .ne 27, 3) := by decide +kernel
theorem dX1_canKeep_33 : decode cX1_canKeep 33 = .ok (.aload_n 0, 1) := by decide +kernel
theorem dX1_canKeep_34 : decode cX1_canKeep 34 = .ok (.iload_n 2, 1) := by decide +kernel
theorem dX1_canKeep_35 : decode cX1_canKeep 35 = .ok (.invokevirtual 94, 3) := by decide +kernel
theorem dX1_canKeep_38 : decode cX1_canKeep 38 = .ok (.ifCond .ne 19, 3) := by decide +kernel
theorem dX1_canKeep_41 : decode cX1_canKeep 41 = .ok (.aload_n 0, 1) := by decide +kernel
theorem dX1_canKeep_42 : decode cX1_canKeep 42 = .ok (.iload_n 1, 1) := by decide +kernel
theorem dX1_canKeep_43 : decode cX1_canKeep 43 = .ok (.aload_n 0, 1) := by decide +kernel
theorem dX1_canKeep_44 : decode cX1_canKeep 44 = .ok (.invokevirtual 46, 3) := by decide +kernel
theorem dX1_canKeep_47 : decode cX1_canKeep 47 = .ok (.invokevirtual 97, 3) := by decide +kernel
theorem dX1_canKeep_50 : decode cX1_canKeep 50 = .ok (.ifCond .eq 7, 3) := by decide +kernel
theorem dX1_canKeep_53 : decode cX1_canKeep 53 = .ok (.iconst 1, 1) := by decide +kernel
theorem dX1_canKeep_54 : decode cX1_canKeep 54 = .ok (.goto 4, 3) := by decide +kernel
theorem dX1_canKeep_57 : decode cX1_canKeep 57 = .ok (.iconst 0, 1) := by decide +kernel
theorem dX1_canKeep_58 : decode cX1_canKeep 58 = .ok (.ireturn, 1) := by decide +kernel
theorem dX1_dueOn_0 : decode cX1_dueOn 0 = .ok (.iconst 0, 1) := by decide +kernel
theorem dX1_dueOn_1 : decode cX1_dueOn 1 = .ok (.istore_n 3, 1) := by decide +kernel
theorem dX1_dueOn_2 : decode cX1_dueOn 2 = .ok (.iconst 0, 1) := by decide +kernel
theorem dX1_dueOn_3 : decode cX1_dueOn 3 = .ok (.istore 4, 2) := by decide +kernel
theorem dX1_dueOn_5 : decode cX1_dueOn 5 = .ok (.iload 4, 2) := by decide +kernel
theorem dX1_dueOn_7 : decode cX1_dueOn 7 = .ok (.aload_n 0, 1) := by decide +kernel
theorem dX1_dueOn_8 : decode cX1_dueOn 8 = .ok (.getfield 15, 3) := by decide +kernel
theorem dX1_dueOn_11 : decode cX1_dueOn 11 = .ok (.getfield 50, 3) := by decide +kernel
theorem dX1_dueOn_14 : decode cX1_dueOn 14 = .ok (.if_icmp .ge 46, 3) := by decide +kernel
theorem dX1_dueOn_17 : decode cX1_dueOn 17 = .ok (.iload_n 3, 1) := by decide +kernel
theorem dX1_dueOn_18 : decode cX1_dueOn 18 = .ok (.aload_n 0, 1) := by decide +kernel
theorem dX1_dueOn_19 : decode cX1_dueOn 19 = .ok (.iload 4, 2) := by decide +kernel
theorem dX1_dueOn_21 : decode cX1_dueOn 21 = .ok (.invokevirtual 85, 3) := by decide +kernel
theorem dX1_dueOn_24 : decode cX1_dueOn 24 = .ok (.ifCond .eq 27, 3) := by decide +kernel
theorem dX1_dueOn_27 : decode cX1_dueOn 27 = .ok (.aload_n 0, 1) := by decide +kernel
theorem dX1_dueOn_28 : decode cX1_dueOn 28 = .ok (.iload 4, 2) := by decide +kernel
theorem dX1_dueOn_30 : decode cX1_dueOn 30 = .ok (.invokevirtual 54, 3) := by decide +kernel
theorem dX1_dueOn_33 : decode cX1_dueOn 33 = .ok (.iload_n 1, 1) := by decide +kernel
theorem dX1_dueOn_34 : decode cX1_dueOn 34 = .ok (.if_icmp .ne 17, 3) := by decide +kernel
theorem dX1_dueOn_37 : decode cX1_dueOn 37 = .ok (.aload_n 0, 1) := by decide +kernel
theorem dX1_dueOn_38 : decode cX1_dueOn 38 = .ok (.iload 4, 2) := by decide +kernel
theorem dX1_dueOn_40 : decode cX1_dueOn 40 = .ok (.iload_n 2, 1) := by decide +kernel
theorem dX1_dueOn_41 : decode cX1_dueOn 41 = .ok (.invokevirtual 97, 3) := by decide +kernel
theorem dX1_dueOn_44 : decode cX1_dueOn 44 = .ok (.ifCond .eq 7, 3) := by decide +kernel
theorem dX1_dueOn_47 : decode cX1_dueOn 47 = .ok (.iconst 1, 1) := by decide +kernel
theorem dX1_dueOn_48 : decode cX1_dueOn 48 = .ok (.goto 4, 3) := by decide +kernel
theorem dX1_dueOn_51 : decode cX1_dueOn 51 = .ok (.iconst 0, 1) := by decide +kernel
theorem dX1_dueOn_52 : decode cX1_dueOn 52 = .ok (.iadd, 1) := by decide +kernel
theorem dX1_dueOn_53 : decode cX1_dueOn 53 = .ok (.istore_n 3, 1) := by decide +kernel
theorem dX1_dueOn_54 : decode cX1_dueOn 54 = .ok (.iinc 4 1, 3) := by decide +kernel
theorem dX1_dueOn_57 : decode cX1_dueOn 57 = .ok (.goto (-52), 3) := by decide +kernel
theorem dX1_dueOn_60 : decode cX1_dueOn 60 = .ok (.iload_n 3, 1) := by decide +kernel
theorem dX1_dueOn_61 : decode cX1_dueOn 61 = .ok (.ireturn, 1) := by decide +kernel
theorem dX1_end_0 : decode cX1_end 0 = .ok (.aload_n 0, 1) := by decide +kernel
theorem dX1_end_1 : decode cX1_end 1 = .ok (.getfield 11, 3) := by decide +kernel
theorem dX1_end_4 : decode cX1_end 4 = .ok (.iconst 1, 1) := by decide +kernel
theorem dX1_end_5 : decode cX1_end 5 = .ok (.iload_n 1, 1) := by decide +kernel
theorem dX1_end_6 : decode cX1_end 6 = .ok (.iadd, 1) := by decide +kernel
theorem dX1_end_7 : decode cX1_end 7 = .ok (.iload_n 2, 1) := by decide +kernel
theorem dX1_end_8 : decode cX1_end 8 = .ok (.invokestatic 19, 3) := by decide +kernel
theorem dX1_end_11 : decode cX1_end 11 = .ok (.aload_n 0, 1) := by decide +kernel
theorem dX1_end_12 : decode cX1_end 12 = .ok (.getfield 11, 3) := by decide +kernel
theorem dX1_end_15 : decode cX1_end 15 = .ok (.bipush 8, 2) := by decide +kernel
theorem dX1_end_17 : decode cX1_end 17 = .ok (.iload_n 1, 1) := by decide +kernel
theorem dX1_end_18 : decode cX1_end 18 = .ok (.iadd, 1) := by decide +kernel
theorem dX1_end_19 : decode cX1_end 19 = .ok (.iload_n 3, 1) := by decide +kernel
theorem dX1_end_20 : decode cX1_end 20 = .ok (.invokestatic 19, 3) := by decide +kernel
theorem dX1_end_23 : decode cX1_end 23 = .ok (.return_, 1) := by decide +kernel
theorem dX1_lose_0 : decode cX1_lose 0 = .ok (.bipush 28, 2) := by decide +kernel
theorem dX1_lose_2 : decode cX1_lose 2 = .ok (.aload_n 0, 1) := by decide +kernel
theorem dX1_lose_3 : decode cX1_lose 3 = .ok (.getfield 15, 3) := by decide +kernel
theorem dX1_lose_6 : decode cX1_lose 6 = .ok (.getfield 101, 3) := by decide +kernel
theorem dX1_lose_9 : decode cX1_lose 9 = .ok (.aload_n 0, 1) := by decide +kernel
theorem dX1_lose_10 : decode cX1_lose 10 = .ok (.iload_n 1, 1) := by decide +kernel
theorem dX1_lose_11 : decode cX1_lose 11 = .ok (.invokevirtual 54, 3) := by decide +kernel
theorem dX1_lose_14 : decode cX1_lose 14 = .ok (.invokestatic 28, 3) := by decide +kernel
theorem dX1_lose_17 : decode cX1_lose 17 = .ok (.iadd, 1) := by decide +kernel
theorem dX1_lose_18 : decode cX1_lose 18 = .ok (.istore 4, 2) := by decide +kernel
theorem dX1_lose_20 : decode cX1_lose 20 = .ok (.aload_n 0, 1) := by decide +kernel
theorem dX1_lose_21 : decode cX1_lose 21 = .ok (.getfield 11, 3) := by decide +kernel
theorem dX1_lose_24 : decode cX1_lose 24 = .ok (.iload 4, 2) := by decide +kernel
theorem dX1_lose_26 : decode cX1_lose 26 = .ok (.aload_n 0, 1) := by decide +kernel
theorem dX1_lose_27 : decode cX1_lose 27 = .ok (.getfield 11, 3) := by decide +kernel
theorem dX1_lose_30 : decode cX1_lose 30 = .ok (.iload 4, 2) := by decide +kernel
theorem dX1_lose_32 : decode cX1_lose 32 = .ok (.invokestatic 28, 3) := by decide +kernel
theorem dX1_lose_35 : decode cX1_lose 35 = .ok (.iload_n 3, 1) := by decide +kernel
theorem dX1_lose_36 : decode cX1_lose 36 = .ok (.iadd, 1) := by decide +kernel
theorem dX1_lose_37 : decode cX1_lose 37 = .ok (.invokestatic 19, 3) := by decide +kernel
theorem dX1_lose_40 : decode cX1_lose 40 = .ok (.aload_n 0, 1) := by decide +kernel
theorem dX1_lose_41 : decode cX1_lose 41 = .ok (.iload_n 1, 1) := by decide +kernel
theorem dX1_lose_42 : decode cX1_lose 42 = .ok (.iload_n 2, 1) := by decide +kernel
theorem dX1_lose_43 : decode cX1_lose 43 = .ok (.aload_n 0, 1) := by decide +kernel
theorem dX1_lose_44 : decode cX1_lose 44 = .ok (.invokevirtual 46, 3) := by decide +kernel
theorem dX1_lose_47 : decode cX1_lose 47 = .ok (.invokevirtual 104, 3) := by decide +kernel
theorem dX1_lose_50 : decode cX1_lose 50 = .ok (.iload_n 1, 1) := by decide +kernel
theorem dX1_lose_51 : decode cX1_lose 51 = .ok (.iconst 1, 1) := by decide +kernel
theorem dX1_lose_52 : decode cX1_lose 52 = .ok (.iadd, 1) := by decide +kernel
theorem dX1_lose_53 : decode cX1_lose 53 = .ok (.istore 5, 2) := by decide +kernel
theorem dX1_lose_55 : decode cX1_lose 55 = .ok (.iload 5, 2) := by decide +kernel
theorem dX1_lose_57 : decode cX1_lose 57 = .ok (.aload_n 0, 1) := by decide +kernel
theorem dX1_lose_58 : decode cX1_lose 58 = .ok (.getfield 15, 3) := by decide +kernel
theorem dX1_lose_61 : decode cX1_lose 61 = .ok (.getfield 50, 3) := by decide +kernel
theorem dX1_lose_64 : decode cX1_lose 64 = .ok (.if_icmp .ge 69, 3) := by decide +kernel
theorem dX1_lose_67 : decode cX1_lose 67 = .ok (.aload_n 0, 1) := by decide +kernel
theorem dX1_lose_68 : decode cX1_lose 68 = .ok (.getfield 15, 3) := by decide +kernel
theorem dX1_lose_71 : decode cX1_lose 71 = .ok (.getfield 66, 3) := by decide +kernel
theorem dX1_lose_74 : decode cX1_lose 74 = .ok (.iload 5, 2) := by decide +kernel
theorem dX1_lose_76 : decode cX1_lose 76 = .ok (.invokestatic 28, 3) := by decide +kernel
theorem dX1_lose_79 : decode cX1_lose 79 = .ok (.istore 6, 2) := by decide +kernel
theorem dX1_lose_81 : decode cX1_lose 81 = .ok (.aload_n 0, 1) := by decide +kernel
theorem dX1_lose_82 : decode cX1_lose 82 = .ok (.iload 5, 2) := by decide +kernel
theorem dX1_lose_84 : decode cX1_lose 84 = .ok (.invokevirtual 85, 3) := by decide +kernel
theorem dX1_lose_87 : decode cX1_lose 87 = .ok (.ifCond .eq 40, 3) := by decide +kernel
theorem dX1_lose_90 : decode cX1_lose 90 = .ok (.iload 6, 2) := by decide +kernel
theorem dX1_lose_92 : decode cX1_lose 92 = .ok (.iload_n 1, 1) := by decide +kernel
theorem dX1_lose_93 : decode cX1_lose 93 = .ok (.if_icmp .lt 34, 3) := by decide +kernel
theorem dX1_lose_96 : decode cX1_lose 96 = .ok (.aload_n 0, 1) := by decide +kernel
theorem dX1_lose_97 : decode cX1_lose 97 = .ok (.iload 6, 2) := by decide +kernel
theorem dX1_lose_99 : decode cX1_lose 99 = .ok (.invokevirtual 39, 3) := by decide +kernel
theorem dX1_lose_102 : decode cX1_lose 102 = .ok (.iconst 2, 1) := by decide +kernel
theorem dX1_lose_103 : decode cX1_lose 103 = .ok (.if_icmp .eq 13, 3) := by decide +kernel
theorem dX1_lose_106 : decode cX1_lose 106 = .ok (.aload_n 0, 1) := by decide +kernel
theorem dX1_lose_107 : decode cX1_lose 107 = .ok (.iload 6, 2) := by decide +kernel
theorem dX1_lose_109 : decode cX1_lose 109 = .ok (.invokevirtual 39, 3) := by decide +kernel
theorem dX1_lose_112 : decode cX1_lose 112 = .ok (.iconst 3, 1) := by decide +kernel
theorem dX1_lose_113 : decode cX1_lose 113 = .ok (.if_icmp .ne 14, 3) := by decide +kernel
theorem dX1_lose_116 : decode cX1_lose 116 = .ok (.aload_n 0, 1) := by decide +kernel
theorem dX1_lose_117 : decode cX1_lose 117 = .ok (.iload 5, 2) := by decide +kernel
theorem dX1_lose_119 : decode cX1_lose 119 = .ok (.iconst 3, 1) := by decide +kernel
theorem dX1_lose_120 : decode cX1_lose 120 = .ok (.aload_n 0, 1) := by decide +kernel
theorem dX1_lose_121 : decode cX1_lose 121 = .ok (.invokevirtual 46, 3) := by decide +kernel
theorem dX1_lose_124 : decode cX1_lose 124 = .ok (.invokevirtual 104, 3) := by decide +kernel
theorem dX1_lose_127 : decode cX1_lose 127 = .ok (.iinc 5 1, 3) := by decide +kernel
theorem dX1_lose_130 : decode cX1_lose 130 = .ok (.goto (-75), 3) := by decide +kernel
theorem dX1_lose_133 : decode cX1_lose 133 = .ok (.return_, 1) := by decide +kernel
theorem dX1_exchange_0 : decode cX1_exchange 0 = .ok (.aload_n 0, 1) := by decide +kernel
theorem dX1_exchange_1 : decode cX1_exchange 1 = .ok (.iload_n 1, 1) := by decide +kernel
theorem dX1_exchange_2 : decode cX1_exchange 2 = .ok (.invokevirtual 54, 3) := by decide +kernel
theorem dX1_exchange_5 : decode cX1_exchange 5 = .ok (.istore_n 3, 1) := by decide +kernel
theorem dX1_exchange_6 : decode cX1_exchange 6 = .ok (.aload_n 0, 1) := by decide +kernel
theorem dX1_exchange_7 : decode cX1_exchange 7 = .ok (.getfield 11, 3) := by decide +kernel
theorem dX1_exchange_10 : decode cX1_exchange 10 = .ok (.bipush 15, 2) := by decide +kernel
theorem dX1_exchange_12 : decode cX1_exchange 12 = .ok (.iload_n 1, 1) := by decide +kernel
theorem dX1_exchange_13 : decode cX1_exchange 13 = .ok (.iadd, 1) := by decide +kernel
theorem dX1_exchange_14 : decode cX1_exchange 14 = .ok (.aload_n 0, 1) := by decide +kernel
theorem dX1_exchange_15 : decode cX1_exchange 15 = .ok (.iload_n 2, 1) := by decide +kernel
theorem dX1_exchange_16 : decode cX1_exchange 16 = .ok (.invokevirtual 54, 3) := by decide +kernel
theorem dX1_exchange_19 : decode cX1_exchange 19 = .ok (.invokestatic 19, 3) := by decide +kernel
theorem dX1_exchange_22 : decode cX1_exchange 22 = .ok (.aload_n 0, 1) := by decide +kernel
theorem dX1_exchange_23 : decode cX1_exchange 23 = .ok (.getfield 11, 3) := by decide +kernel
theorem dX1_exchange_26 : decode cX1_exchange 26 = .ok (.bipush 15, 2) := by decide +kernel
theorem dX1_exchange_28 : decode cX1_exchange 28 = .ok (.iload_n 2, 1) := by decide +kernel
theorem dX1_exchange_29 : decode cX1_exchange 29 = .ok (.iadd, 1) := by decide +kernel
theorem dX1_exchange_30 : decode cX1_exchange 30 = .ok (.iload_n 3, 1) := by decide +kernel
theorem dX1_exchange_31 : decode cX1_exchange 31 = .ok (.invokestatic 19, 3) := by decide +kernel
theorem dX1_exchange_34 : decode cX1_exchange 34 = .ok (.return_, 1) := by decide +kernel
theorem dX1_depart_0 : decode cX1_depart 0 = .ok (.aload_n 0, 1) := by decide +kernel
theorem dX1_depart_1 : decode cX1_depart 1 = .ok (.getfield 15, 3) := by decide +kernel
theorem dX1_depart_4 : decode cX1_depart 4 = .ok (.aload_n 0, 1) := by decide +kernel
theorem dX1_depart_5 : decode cX1_depart 5 = .ok (.iload_n 1, 1) := by decide +kernel
theorem dX1_depart_6 : decode cX1_depart 6 = .ok (.invokevirtual 88, 3) := by decide +kernel
theorem dX1_depart_9 : decode cX1_depart 9 = .ok (.iload_n 2, 1) := by decide +kernel
theorem dX1_depart_10 : decode cX1_depart 10 = .ok (.invokevirtual 108, 3) := by decide +kernel
theorem dX1_depart_13 : decode cX1_depart 13 = .ok (.istore_n 3, 1) := by decide +kernel
theorem dX1_depart_14 : decode cX1_depart 14 = .ok (.aload_n 0, 1) := by decide +kernel
theorem dX1_depart_15 : decode cX1_depart 15 = .ok (.iload_n 1, 1) := by decide +kernel
theorem dX1_depart_16 : decode cX1_depart 16 = .ok (.invokevirtual 94, 3) := by decide +kernel
theorem dX1_depart_19 : decode cX1_depart 19 = .ok (.ifCond .ne 17, 3) := by decide +kernel
theorem dX1_depart_22 : decode cX1_depart 22 = .ok (.aload_n 0, 1) := by decide +kernel
theorem dX1_depart_23 : decode cX1_depart 23 = .ok (.iload_n 1, 1) := by decide +kernel
theorem dX1_depart_24 : decode cX1_depart 24 = .ok (.invokevirtual 88, 3) := by decide +kernel
theorem dX1_depart_27 : decode cX1_depart 27 = .ok (.iload_n 2, 1) := by decide +kernel
theorem dX1_depart_28 : decode cX1_depart 28 = .ok (.if_icmp .eq 8, 3) := by decide +kernel
theorem dX1_depart_31 : decode cX1_depart 31 = .ok (.iload_n 3, 1) := by decide +kernel
theorem dX1_depart_32 : decode cX1_depart 32 = .ok (.iconst (-1), 1) := by decide +kernel
theorem dX1_depart_33 : decode cX1_depart 33 = .ok (.if_icmp .ne 5, 3) := by decide +kernel
theorem dX1_depart_36 : decode cX1_depart 36 = .ok (.iconst 0, 1) := by decide +kernel
theorem dX1_depart_37 : decode cX1_depart 37 = .ok (.ireturn, 1) := by decide +kernel
theorem dX1_depart_38 : decode cX1_depart 38 = .ok (.aload_n 0, 1) := by decide +kernel
theorem dX1_depart_39 : decode cX1_depart 39 = .ok (.iload_n 1, 1) := by decide +kernel
theorem dX1_depart_40 : decode cX1_depart 40 = .ok (.iload_n 2, 1) := by decide +kernel
theorem dX1_depart_41 : decode cX1_depart 41 = .ok (.aload_n 0, 1) := by decide +kernel
theorem dX1_depart_42 : decode cX1_depart 42 = .ok (.invokevirtual 46, 3) := by decide +kernel
theorem dX1_depart_45 : decode cX1_depart 45 = .ok (.iload_n 3, 1) := by decide +kernel
theorem dX1_depart_46 : decode cX1_depart 46 = .ok (.iadd, 1) := by decide +kernel
theorem dX1_depart_47 : decode cX1_depart 47 = .ok (.invokevirtual 111, 3) := by decide +kernel
theorem dX1_depart_50 : decode cX1_depart 50 = .ok (.iconst 1, 1) := by decide +kernel
theorem dX1_depart_51 : decode cX1_depart 51 = .ok (.ireturn, 1) := by decide +kernel
theorem dX1_sendTo_0 : decode cX1_sendTo 0 = .ok (.aload_n 0, 1) := by decide +kernel
theorem dX1_sendTo_1 : decode cX1_sendTo 1 = .ok (.getfield 11, 3) := by decide +kernel
theorem dX1_sendTo_4 : decode cX1_sendTo 4 = .ok (.bipush 22, 2) := by decide +kernel
theorem dX1_sendTo_6 : decode cX1_sendTo 6 = .ok (.iload_n 1, 1) := by decide +kernel
theorem dX1_sendTo_7 : decode cX1_sendTo 7 = .ok (.iadd, 1) := by decide +kernel
theorem dX1_sendTo_8 : decode cX1_sendTo 8 = .ok (.iload_n 2, 1) := by decide +kernel
theorem dX1_sendTo_9 : decode cX1_sendTo 9 = .ok (.invokestatic 19, 3) := by decide +kernel
theorem dX1_sendTo_12 : decode cX1_sendTo 12 = .ok (.aload_n 0, 1) := by decide +kernel
theorem dX1_sendTo_13 : decode cX1_sendTo 13 = .ok (.getfield 11, 3) := by decide +kernel
theorem dX1_sendTo_16 : decode cX1_sendTo 16 = .ok (.bipush 25, 2) := by decide +kernel
theorem dX1_sendTo_18 : decode cX1_sendTo 18 = .ok (.iload_n 1, 1) := by decide +kernel
theorem dX1_sendTo_19 : decode cX1_sendTo 19 = .ok (.iadd, 1) := by decide +kernel
theorem dX1_sendTo_20 : decode cX1_sendTo 20 = .ok (.iload_n 3, 1) := by decide +kernel
theorem dX1_sendTo_21 : decode cX1_sendTo 21 = .ok (.invokestatic 19, 3) := by decide +kernel
theorem dX1_sendTo_24 : decode cX1_sendTo 24 = .ok (.return_, 1) := by decide +kernel
theorem dX1_pass_0 : decode cX1_pass 0 = .ok (.iconst 0, 1) := by decide +kernel
theorem dX1_pass_1 : decode cX1_pass 1 = .ok (.istore_n 1, 1) := by decide +kernel
theorem dX1_pass_2 : decode cX1_pass 2 = .ok (.iload_n 1, 1) := by decide +kernel
theorem dX1_pass_3 : decode cX1_pass 3 = .ok (.aload_n 0, 1) := by decide +kernel
theorem dX1_pass_4 : decode cX1_pass 4 = .ok (.getfield 15, 3) := by decide +kernel
theorem dX1_pass_7 : decode cX1_pass 7 = .ok (.getfield 50, 3) := by decide +kernel
theorem dX1_pass_10 : decode cX1_pass 10 = .ok (.if_icmp .ge 65, 3) := by decide +kernel
theorem dX1_pass_13 : decode cX1_pass 13 = .ok (.aload_n 0, 1) := by decide +kernel
theorem dX1_pass_14 : decode cX1_pass 14 = .ok (.iload_n 1, 1) := by decide +kernel
theorem dX1_pass_15 : decode cX1_pass 15 = .ok (.invokevirtual 79, 3) := by decide +kernel
theorem dX1_pass_18 : decode cX1_pass 18 = .ok (.istore_n 2, 1) := by decide +kernel
theorem dX1_pass_19 : decode cX1_pass 19 = .ok (.aload_n 0, 1) := by decide +kernel
theorem dX1_pass_20 : decode cX1_pass 20 = .ok (.iload_n 1, 1) := by decide +kernel
theorem dX1_pass_21 : decode cX1_pass 21 = .ok (.invokevirtual 85, 3) := by decide +kernel
theorem dX1_pass_24 : decode cX1_pass 24 = .ok (.ifCond .eq 45, 3) := by decide +kernel
theorem dX1_pass_27 : decode cX1_pass 27 = .ok (.iload_n 2, 1) := by decide +kernel
theorem dX1_pass_28 : decode cX1_pass 28 = .ok (.iconst (-1), 1) := by decide +kernel
theorem dX1_pass_29 : decode cX1_pass 29 = .ok (.if_icmp .eq 40, 3) := by decide +kernel
theorem dX1_pass_32 : decode cX1_pass 32 = .ok (.aload_n 0, 1) := by decide +kernel
theorem dX1_pass_33 : decode cX1_pass 33 = .ok (.invokevirtual 46, 3) := by decide +kernel
theorem dX1_pass_36 : decode cX1_pass 36 = .ok (.iload_n 2, 1) := by decide +kernel
theorem dX1_pass_37 : decode cX1_pass 37 = .ok (.aload_n 0, 1) := by decide +kernel
theorem dX1_pass_38 : decode cX1_pass 38 = .ok (.getfield 15, 3) := by decide +kernel
theorem dX1_pass_41 : decode cX1_pass 41 = .ok (.getfield 82, 3) := by decide +kernel
theorem dX1_pass_44 : decode cX1_pass 44 = .ok (.iload_n 1, 1) := by decide +kernel
theorem dX1_pass_45 : decode cX1_pass 45 = .ok (.invokestatic 28, 3) := by decide +kernel
theorem dX1_pass_48 : decode cX1_pass 48 = .ok (.iadd, 1) := by decide +kernel
theorem dX1_pass_49 : decode cX1_pass 49 = .ok (.if_icmp .lt 20, 3) := by decide +kernel
theorem dX1_pass_52 : decode cX1_pass 52 = .ok (.aload_n 0, 1) := by decide +kernel
theorem dX1_pass_53 : decode cX1_pass 53 = .ok (.iload_n 1, 1) := by decide +kernel
theorem dX1_pass_54 : decode cX1_pass 54 = .ok (.iconst 2, 1) := by decide +kernel
theorem dX1_pass_55 : decode cX1_pass 55 = .ok (.aload_n 0, 1) := by decide +kernel
theorem dX1_pass_56 : decode cX1_pass 56 = .ok (.getfield 15, 3) := by decide +kernel
theorem dX1_pass_59 : decode cX1_pass 59 = .ok (.getfield 114, 3) := by decide +kernel
theorem dX1_pass_62 : decode cX1_pass 62 = .ok (.iload_n 1, 1) := by decide +kernel
theorem dX1_pass_63 : decode cX1_pass 63 = .ok (.invokestatic 28, 3) := by decide +kernel
theorem dX1_pass_66 : decode cX1_pass 66 = .ok (.invokevirtual 117, 3) := by decide +kernel
theorem dX1_pass_69 : decode cX1_pass 69 = .ok (.iinc 1 1, 3) := by decide +kernel
theorem dX1_pass_72 : decode cX1_pass 72 = .ok (.goto (-70), 3) := by decide +kernel
theorem dX1_pass_75 : decode cX1_pass 75 = .ok (.aload_n 0, 1) := by decide +kernel
theorem dX1_pass_76 : decode cX1_pass 76 = .ok (.getfield 11, 3) := by decide +kernel
theorem dX1_pass_79 : decode cX1_pass 79 = .ok (.iconst 0, 1) := by decide +kernel
theorem dX1_pass_80 : decode cX1_pass 80 = .ok (.aload_n 0, 1) := by decide +kernel
theorem dX1_pass_81 : decode cX1_pass 81 = .ok (.invokevirtual 46, 3) := by decide +kernel
theorem dX1_pass_84 : decode cX1_pass 84 = .ok (.iconst 1, 1) := by decide +kernel
theorem dX1_pass_85 : decode cX1_pass 85 = .ok (.iadd, 1) := by decide +kernel
theorem dX1_pass_86 : decode cX1_pass 86 = .ok (.invokestatic 19, 3) := by decide +kernel
theorem dX1_pass_89 : decode cX1_pass 89 = .ok (.return_, 1) := by decide +kernel
theorem dX2_init_0 : decode cX2_init 0 = .ok (.aload_n 0, 1) := by decide +kernel
theorem dX2_init_1 : decode cX2_init 1 = .ok (.invokespecial 1, 3) := by decide +kernel
theorem dX2_init_4 : decode cX2_init 4 = .ok (.return_, 1) := by decide +kernel
theorem dX2_draw_0 : decode cX2_draw 0 = .ok (.aload_n 0, 1) := by decide +kernel
theorem dX2_draw_1 : decode cX2_draw 1 = .ok (.aload_n 0, 1) := by decide +kernel
theorem dX2_draw_2 : decode cX2_draw 2 = .ok (.getfield 7, 3) := by decide +kernel
theorem dX2_draw_5 : decode cX2_draw 5 = .ok (.i2l, 1) := by decide +kernel
theorem dX2_draw_6 : decode cX2_draw 6 = .ok (.ldc2_w 13, 3) := by decide +kernel
theorem dX2_draw_9 : decode cX2_draw 9 = .ok (.lmul, 1) := by decide +kernel
theorem dX2_draw_10 : decode cX2_draw 10 = .ok (.ldc2_w 15, 3) := by decide +kernel
theorem dX2_draw_13 : decode cX2_draw 13 = .ok (.ladd, 1) := by decide +kernel
theorem dX2_draw_14 : decode cX2_draw 14 = .ok (.ldc2_w 17, 3) := by decide +kernel
theorem dX2_draw_17 : decode cX2_draw 17 = .ok (.land, 1) := by decide +kernel
theorem dX2_draw_18 : decode cX2_draw 18 = .ok (.l2i, 1) := by decide +kernel
theorem dX2_draw_19 : decode cX2_draw 19 = .ok (.putfield 7, 3) := by decide +kernel
theorem dX2_draw_22 : decode cX2_draw 22 = .ok (.iload_n 1, 1) := by decide +kernel
theorem dX2_draw_23 : decode cX2_draw 23 = .ok (.ifCond .gt 7, 3) := by decide +kernel
theorem dX2_draw_26 : decode cX2_draw 26 = .ok (.iconst 0, 1) := by decide +kernel
theorem dX2_draw_27 : decode cX2_draw 27 = .ok (.goto 12, 3) := by decide +kernel
theorem dX2_draw_30 : decode cX2_draw 30 = .ok (.aload_n 0, 1) := by decide +kernel
theorem dX2_draw_31 : decode cX2_draw 31 = .ok (.getfield 7, 3) := by decide +kernel
theorem dX2_draw_34 : decode cX2_draw 34 = .ok (.ldc 19, 2) := by decide +kernel
theorem dX2_draw_36 : decode cX2_draw 36 = .ok (.idiv, 1) := by decide +kernel
theorem dX2_draw_37 : decode cX2_draw 37 = .ok (.iload_n 1, 1) := by decide +kernel
theorem dX2_draw_38 : decode cX2_draw 38 = .ok (.irem, 1) := by decide +kernel
theorem dX2_draw_39 : decode cX2_draw 39 = .ok (.ireturn, 1) := by decide +kernel
theorem dX3_init_0 : decode cX3_init 0 = .ok (.aload_n 0, 1) := by decide +kernel
theorem dX3_init_1 : decode cX3_init 1 = .ok (.invokespecial 3, 3) := by decide +kernel
theorem dX3_init_4 : decode cX3_init 4 = .ok (.aload_n 0, 1) := by decide +kernel
theorem dX3_init_5 : decode cX3_init 5 = .ok (.sipush 128, 3) := by decide +kernel
theorem dX3_init_8 : decode cX3_init 8 = .ok (.newarray .int, 2) := by decide +kernel
theorem dX3_init_10 : decode cX3_init 10 = .ok (.putfield 9, 3) := by decide +kernel
theorem dX3_init_13 : decode cX3_init 13 = .ok (.aload_n 0, 1) := by decide +kernel
theorem dX3_init_14 : decode cX3_init 14 = .ok (.iconst 3, 1) := by decide +kernel
theorem dX3_init_15 : decode cX3_init 15 = .ok (.newarray .int, 2) := by decide +kernel
theorem dX3_init_17 : decode cX3_init 17 = .ok (.putfield 15, 3) := by decide +kernel
theorem dX3_init_20 : decode cX3_init 20 = .ok (.aload_n 0, 1) := by decide +kernel
theorem dX3_init_21 : decode cX3_init 21 = .ok (.bipush 7, 2) := by decide +kernel
theorem dX3_init_23 : decode cX3_init 23 = .ok (.newarray .int, 2) := by decide +kernel
theorem dX3_init_25 : decode cX3_init 25 = .ok (.putfield 18, 3) := by decide +kernel
theorem dX3_init_28 : decode cX3_init 28 = .ok (.aload_n 0, 1) := by decide +kernel
theorem dX3_init_29 : decode cX3_init 29 = .ok (.bipush 7, 2) := by decide +kernel
theorem dX3_init_31 : decode cX3_init 31 = .ok (.newarray .int, 2) := by decide +kernel
theorem dX3_init_33 : decode cX3_init 33 = .ok (.putfield 21, 3) := by decide +kernel
theorem dX3_init_36 : decode cX3_init 36 = .ok (.aload_n 0, 1) := by decide +kernel
theorem dX3_init_37 : decode cX3_init 37 = .ok (.aload_n 1, 1) := by decide +kernel
theorem dX3_init_38 : decode cX3_init 38 = .ok (.putfield 24, 3) := by decide +kernel
theorem dX3_init_41 : decode cX3_init 41 = .ok (.aload_n 0, 1) := by decide +kernel
theorem dX3_init_42 : decode cX3_init 42 = .ok (.aload_n 2, 1) := by decide +kernel
theorem dX3_init_43 : decode cX3_init 43 = .ok (.putfield 28, 3) := by decide +kernel
theorem dX3_init_46 : decode cX3_init 46 = .ok (.aload_n 0, 1) := by decide +kernel
theorem dX3_init_47 : decode cX3_init 47 = .ok (.aload_n 3, 1) := by decide +kernel
theorem dX3_init_48 : decode cX3_init 48 = .ok (.putfield 32, 3) := by decide +kernel
theorem dX3_init_51 : decode cX3_init 51 = .ok (.return_, 1) := by decide +kernel
theorem dX3_fewest_0 : decode cX3_fewest 0 = .ok (.iconst 1, 1) := by decide +kernel
theorem dX3_fewest_1 : decode cX3_fewest 1 = .ok (.istore_n 1, 1) := by decide +kernel
theorem dX3_fewest_2 : decode cX3_fewest 2 = .ok (.iconst 0, 1) := by decide +kernel
theorem dX3_fewest_3 : decode cX3_fewest 3 = .ok (.istore_n 2, 1) := by decide +kernel
theorem dX3_fewest_4 : decode cX3_fewest 4 = .ok (.iload_n 2, 1) := by decide +kernel
theorem dX3_fewest_5 : decode cX3_fewest 5 = .ok (.aload_n 0, 1) := by decide +kernel
theorem dX3_fewest_6 : decode cX3_fewest 6 = .ok (.getfield 28, 3) := by decide +kernel
theorem dX3_fewest_9 : decode cX3_fewest 9 = .ok (.iconst 0, 1) := by decide +kernel
theorem dX3_fewest_10 : decode cX3_fewest 10 = .ok (.invokevirtual 36, 3) := by decide +kernel
theorem dX3_fewest_13 : decode cX3_fewest 13 = .ok (.invokestatic 42, 3) := by decide +kernel
theorem dX3_fewest_16 : decode cX3_fewest 16 = .ok (.if_icmp .ge 19, 3) := by decide +kernel
theorem dX3_fewest_19 : decode cX3_fewest 19 = .ok (.iload_n 1, 1) := by decide +kernel
theorem dX3_fewest_20 : decode cX3_fewest 20 = .ok (.aload_n 0, 1) := by decide +kernel
theorem dX3_fewest_21 : decode cX3_fewest 21 = .ok (.getfield 24, 3) := by decide +kernel
theorem dX3_fewest_24 : decode cX3_fewest 24 = .ok (.getfield 47, 3) := by decide +kernel
theorem dX3_fewest_27 : decode cX3_fewest 27 = .ok (.imul, 1) := by decide +kernel
theorem dX3_fewest_28 : decode cX3_fewest 28 = .ok (.istore_n 1, 1) := by decide +kernel
theorem dX3_fewest_29 : decode cX3_fewest 29 = .ok (.iinc 2 1, 3) := by decide +kernel
theorem dX3_fewest_32 : decode cX3_fewest 32 = .ok (.goto (-28), 3) := by decide +kernel
theorem dX3_fewest_35 : decode cX3_fewest 35 = .ok (.iconst (-1), 1) := by decide +kernel
theorem dX3_fewest_36 : decode cX3_fewest 36 = .ok (.istore_n 2, 1) := by decide +kernel
theorem dX3_fewest_37 : decode cX3_fewest 37 = .ok (.iconst 0, 1) := by decide +kernel
theorem dX3_fewest_38 : decode cX3_fewest 38 = .ok (.istore_n 3, 1) := by decide +kernel
theorem dX3_fewest_39 : decode cX3_fewest 39 = .ok (.iload_n 3, 1) := by decide +kernel
theorem dX3_fewest_40 : decode cX3_fewest 40 = .ok (.iload_n 1, 1) := by decide +kernel
theorem dX3_fewest_41 : decode cX3_fewest 41 = .ok (.if_icmp .ge 48, 3) := by decide +kernel
theorem dX3_fewest_44 : decode cX3_fewest 44 = .ok (.aload_n 0, 1) := by decide +kernel
theorem dX3_fewest_45 : decode cX3_fewest 45 = .ok (.iload_n 3, 1) := by decide +kernel
theorem dX3_fewest_46 : decode cX3_fewest 46 = .ok (.invokevirtual 53, 3) := by decide +kernel
theorem dX3_fewest_49 : decode cX3_fewest 49 = .ok (.istore 4, 2) := by decide +kernel
theorem dX3_fewest_51 : decode cX3_fewest 51 = .ok (.iload_n 2, 1) := by decide +kernel
theorem dX3_fewest_52 : decode cX3_fewest 52 = .ok (.iconst (-1), 1) := by decide +kernel
theorem dX3_fewest_53 : decode cX3_fewest 53 = .ok (.if_icmp .eq 9, 3) := by decide +kernel
theorem dX3_fewest_56 : decode cX3_fewest 56 = .ok (.iload 4, 2) := by decide +kernel
theorem dX3_fewest_58 : decode cX3_fewest 58 = .ok (.iload_n 2, 1) := by decide +kernel
theorem dX3_fewest_59 : decode cX3_fewest 59 = .ok (.if_icmp .ge 24, 3) := by decide +kernel
theorem dX3_fewest_62 : decode cX3_fewest 62 = .ok (.aload_n 0, 1) := by decide +kernel
theorem dX3_fewest_63 : decode cX3_fewest 63 = .ok (.invokevirtual 56, 3) := by decide +kernel
theorem dX3_fewest_66 : decode cX3_fewest 66 = .ok (.ifCond .eq 17, 3) := by decide +kernel
theorem dX3_fewest_69 : decode cX3_fewest 69 = .ok (.iload 4, 2) := by decide +kernel
theorem dX3_fewest_71 : decode cX3_fewest 71 = .ok (.istore_n 2, 1) := by decide +kernel
theorem dX3_fewest_72 : decode cX3_fewest 72 = .ok (.aload_n 0, 1) := by decide +kernel
theorem dX3_fewest_73 : decode cX3_fewest 73 = .ok (.getfield 18, 3) := by decide +kernel
theorem dX3_fewest_76 : decode cX3_fewest 76 = .ok (.aload_n 0, 1) := by decide +kernel
theorem dX3_fewest_77 : decode cX3_fewest 77 = .ok (.getfield 21, 3) := by decide +kernel
theorem dX3_fewest_80 : decode cX3_fewest 80 = .ok (.invokestatic 60, 3) := by decide +kernel
theorem dX3_fewest_83 : decode cX3_fewest 83 = .ok (.iinc 3 1, 3) := by decide +kernel
theorem dX3_fewest_86 : decode cX3_fewest 86 = .ok (.goto (-47), 3) := by decide +kernel
theorem dX3_fewest_89 : decode cX3_fewest 89 = .ok (.iload_n 2, 1) := by decide +kernel
theorem dX3_fewest_90 : decode cX3_fewest 90 = .ok (.ireturn, 1) := by decide +kernel
theorem dX3_fillFits_0 : decode cX3_fillFits 0 = .ok (.aload_n 0, 1) := by decide +kernel
theorem dX3_fillFits_1 : decode cX3_fillFits 1 = .ok (.getfield 28, 3) := by decide +kernel
theorem dX3_fillFits_4 : decode cX3_fillFits 4 = .ok (.iconst 0, 1) := by decide +kernel
theorem dX3_fillFits_5 : decode cX3_fillFits 5 = .ok (.invokevirtual 36, 3) := by decide +kernel
theorem dX3_fillFits_8 : decode cX3_fillFits 8 = .ok (.istore_n 1, 1) := by decide +kernel
theorem dX3_fillFits_9 : decode cX3_fillFits 9 = .ok (.iconst 0, 1) := by decide +kernel
theorem dX3_fillFits_10 : decode cX3_fillFits 10 = .ok (.istore_n 2, 1) := by decide +kernel
theorem dX3_fillFits_11 : decode cX3_fillFits 11 = .ok (.iload_n 2, 1) := by decide +kernel
theorem dX3_fillFits_12 : decode cX3_fillFits 12 = .ok (.aload_n 0, 1) := by decide +kernel
theorem dX3_fillFits_13 : decode cX3_fillFits 13 = .ok (.getfield 9, 3) := by decide +kernel
theorem dX3_fillFits_16 : decode cX3_fillFits 16 = .ok (.arraylength, 1) := by decide +kernel
theorem dX3_fillFits_17 : decode cX3_fillFits 17 = .ok (.if_icmp .ge 72, 3) := by decide +kernel
theorem dX3_fillFits_20 : decode cX3_fillFits 20 = .ok (.iconst 0, 1) := by decide +kernel
theorem dX3_fillFits_21 : decode cX3_fillFits 21 = .ok (.istore_n 3, 1) := by decide +kernel
theorem dX3_fillFits_22 : decode cX3_fillFits 22 = .ok (.iconst 0, 1) := by decide +kernel
theorem dX3_fillFits_23 : decode cX3_fillFits 23 = .ok (.istore 4, 2) := by decide +kernel
theorem dX3_fillFits_25 : decode cX3_fillFits 25 = .ok (.iload 4, 2) := by decide +kernel
theorem dX3_fillFits_27 : decode cX3_fillFits 27 = .ok (.aload_n 0, 1) := by decide +kernel
theorem dX3_fillFits_28 : decode cX3_fillFits 28 = .ok (.getfield 24, 3) := by decide +kernel
theorem dX3_fillFits_31 : decode cX3_fillFits 31 = .ok (.getfield 47, 3) := by decide +kernel
theorem dX3_fillFits_34 : decode cX3_fillFits 34 = .ok (.if_icmp .ge 42, 3) := by decide +kernel
theorem dX3_fillFits_37 : decode cX3_fillFits 37 = .ok (.iload_n 2, 1) := by decide +kernel
theorem dX3_fillFits_38 : decode cX3_fillFits 38 = .ok (.iload_n 1, 1) := by decide +kernel
theorem dX3_fillFits_39 : decode cX3_fillFits 39 = .ok (.iconst (-1), 1) := by decide +kernel
theorem dX3_fillFits_40 : decode cX3_fillFits 40 = .ok (.ixor, 1) := by decide +kernel
theorem dX3_fillFits_41 : decode cX3_fillFits 41 = .ok (.iand, 1) := by decide +kernel
theorem dX3_fillFits_42 : decode cX3_fillFits 42 = .ok (.ifCond .ne 34, 3) := by decide +kernel
theorem dX3_fillFits_45 : decode cX3_fillFits 45 = .ok (.iload_n 3, 1) := by decide +kernel
theorem dX3_fillFits_46 : decode cX3_fillFits 46 = .ok (.aload_n 0, 1) := by decide +kernel
theorem dX3_fillFits_47 : decode cX3_fillFits 47 = .ok (.getfield 32, 3) := by decide +kernel
theorem dX3_fillFits_50 : decode cX3_fillFits 50 = .ok (.iload 4, 2) := by decide +kernel
theorem dX3_fillFits_52 : decode cX3_fillFits 52 = .ok (.iload_n 2, 1) := by decide +kernel
theorem dX3_fillFits_53 : decode cX3_fillFits 53 = .ok (.iconst 1, 1) := by decide +kernel
theorem dX3_fillFits_54 : decode cX3_fillFits 54 = .ok (.invokevirtual 64, 3) := by decide +kernel
theorem dX3_fillFits_57 : decode cX3_fillFits 57 = .ok (.ifCond .eq 10, 3) := by decide +kernel
theorem dX3_fillFits_60 : decode cX3_fillFits 60 = .ok (.iconst 1, 1) := by decide +kernel
theorem dX3_fillFits_61 : decode cX3_fillFits 61 = .ok (.iload 4, 2) := by decide +kernel
theorem dX3_fillFits_63 : decode cX3_fillFits 63 = .ok (.ishl, 1) := by decide +kernel
theorem dX3_fillFits_64 : decode cX3_fillFits 64 = .ok (.goto 4, 3) := by decide +kernel
theorem dX3_fillFits_67 : decode cX3_fillFits 67 = .ok (.iconst 0, 1) := by decide +kernel
theorem dX3_fillFits_68 : decode cX3_fillFits 68 = .ok (.ior, 1) := by decide +kernel
theorem dX3_fillFits_69 : decode cX3_fillFits 69 = .ok (.istore_n 3, 1) := by decide +kernel
theorem dX3_fillFits_70 : decode cX3_fillFits 70 = .ok (.iinc 4 1, 3) := by decide +kernel
theorem dX3_fillFits_73 : decode cX3_fillFits 73 = .ok (.goto (-48), 3) := by decide +kernel
theorem dX3_fillFits_76 : decode cX3_fillFits 76 = .ok (.aload_n 0, 1) := by decide +kernel
theorem dX3_fillFits_77 : decode cX3_fillFits 77 = .ok (.getfield 9, 3) := by decide +kernel
theorem dX3_fillFits_80 : decode cX3_fillFits 80 = .ok (.iload_n 2, 1) := by decide +kernel
theorem dX3_fillFits_81 : decode cX3_fillFits 81 = .ok (.iload_n 3, 1) := by decide +kernel
theorem dX3_fillFits_82 : decode cX3_fillFits 82 = .ok (.iastore, 1) := by decide +kernel
theorem dX3_fillFits_83 : decode cX3_fillFits 83 = .ok (.iinc 2 1, 3) := by decide +kernel
theorem dX3_fillFits_86 : decode cX3_fillFits 86 = .ok (.goto (-75), 3) := by decide +kernel
theorem dX3_fillFits_89 : decode cX3_fillFits 89 = .ok (.return_, 1) := by decide +kernel
theorem dX3_giveBy_0 : decode cX3_giveBy 0 = .ok (.iconst 0, 1) := by decide +kernel
theorem dX3_giveBy_1 : decode cX3_giveBy 1 = .ok (.istore_n 2, 1) := by decide +kernel
theorem dX3_giveBy_2 : decode cX3_giveBy 2 = .ok (.iload_n 2, 1) := by decide +kernel
theorem dX3_giveBy_3 : decode cX3_giveBy 3 = .ok (.iconst 3, 1) := by decide +kernel
theorem dX3_giveBy_4 : decode cX3_giveBy 4 = .ok (.if_icmp .ge 18, 3) := by decide +kernel
theorem dX3_giveBy_7 : decode cX3_giveBy 7 = .ok (.aload_n 0, 1) := by decide +kernel
theorem dX3_giveBy_8 : decode cX3_giveBy 8 = .ok (.getfield 15, 3) := by decide +kernel
theorem dX3_giveBy_11 : decode cX3_giveBy 11 = .ok (.iload_n 2, 1) := by decide +kernel
theorem dX3_giveBy_12 : decode cX3_giveBy 12 = .ok (.iconst 0, 1) := by decide +kernel
theorem dX3_giveBy_13 : decode cX3_giveBy 13 = .ok (.invokestatic 70, 3) := by decide +kernel
theorem dX3_giveBy_16 : decode cX3_giveBy 16 = .ok (.iinc 2 1, 3) := by decide +kernel
theorem dX3_giveBy_19 : decode cX3_giveBy 19 = .ok (.goto (-17), 3) := by decide +kernel
theorem dX3_giveBy_22 : decode cX3_giveBy 22 = .ok (.iconst 0, 1) := by decide +kernel
theorem dX3_giveBy_23 : decode cX3_giveBy 23 = .ok (.istore_n 2, 1) := by decide +kernel
theorem dX3_giveBy_24 : decode cX3_giveBy 24 = .ok (.iload_n 1, 1) := by decide +kernel
theorem dX3_giveBy_25 : decode cX3_giveBy 25 = .ok (.istore_n 3, 1) := by decide +kernel
theorem dX3_giveBy_26 : decode cX3_giveBy 26 = .ok (.aload_n 0, 1) := by decide +kernel
theorem dX3_giveBy_27 : decode cX3_giveBy 27 = .ok (.getfield 24, 3) := by decide +kernel
theorem dX3_giveBy_30 : decode cX3_giveBy 30 = .ok (.getfield 74, 3) := by decide +kernel
theorem dX3_giveBy_33 : decode cX3_giveBy 33 = .ok (.iconst 1, 1) := by decide +kernel
theorem dX3_giveBy_34 : decode cX3_giveBy 34 = .ok (.isub, 1) := by decide +kernel
theorem dX3_giveBy_35 : decode cX3_giveBy 35 = .ok (.istore 4, 2) := by decide +kernel
theorem dX3_giveBy_37 : decode cX3_giveBy 37 = .ok (.iload 4, 2) := by decide +kernel
theorem dX3_giveBy_39 : decode cX3_giveBy 39 = .ok (.ifCond .lt 119, 3) := by decide +kernel
theorem dX3_giveBy_42 : decode cX3_giveBy 42 = .ok (.aload_n 0, 1) := by decide +kernel
theorem dX3_giveBy_43 : decode cX3_giveBy 43 = .ok (.getfield 28, 3) := by decide +kernel
theorem dX3_giveBy_46 : decode cX3_giveBy 46 = .ok (.iload 4, 2) := by decide +kernel
theorem dX3_giveBy_48 : decode cX3_giveBy 48 = .ok (.invokevirtual 77, 3) := by decide +kernel
theorem dX3_giveBy_51 : decode cX3_giveBy 51 = .ok (.istore 5, 2) := by decide +kernel
theorem dX3_giveBy_53 : decode cX3_giveBy 53 = .ok (.aload_n 0, 1) := by decide +kernel
theorem dX3_giveBy_54 : decode cX3_giveBy 54 = .ok (.getfield 28, 3) := by decide +kernel
theorem dX3_giveBy_57 : decode cX3_giveBy 57 = .ok (.iload 4, 2) := by decide +kernel
theorem dX3_giveBy_59 : decode cX3_giveBy 59 = .ok (.invokevirtual 80, 3) := by decide +kernel
theorem dX3_giveBy_62 : decode cX3_giveBy 62 = .ok (.ifCond .eq 79, 3) := by decide +kernel
theorem dX3_giveBy_65 : decode cX3_giveBy 65 = .ok (.aload_n 0, 1) := by decide +kernel
theorem dX3_giveBy_66 : decode cX3_giveBy 66 = .ok (.getfield 24, 3) := by decide +kernel
theorem dX3_giveBy_69 : decode cX3_giveBy 69 = .ok (.getfield 47, 3) := by decide +kernel
theorem dX3_giveBy_72 : decode cX3_giveBy 72 = .ok (.ifCond .le 69, 3) := by decide +kernel
theorem dX3_giveBy_75 : decode cX3_giveBy 75 = .ok (.iload_n 3, 1) := by decide +kernel
theorem dX3_giveBy_76 : decode cX3_giveBy 76 = .ok (.aload_n 0, 1) := by decide +kernel
theorem dX3_giveBy_77 : decode cX3_giveBy 77 = .ok (.getfield 24, 3) := by decide +kernel
theorem dX3_giveBy_80 : decode cX3_giveBy 80 = .ok (.getfield 47, 3) := by decide +kernel
theorem dX3_giveBy_83 : decode cX3_giveBy 83 = .ok (.irem, 1) := by decide +kernel
theorem dX3_giveBy_84 : decode cX3_giveBy 84 = .ok (.istore 5, 2) := by decide +kernel
theorem dX3_giveBy_86 : decode cX3_giveBy 86 = .ok (.iload_n 3, 1) := by decide +kernel
theorem dX3_giveBy_87 : decode cX3_giveBy 87 = .ok (.aload_n 0, 1) := by decide +kernel
theorem dX3_giveBy_88 : decode cX3_giveBy 88 = .ok (.getfield 24, 3) := by decide +kernel
theorem dX3_giveBy_91 : decode cX3_giveBy 91 = .ok (.getfield 47, 3) := by decide +kernel
theorem dX3_giveBy_94 : decode cX3_giveBy 94 = .ok (.idiv, 1) := by decide +kernel
theorem dX3_giveBy_95 : decode cX3_giveBy 95 = .ok (.istore_n 3, 1) := by decide +kernel
theorem dX3_giveBy_96 : decode cX3_giveBy 96 = .ok (.iload_n 2, 1) := by decide +kernel
theorem dX3_giveBy_97 : decode cX3_giveBy 97 = .ok (.iload 5, 2) := by decide +kernel
theorem dX3_giveBy_99 : decode cX3_giveBy 99 = .ok (.aload_n 0, 1) := by decide +kernel
theorem dX3_giveBy_100 : decode cX3_giveBy 100 = .ok (.getfield 28, 3) := by decide +kernel
theorem dX3_giveBy_103 : decode cX3_giveBy 103 = .ok (.iload 4, 2) := by decide +kernel
theorem dX3_giveBy_105 : decode cX3_giveBy 105 = .ok (.invokevirtual 77, 3) := by decide +kernel
theorem dX3_giveBy_108 : decode cX3_giveBy 108 = .ok (.if_icmp .ne 7, 3) := by decide +kernel
theorem dX3_giveBy_111 : decode cX3_giveBy 111 = .ok (.iconst 0, 1) := by decide +kernel
theorem dX3_giveBy_112 : decode cX3_giveBy 112 = .ok (.goto 4, 3) := by decide +kernel
theorem dX3_giveBy_115 : decode cX3_giveBy 115 = .ok (.iconst 1, 1) := by decide +kernel
theorem dX3_giveBy_116 : decode cX3_giveBy 116 = .ok (.iadd, 1) := by decide +kernel
theorem dX3_giveBy_117 : decode cX3_giveBy 117 = .ok (.istore_n 2, 1) := by decide +kernel
theorem dX3_giveBy_118 : decode cX3_giveBy 118 = .ok (.aload_n 0, 1) := by decide +kernel
theorem dX3_giveBy_119 : decode cX3_giveBy 119 = .ok (.getfield 15, 3) := by decide +kernel
theorem dX3_giveBy_122 : decode cX3_giveBy 122 = .ok (.iload 5, 2) := by decide +kernel
theorem dX3_giveBy_124 : decode cX3_giveBy 124 = .ok (.aload_n 0, 1) := by decide +kernel
theorem dX3_giveBy_125 : decode cX3_giveBy 125 = .ok (.getfield 15, 3) := by decide +kernel
theorem dX3_giveBy_128 : decode cX3_giveBy 128 = .ok (.iload 5, 2) := by decide +kernel
theorem dX3_giveBy_130 : decode cX3_giveBy 130 = .ok (.invokestatic 84, 3) := by decide +kernel
theorem dX3_giveBy_133 : decode cX3_giveBy 133 = .ok (.iconst 1, 1) := by decide +kernel
theorem dX3_giveBy_134 : decode cX3_giveBy 134 = .ok (.iload 4, 2) := by decide +kernel
theorem dX3_giveBy_136 : decode cX3_giveBy 136 = .ok (.ishl, 1) := by decide +kernel
theorem dX3_giveBy_137 : decode cX3_giveBy 137 = .ok (.ior, 1) := by decide +kernel
theorem dX3_giveBy_138 : decode cX3_giveBy 138 = .ok (.invokestatic 70, 3) := by decide +kernel
theorem dX3_giveBy_141 : decode cX3_giveBy 141 = .ok (.aload_n 0, 1) := by decide +kernel
theorem dX3_giveBy_142 : decode cX3_giveBy 142 = .ok (.getfield 18, 3) := by decide +kernel
theorem dX3_giveBy_145 : decode cX3_giveBy 145 = .ok (.iload 4, 2) := by decide +kernel
theorem dX3_giveBy_147 : decode cX3_giveBy 147 = .ok (.iload 5, 2) := by decide +kernel
theorem dX3_giveBy_149 : decode cX3_giveBy 149 = .ok (.invokestatic 70, 3) := by decide +kernel
theorem dX3_giveBy_152 : decode cX3_giveBy 152 = .ok (.iinc 4 (-1), 3) := by decide +kernel
theorem dX3_giveBy_155 : decode cX3_giveBy 155 = .ok (.goto (-118), 3) := by decide +kernel
theorem dX3_giveBy_158 : decode cX3_giveBy 158 = .ok (.iload_n 2, 1) := by decide +kernel
theorem dX3_giveBy_159 : decode cX3_giveBy 159 = .ok (.ireturn, 1) := by decide +kernel
theorem dX3_allFit_0 : decode cX3_allFit 0 = .ok (.iconst 0, 1) := by decide +kernel
theorem dX3_allFit_1 : decode cX3_allFit 1 = .ok (.istore_n 1, 1) := by decide +kernel
theorem dX3_allFit_2 : decode cX3_allFit 2 = .ok (.iload_n 1, 1) := by decide +kernel
theorem dX3_allFit_3 : decode cX3_allFit 3 = .ok (.aload_n 0, 1) := by decide +kernel
theorem dX3_allFit_4 : decode cX3_allFit 4 = .ok (.getfield 24, 3) := by decide +kernel
theorem dX3_allFit_7 : decode cX3_allFit 7 = .ok (.getfield 47, 3) := by decide +kernel
theorem dX3_allFit_10 : decode cX3_allFit 10 = .ok (.if_icmp .ge 33, 3) := by decide +kernel
theorem dX3_allFit_13 : decode cX3_allFit 13 = .ok (.aload_n 0, 1) := by decide +kernel
theorem dX3_allFit_14 : decode cX3_allFit 14 = .ok (.getfield 9, 3) := by decide +kernel
theorem dX3_allFit_17 : decode cX3_allFit 17 = .ok (.aload_n 0, 1) := by decide +kernel
theorem dX3_allFit_18 : decode cX3_allFit 18 = .ok (.getfield 15, 3) := by decide +kernel
theorem dX3_allFit_21 : decode cX3_allFit 21 = .ok (.iload_n 1, 1) := by decide +kernel
theorem dX3_allFit_22 : decode cX3_allFit 22 = .ok (.invokestatic 84, 3) := by decide +kernel
theorem dX3_allFit_25 : decode cX3_allFit 25 = .ok (.invokestatic 84, 3) := by decide +kernel
theorem dX3_allFit_28 : decode cX3_allFit 28 = .ok (.iload_n 1, 1) := by decide +kernel
theorem dX3_allFit_29 : decode cX3_allFit 29 = .ok (.invokestatic 88, 3) := by decide +kernel
theorem dX3_allFit_32 : decode cX3_allFit 32 = .ok (.ifCond .ne 5, 3) := by decide +kernel
theorem dX3_allFit_35 : decode cX3_allFit 35 = .ok (.iconst 0, 1) := by decide +kernel
theorem dX3_allFit_36 : decode cX3_allFit 36 = .ok (.ireturn, 1) := by decide +kernel
theorem dX3_allFit_37 : decode cX3_allFit 37 = .ok (.iinc 1 1, 3) := by decide +kernel
theorem dX3_allFit_40 : decode cX3_allFit 40 = .ok (.goto (-38), 3) := by decide +kernel
theorem dX3_allFit_43 : decode cX3_allFit 43 = .ok (.iconst 1, 1) := by decide +kernel
theorem dX3_allFit_44 : decode cX3_allFit 44 = .ok (.ireturn, 1) := by decide +kernel
theorem dX4_init_0 : decode cX4_init 0 = .ok (.aload_n 0, 1) := by decide +kernel
theorem dX4_init_1 : decode cX4_init 1 = .ok (.invokespecial 3, 3) := by decide +kernel
theorem dX4_init_4 : decode cX4_init 4 = .ok (.aload_n 0, 1) := by decide +kernel
theorem dX4_init_5 : decode cX4_init 5 = .ok (.iconst 2, 1) := by decide +kernel
theorem dX4_init_6 : decode cX4_init 6 = .ok (.bipush 31, 2) := by decide +kernel
theorem dX4_init_8 : decode cX4_init 8 = .ok (.multianewarray 11 2, 4) := by decide +kernel
theorem dX4_init_12 : decode cX4_init 12 = .ok (.putfield 13, 3) := by decide +kernel
theorem dX4_init_15 : decode cX4_init 15 = .ok (.aload_n 0, 1) := by decide +kernel
theorem dX4_init_16 : decode cX4_init 16 = .ok (.iconst 2, 1) := by decide +kernel
theorem dX4_init_17 : decode cX4_init 17 = .ok (.newarray .int, 2) := by decide +kernel
theorem dX4_init_19 : decode cX4_init 19 = .ok (.putfield 18, 3) := by decide +kernel
theorem dX4_init_22 : decode cX4_init 22 = .ok (.return_, 1) := by decide +kernel
theorem dX4_forget_0 : decode cX4_forget 0 = .ok (.aload_n 0, 1) := by decide +kernel
theorem dX4_forget_1 : decode cX4_forget 1 = .ok (.iconst 0, 1) := by decide +kernel
theorem dX4_forget_2 : decode cX4_forget 2 = .ok (.putfield 22, 3) := by decide +kernel
theorem dX4_forget_5 : decode cX4_forget 5 = .ok (.return_, 1) := by decide +kernel
theorem dX4_take_0 : decode cX4_take 0 = .ok (.aload_n 2, 1) := by decide +kernel
theorem dX4_take_1 : decode cX4_take 1 = .ok (.getfield 26, 3) := by decide +kernel
theorem dX4_take_4 : decode cX4_take 4 = .ok (.aload_n 0, 1) := by decide +kernel
theorem dX4_take_5 : decode cX4_take 5 = .ok (.getfield 13, 3) := by decide +kernel
theorem dX4_take_8 : decode cX4_take 8 = .ok (.iload_n 1, 1) := by decide +kernel
theorem dX4_take_9 : decode cX4_take 9 = .ok (.invokestatic 29, 3) := by decide +kernel
theorem dX4_take_12 : decode cX4_take 12 = .ok (.invokestatic 33, 3) := by decide +kernel
theorem dX4_take_15 : decode cX4_take 15 = .ok (.aload_n 0, 1) := by decide +kernel
theorem dX4_take_16 : decode cX4_take 16 = .ok (.getfield 18, 3) := by decide +kernel
theorem dX4_take_19 : decode cX4_take 19 = .ok (.iload_n 1, 1) := by decide +kernel
theorem dX4_take_20 : decode cX4_take 20 = .ok (.aload_n 3, 1) := by decide +kernel
theorem dX4_take_21 : decode cX4_take 21 = .ok (.getfield 37, 3) := by decide +kernel
theorem dX4_take_24 : decode cX4_take 24 = .ok (.invokestatic 42, 3) := by decide +kernel
theorem dX4_take_27 : decode cX4_take 27 = .ok (.aload_n 0, 1) := by decide +kernel
theorem dX4_take_28 : decode cX4_take 28 = .ok (.dup, 1) := by decide +kernel
theorem dX4_take_29 : decode cX4_take 29 = .ok (.getfield 22, 3) := by decide +kernel
theorem dX4_take_32 : decode cX4_take 32 = .ok (.iconst 1, 1) := by decide +kernel
theorem dX4_take_33 : decode cX4_take 33 = .ok (.iload_n 1, 1) := by decide +kernel
theorem dX4_take_34 : decode cX4_take 34 = .ok (.ishl, 1) := by decide +kernel
theorem dX4_take_35 : decode cX4_take 35 = .ok (.ior, 1) := by decide +kernel
theorem dX4_take_36 : decode cX4_take 36 = .ok (.putfield 22, 3) := by decide +kernel
theorem dX4_take_39 : decode cX4_take 39 = .ok (.return_, 1) := by decide +kernel
theorem dX4_giveBack_0 : decode cX4_giveBack 0 = .ok (.aload_n 0, 1) := by decide +kernel
theorem dX4_giveBack_1 : decode cX4_giveBack 1 = .ok (.getfield 22, 3) := by decide +kernel
theorem dX4_giveBack_4 : decode cX4_giveBack 4 = .ok (.iload_n 1, 1) := by decide +kernel
theorem dX4_giveBack_5 : decode cX4_giveBack 5 = .ok (.invokestatic 46, 3) := by decide +kernel
theorem dX4_giveBack_8 : decode cX4_giveBack 8 = .ok (.ifCond .ne 5, 3) := by decide +kernel
theorem dX4_giveBack_11 : decode cX4_giveBack 11 = .ok (.iconst 0, 1) := by decide +kernel
theorem dX4_giveBack_12 : decode cX4_giveBack 12 = .ok (.ireturn, 1) := by decide +kernel
theorem dX4_giveBack_13 : decode cX4_giveBack 13 = .ok (.aload_n 0, 1) := by decide +kernel
theorem dX4_giveBack_14 : decode cX4_giveBack 14 = .ok (.getfield 13, 3) := by decide +kernel
theorem dX4_giveBack_17 : decode cX4_giveBack 17 = .ok (.iload_n 1, 1) := by decide +kernel
theorem dX4_giveBack_18 : decode cX4_giveBack 18 = .ok (.invokestatic 29, 3) := by decide +kernel
theorem dX4_giveBack_21 : decode cX4_giveBack 21 = .ok (.aload_n 2, 1) := by decide +kernel
theorem dX4_giveBack_22 : decode cX4_giveBack 22 = .ok (.getfield 26, 3) := by decide +kernel
theorem dX4_giveBack_25 : decode cX4_giveBack 25 = .ok (.invokestatic 33, 3) := by decide +kernel
theorem dX4_giveBack_28 : decode cX4_giveBack 28 = .ok (.aload_n 3, 1) := by decide +kernel
theorem dX4_giveBack_29 : decode cX4_giveBack 29 = .ok (.aload_n 0, 1) := by decide +kernel
theorem dX4_giveBack_30 : decode cX4_giveBack 30 = .ok (.getfield 18, 3) := by decide +kernel
theorem dX4_giveBack_33 : decode cX4_giveBack 33 = .ok (.iload_n 1, 1) := by decide +kernel
theorem dX4_giveBack_34 : decode cX4_giveBack 34 = .ok (.invokestatic 50, 3) := by decide +kernel
theorem dX4_giveBack_37 : decode cX4_giveBack 37 = .ok (.putfield 37, 3) := by decide +kernel
theorem dX4_giveBack_40 : decode cX4_giveBack 40 = .ok (.iconst 1, 1) := by decide +kernel
theorem dX4_giveBack_41 : decode cX4_giveBack 41 = .ok (.ireturn, 1) := by decide +kernel
theorem dX5_init_0 : decode cX5_init 0 = .ok (.aload_n 0, 1) := by decide +kernel
theorem dX5_init_1 : decode cX5_init 1 = .ok (.invokespecial 3, 3) := by decide +kernel
theorem dX5_init_4 : decode cX5_init 4 = .ok (.aload_n 0, 1) := by decide +kernel
theorem dX5_init_5 : decode cX5_init 5 = .ok (.iconst 3, 1) := by decide +kernel
theorem dX5_init_6 : decode cX5_init 6 = .ok (.newarray .int, 2) := by decide +kernel
theorem dX5_init_8 : decode cX5_init 8 = .ok (.putfield 9, 3) := by decide +kernel
theorem dX5_init_11 : decode cX5_init 11 = .ok (.aload_n 0, 1) := by decide +kernel
theorem dX5_init_12 : decode cX5_init 12 = .ok (.iconst 3, 1) := by decide +kernel
theorem dX5_init_13 : decode cX5_init 13 = .ok (.newarray .int, 2) := by decide +kernel
theorem dX5_init_15 : decode cX5_init 15 = .ok (.putfield 15, 3) := by decide +kernel
theorem dX5_init_18 : decode cX5_init 18 = .ok (.aload_n 0, 1) := by decide +kernel
theorem dX5_init_19 : decode cX5_init 19 = .ok (.bipush 7, 2) := by decide +kernel
theorem dX5_init_21 : decode cX5_init 21 = .ok (.newarray .int, 2) := by decide +kernel
theorem dX5_init_23 : decode cX5_init 23 = .ok (.putfield 18, 3) := by decide +kernel
theorem dX5_init_26 : decode cX5_init 26 = .ok (.aload_n 0, 1) := by decide +kernel
theorem dX5_init_27 : decode cX5_init 27 = .ok (.bipush 7, 2) := by decide +kernel
theorem dX5_init_29 : decode cX5_init 29 = .ok (.newarray .int, 2) := by decide +kernel
theorem dX5_init_31 : decode cX5_init 31 = .ok (.putfield 21, 3) := by decide +kernel
theorem dX5_init_34 : decode cX5_init 34 = .ok (.aload_n 0, 1) := by decide +kernel
theorem dX5_init_35 : decode cX5_init 35 = .ok (.bipush 7, 2) := by decide +kernel
theorem dX5_init_37 : decode cX5_init 37 = .ok (.newarray .int, 2) := by decide +kernel
theorem dX5_init_39 : decode cX5_init 39 = .ok (.putfield 24, 3) := by decide +kernel
theorem dX5_init_42 : decode cX5_init 42 = .ok (.aload_n 0, 1) := by decide +kernel
theorem dX5_init_43 : decode cX5_init 43 = .ok (.bipush 7, 2) := by decide +kernel
theorem dX5_init_45 : decode cX5_init 45 = .ok (.newarray .int, 2) := by decide +kernel
theorem dX5_init_47 : decode cX5_init 47 = .ok (.putfield 27, 3) := by decide +kernel
theorem dX5_init_50 : decode cX5_init 50 = .ok (.aload_n 0, 1) := by decide +kernel
theorem dX5_init_51 : decode cX5_init 51 = .ok (.bipush 7, 2) := by decide +kernel
theorem dX5_init_53 : decode cX5_init 53 = .ok (.newarray .int, 2) := by decide +kernel
theorem dX5_init_55 : decode cX5_init 55 = .ok (.putfield 30, 3) := by decide +kernel
theorem dX5_init_58 : decode cX5_init 58 = .ok (.aload_n 0, 1) := by decide +kernel
theorem dX5_init_59 : decode cX5_init 59 = .ok (.bipush 7, 2) := by decide +kernel
theorem dX5_init_61 : decode cX5_init 61 = .ok (.newarray .int, 2) := by decide +kernel
theorem dX5_init_63 : decode cX5_init 63 = .ok (.putfield 33, 3) := by decide +kernel
theorem dX5_init_66 : decode cX5_init 66 = .ok (.aload_n 0, 1) := by decide +kernel
theorem dX5_init_67 : decode cX5_init 67 = .ok (.bipush 25, 2) := by decide +kernel
theorem dX5_init_69 : decode cX5_init 69 = .ok (.newarray .int, 2) := by decide +kernel
theorem dX5_init_71 : decode cX5_init 71 = .ok (.putfield 36, 3) := by decide +kernel
theorem dX5_init_74 : decode cX5_init 74 = .ok (.return_, 1) := by decide +kernel
theorem dX5_clear_0 : decode cX5_clear 0 = .ok (.aload_n 0, 1) := by decide +kernel
theorem dX5_clear_1 : decode cX5_clear 1 = .ok (.iconst 0, 1) := by decide +kernel
theorem dX5_clear_2 : decode cX5_clear 2 = .ok (.putfield 39, 3) := by decide +kernel
theorem dX5_clear_5 : decode cX5_clear 5 = .ok (.aload_n 0, 1) := by decide +kernel
theorem dX5_clear_6 : decode cX5_clear 6 = .ok (.iconst 0, 1) := by decide +kernel
theorem dX5_clear_7 : decode cX5_clear 7 = .ok (.putfield 43, 3) := by decide +kernel
theorem dX5_clear_10 : decode cX5_clear 10 = .ok (.aload_n 0, 1) := by decide +kernel
theorem dX5_clear_11 : decode cX5_clear 11 = .ok (.iconst 0, 1) := by decide +kernel
theorem dX5_clear_12 : decode cX5_clear 12 = .ok (.putfield 46, 3) := by decide +kernel
theorem dX5_clear_15 : decode cX5_clear 15 = .ok (.aload_n 0, 1) := by decide +kernel
theorem dX5_clear_16 : decode cX5_clear 16 = .ok (.iconst 0, 1) := by decide +kernel
theorem dX5_clear_17 : decode cX5_clear 17 = .ok (.putfield 49, 3) := by decide +kernel
theorem dX5_clear_20 : decode cX5_clear 20 = .ok (.aload_n 0, 1) := by decide +kernel
theorem dX5_clear_21 : decode cX5_clear 21 = .ok (.iconst 0, 1) := by decide +kernel
theorem dX5_clear_22 : decode cX5_clear 22 = .ok (.putfield 52, 3) := by decide +kernel
theorem dX5_clear_25 : decode cX5_clear 25 = .ok (.aload_n 0, 1) := by decide +kernel
theorem dX5_clear_26 : decode cX5_clear 26 = .ok (.iconst 0, 1) := by decide +kernel
theorem dX5_clear_27 : decode cX5_clear 27 = .ok (.putfield 55, 3) := by decide +kernel
theorem dX5_clear_30 : decode cX5_clear 30 = .ok (.aload_n 0, 1) := by decide +kernel
theorem dX5_clear_31 : decode cX5_clear 31 = .ok (.iconst 0, 1) := by decide +kernel
theorem dX5_clear_32 : decode cX5_clear 32 = .ok (.putfield 58, 3) := by decide +kernel
theorem dX5_clear_35 : decode cX5_clear 35 = .ok (.iconst 0, 1) := by decide +kernel
theorem dX5_clear_36 : decode cX5_clear 36 = .ok (.istore_n 1, 1) := by decide +kernel
theorem dX5_clear_37 : decode cX5_clear 37 = .ok (.iload_n 1, 1) := by decide +kernel
theorem dX5_clear_38 : decode cX5_clear 38 = .ok (.aload_n 0, 1) := by decide +kernel
theorem dX5_clear_39 : decode cX5_clear 39 = .ok (.getfield 36, 3) := by decide +kernel
theorem dX5_clear_42 : decode cX5_clear 42 = .ok (.arraylength, 1) := by decide +kernel
theorem dX5_clear_43 : decode cX5_clear 43 = .ok (.if_icmp .ge 29, 3) := by decide +kernel
theorem dX5_clear_46 : decode cX5_clear 46 = .ok (.aload_n 0, 1) := by decide +kernel
theorem dX5_clear_47 : decode cX5_clear 47 = .ok (.getfield 36, 3) := by decide +kernel
theorem dX5_clear_50 : decode cX5_clear 50 = .ok (.iload_n 1, 1) := by decide +kernel
theorem dX5_clear_51 : decode cX5_clear 51 = .ok (.iload_n 1, 1) := by decide +kernel
theorem dX5_clear_52 : decode cX5_clear 52 = .ok (.iconst 5, 1) := by decide +kernel
theorem dX5_clear_53 : decode cX5_clear 53 = .ok (.idiv, 1) := by decide +kernel
theorem dX5_clear_54 : decode cX5_clear 54 = .ok (.iload_n 1, 1) := by decide +kernel
theorem dX5_clear_55 : decode cX5_clear 55 = .ok (.iconst 5, 1) := by decide +kernel
theorem dX5_clear_56 : decode cX5_clear 56 = .ok (.irem, 1) := by decide +kernel
theorem dX5_clear_57 : decode cX5_clear 57 = .ok (.if_icmp .ne 7, 3) := by decide +kernel
theorem dX5_clear_60 : decode cX5_clear 60 = .ok (.iconst 0, 1) := by decide +kernel
theorem dX5_clear_61 : decode cX5_clear 61 = .ok (.goto 4, 3) := by decide +kernel
theorem dX5_clear_64 : decode cX5_clear 64 = .ok (.iconst (-1), 1) := by decide +kernel
theorem dX5_clear_65 : decode cX5_clear 65 = .ok (.iastore, 1) := by decide +kernel
theorem dX5_clear_66 : decode cX5_clear 66 = .ok (.iinc 1 1, 3) := by decide +kernel
theorem dX5_clear_69 : decode cX5_clear 69 = .ok (.goto (-32), 3) := by decide +kernel
theorem dX5_clear_72 : decode cX5_clear 72 = .ok (.return_, 1) := by decide +kernel
theorem dX5_addRoad_0 : decode cX5_addRoad 0 = .ok (.aload_n 0, 1) := by decide +kernel
theorem dX5_addRoad_1 : decode cX5_addRoad 1 = .ok (.dup, 1) := by decide +kernel
theorem dX5_addRoad_2 : decode cX5_addRoad 2 = .ok (.getfield 43, 3) := by decide +kernel
theorem dX5_addRoad_5 : decode cX5_addRoad 5 = .ok (.iconst 1, 1) := by decide +kernel
theorem dX5_addRoad_6 : decode cX5_addRoad 6 = .ok (.iadd, 1) := by decide +kernel
theorem dX5_addRoad_7 : decode cX5_addRoad 7 = .ok (.putfield 43, 3) := by decide +kernel
theorem dX5_addRoad_10 : decode cX5_addRoad 10 = .ok (.aload_n 0, 1) := by decide +kernel
theorem dX5_addRoad_11 : decode cX5_addRoad 11 = .ok (.iload_n 1, 1) := by decide +kernel
theorem dX5_addRoad_12 : decode cX5_addRoad 12 = .ok (.iload_n 2, 1) := by decide +kernel
theorem dX5_addRoad_13 : decode cX5_addRoad 13 = .ok (.iload_n 3, 1) := by decide +kernel
theorem dX5_addRoad_14 : decode cX5_addRoad 14 = .ok (.invokevirtual 61, 3) := by decide +kernel
theorem dX5_addRoad_17 : decode cX5_addRoad 17 = .ok (.aload_n 0, 1) := by decide +kernel
theorem dX5_addRoad_18 : decode cX5_addRoad 18 = .ok (.iload_n 2, 1) := by decide +kernel
theorem dX5_addRoad_19 : decode cX5_addRoad 19 = .ok (.iload_n 1, 1) := by decide +kernel
theorem dX5_addRoad_20 : decode cX5_addRoad 20 = .ok (.iload_n 3, 1) := by decide +kernel
theorem dX5_addRoad_21 : decode cX5_addRoad 21 = .ok (.invokevirtual 61, 3) := by decide +kernel
theorem dX5_addRoad_24 : decode cX5_addRoad 24 = .ok (.return_, 1) := by decide +kernel
theorem dX5_shorten_0 : decode cX5_shorten 0 = .ok (.aload_n 0, 1) := by decide +kernel
theorem dX5_shorten_1 : decode cX5_shorten 1 = .ok (.getfield 36, 3) := by decide +kernel
theorem dX5_shorten_4 : decode cX5_shorten 4 = .ok (.iload_n 1, 1) := by decide +kernel
theorem dX5_shorten_5 : decode cX5_shorten 5 = .ok (.iconst 5, 1) := by decide +kernel
theorem dX5_shorten_6 : decode cX5_shorten 6 = .ok (.imul, 1) := by decide +kernel
theorem dX5_shorten_7 : decode cX5_shorten 7 = .ok (.iload_n 2, 1) := by decide +kernel
theorem dX5_shorten_8 : decode cX5_shorten 8 = .ok (.iadd, 1) := by decide +kernel
theorem dX5_shorten_9 : decode cX5_shorten 9 = .ok (.invokestatic 65, 3) := by decide +kernel
theorem dX5_shorten_12 : decode cX5_shorten 12 = .ok (.istore 4, 2) := by decide +kernel
theorem dX5_shorten_14 : decode cX5_shorten 14 = .ok (.iload 4, 2) := by decide +kernel
theorem dX5_shorten_16 : decode cX5_shorten 16 = .ok (.iconst (-1), 1) := by decide +kernel
theorem dX5_shorten_17 : decode cX5_shorten 17 = .ok (.if_icmp .eq 9, 3) := by decide +kernel
theorem dX5_shorten_20 : decode cX5_shorten 20 = .ok (.iload_n 3, 1) := by decide +kernel
theorem dX5_shorten_21 : decode cX5_shorten 21 = .ok (.iload 4, 2) := by decide +kernel
theorem dX5_shorten_23 : decode cX5_shorten 23 = .ok (.if_icmp .ge 16, 3) := by decide +kernel
theorem dX5_shorten_26 : decode cX5_shorten 26 = .ok (.aload_n 0, 1) := by decide +kernel
theorem dX5_shorten_27 : decode cX5_shorten 27 = .ok (.getfield 36, 3) := by decide +kernel
theorem dX5_shorten_30 : decode cX5_shorten 30 = .ok (.iload_n 1, 1) := by decide +kernel
theorem dX5_shorten_31 : decode cX5_shorten 31 = .ok (.iconst 5, 1) := by decide +kernel
theorem dX5_shorten_32 : decode cX5_shorten 32 = .ok (.imul, 1) := by decide +kernel
theorem dX5_shorten_33 : decode cX5_shorten 33 = .ok (.iload_n 2, 1) := by decide +kernel
theorem dX5_shorten_34 : decode cX5_shorten 34 = .ok (.iadd, 1) := by decide +kernel
theorem dX5_shorten_35 : decode cX5_shorten 35 = .ok (.iload_n 3, 1) := by decide +kernel
theorem dX5_shorten_36 : decode cX5_shorten 36 = .ok (.invokestatic 69, 3) := by decide +kernel
theorem dX5_shorten_39 : decode cX5_shorten 39 = .ok (.return_, 1) := by decide +kernel
theorem dX5_joinRoads_0 : decode cX5_joinRoads 0 = .ok (.iconst 0, 1) := by decide +kernel
theorem dX5_joinRoads_1 : decode cX5_joinRoads 1 = .ok (.istore_n 1, 1) := by decide +kernel
theorem dX5_joinRoads_2 : decode cX5_joinRoads 2 = .ok (.iload_n 1, 1) := by decide +kernel
theorem dX5_joinRoads_3 : decode cX5_joinRoads 3 = .ok (.iconst 5, 1) := by decide +kernel
theorem dX5_joinRoads_4 : decode cX5_joinRoads 4 = .ok (.if_icmp .ge 86, 3) := by decide +kernel
theorem dX5_joinRoads_7 : decode cX5_joinRoads 7 = .ok (.iconst 0, 1) := by decide +kernel
theorem dX5_joinRoads_8 : decode cX5_joinRoads 8 = .ok (.istore_n 2, 1) := by decide +kernel
theorem dX5_joinRoads_9 : decode cX5_joinRoads 9 = .ok (.iload_n 2, 1) := by decide +kernel
theorem dX5_joinRoads_10 : decode cX5_joinRoads 10 = .ok (.iconst 5, 1) := by decide +kernel
theorem dX5_joinRoads_11 : decode cX5_joinRoads 11 = .ok (.if_icmp .ge 73, 3) := by decide +kernel
theorem dX5_joinRoads_14 : decode cX5_joinRoads 14 = .ok (.iconst 0, 1) := by decide +kernel
theorem dX5_joinRoads_15 : decode cX5_joinRoads 15 = .ok (.istore_n 3, 1) := by decide +kernel
theorem dX5_joinRoads_16 : decode cX5_joinRoads 16 = .ok (.iload_n 3, 1) := by decide +kernel
theorem dX5_joinRoads_17 : decode cX5_joinRoads 17 = .ok (.iconst 5, 1) := by decide +kernel
theorem dX5_joinRoads_18 : decode cX5_joinRoads 18 = .ok (.if_icmp .ge 60, 3) := by decide +kernel
theorem dX5_joinRoads_21 : decode cX5_joinRoads 21 = .ok (.aload_n 0, 1) := by decide +kernel
theorem dX5_joinRoads_22 : decode cX5_joinRoads 22 = .ok (.getfield 36, 3) := by decide +kernel
theorem dX5_joinRoads_25 : decode cX5_joinRoads 25 = .ok (.iload_n 2, 1) := by decide +kernel
theorem dX5_joinRoads_26 : decode cX5_joinRoads 26 = .ok (.iconst 5, 1) := by decide +kernel
theorem dX5_joinRoads_27 : decode cX5_joinRoads 27 = .ok (.imul, 1) := by decide +kernel
theorem dX5_joinRoads_28 : decode cX5_joinRoads 28 = .ok (.iload_n 1, 1) := by decide +kernel
theorem dX5_joinRoads_29 : decode cX5_joinRoads 29 = .ok (.iadd, 1) := by decide +kernel
theorem dX5_joinRoads_30 : decode cX5_joinRoads 30 = .ok (.invokestatic 65, 3) := by decide +kernel
theorem dX5_joinRoads_33 : decode cX5_joinRoads 33 = .ok (.istore 4, 2) := by decide +kernel
theorem dX5_joinRoads_35 : decode cX5_joinRoads 35 = .ok (.aload_n 0, 1) := by decide +kernel
theorem dX5_joinRoads_36 : decode cX5_joinRoads 36 = .ok (.getfield 36, 3) := by decide +kernel
theorem dX5_joinRoads_39 : decode cX5_joinRoads 39 = .ok (.iload_n 1, 1) := by decide +kernel
theorem dX5_joinRoads_40 : decode cX5_joinRoads 40 = .ok (.iconst 5, 1) := by decide +kernel
theorem dX5_joinRoads_41 : decode cX5_joinRoads 41 = .ok (.imul, 1) := by decide +kernel
theorem dX5_joinRoads_42 : decode cX5_joinRoads 42 = .ok (.iload_n 3, 1) := by decide +kernel
theorem dX5_joinRoads_43 : decode cX5_joinRoads 43 = .ok (.iadd, 1) := by decide +kernel
theorem dX5_joinRoads_44 : decode cX5_joinRoads 44 = .ok (.invokestatic 65, 3) := by decide +kernel
theorem dX5_joinRoads_47 : decode cX5_joinRoads 47 = .ok (.istore 5, 2) := by decide +kernel
theorem dX5_joinRoads_49 : decode cX5_joinRoads 49 = .ok (.iload 4, 2) := by decide +kernel
theorem dX5_joinRoads_51 : decode cX5_joinRoads 51 = .ok (.iconst (-1), 1) := by decide +kernel
theorem dX5_joinRoads_52 : decode cX5_joinRoads 52 = .ok (.if_icmp .eq 20, 3) := by decide +kernel
theorem dX5_joinRoads_55 : decode cX5_joinRoads 55 = .ok (.iload 5, 2) := by decide +kernel
theorem dX5_joinRoads_57 : decode cX5_joinRoads 57 = .ok (.iconst (-1), 1) := by decide +kernel
theorem dX5_joinRoads_58 : decode cX5_joinRoads 58 = .ok (.if_icmp .eq 14, 3) := by decide +kernel
theorem dX5_joinRoads_61 : decode cX5_joinRoads 61 = .ok (.aload_n 0, 1) := by decide +kernel
theorem dX5_joinRoads_62 : decode cX5_joinRoads 62 = .ok (.iload_n 2, 1) := by decide +kernel
theorem dX5_joinRoads_63 : decode cX5_joinRoads 63 = .ok (.iload_n 3, 1) := by decide +kernel
theorem dX5_joinRoads_64 : decode cX5_joinRoads 64 = .ok (.iload 4, 2) := by decide +kernel
theorem dX5_joinRoads_66 : decode cX5_joinRoads 66 = .ok (.iload 5, 2) := by decide +kernel
theorem dX5_joinRoads_68 : decode cX5_joinRoads 68 = .ok (.iadd, 1) := by decide +kernel
theorem dX5_joinRoads_69 : decode cX5_joinRoads 69 = .ok (.invokevirtual 61, 3) := by decide +kernel
theorem dX5_joinRoads_72 : decode cX5_joinRoads 72 = .ok (.iinc 3 1, 3) := by decide +kernel
theorem dX5_joinRoads_75 : decode cX5_joinRoads 75 = .ok (.goto (-59), 3) := by decide +kernel
theorem dX5_joinRoads_78 : decode cX5_joinRoads 78 = .ok (.iinc 2 1, 3) := by decide +kernel
theorem dX5_joinRoads_81 : decode cX5_joinRoads 81 = .ok (.goto (-72), 3) := by decide +kernel
theorem dX5_joinRoads_84 : decode cX5_joinRoads 84 = .ok (.iinc 1 1, 3) := by decide +kernel
theorem dX5_joinRoads_87 : decode cX5_joinRoads 87 = .ok (.goto (-85), 3) := by decide +kernel
theorem dX5_joinRoads_90 : decode cX5_joinRoads 90 = .ok (.return_, 1) := by decide +kernel
theorem dX5_hasTown_0 : decode cX5_hasTown 0 = .ok (.iload_n 1, 1) := by decide +kernel
theorem dX5_hasTown_1 : decode cX5_hasTown 1 = .ok (.ifCond .lt 15, 3) := by decide +kernel
theorem dX5_hasTown_4 : decode cX5_hasTown 4 = .ok (.iload_n 1, 1) := by decide +kernel
theorem dX5_hasTown_5 : decode cX5_hasTown 5 = .ok (.aload_n 0, 1) := by decide +kernel
theorem dX5_hasTown_6 : decode cX5_hasTown 6 = .ok (.getfield 39, 3) := by decide +kernel
theorem dX5_hasTown_9 : decode cX5_hasTown 9 = .ok (.if_icmp .ge 7, 3) := by decide +kernel
theorem dX5_hasTown_12 : decode cX5_hasTown 12 = .ok (.iconst 1, 1) := by decide +kernel
theorem dX5_hasTown_13 : decode cX5_hasTown 13 = .ok (.goto 4, 3) := by decide +kernel
theorem dX5_hasTown_16 : decode cX5_hasTown 16 = .ok (.iconst 0, 1) := by decide +kernel
theorem dX5_hasTown_17 : decode cX5_hasTown 17 = .ok (.ireturn, 1) := by decide +kernel
theorem dX5_hasKeeper_0 : decode cX5_hasKeeper 0 = .ok (.iload_n 1, 1) := by decide +kernel
theorem dX5_hasKeeper_1 : decode cX5_hasKeeper 1 = .ok (.ifCond .lt 15, 3) := by decide +kernel
theorem dX5_hasKeeper_4 : decode cX5_hasKeeper 4 = .ok (.iload_n 1, 1) := by decide +kernel
theorem dX5_hasKeeper_5 : decode cX5_hasKeeper 5 = .ok (.aload_n 0, 1) := by decide +kernel
theorem dX5_hasKeeper_6 : decode cX5_hasKeeper 6 = .ok (.getfield 46, 3) := by decide +kernel
theorem dX5_hasKeeper_9 : decode cX5_hasKeeper 9 = .ok (.if_icmp .ge 7, 3) := by decide +kernel
theorem dX5_hasKeeper_12 : decode cX5_hasKeeper 12 = .ok (.iconst 1, 1) := by decide +kernel
theorem dX5_hasKeeper_13 : decode cX5_hasKeeper 13 = .ok (.goto 4, 3) := by decide +kernel
theorem dX5_hasKeeper_16 : decode cX5_hasKeeper 16 = .ok (.iconst 0, 1) := by decide +kernel
theorem dX5_hasKeeper_17 : decode cX5_hasKeeper 17 = .ok (.ireturn, 1) := by decide +kernel
theorem dX5_hasPromise_0 : decode cX5_hasPromise 0 = .ok (.iload_n 1, 1) := by decide +kernel
theorem dX5_hasPromise_1 : decode cX5_hasPromise 1 = .ok (.ifCond .lt 15, 3) := by decide +kernel
theorem dX5_hasPromise_4 : decode cX5_hasPromise 4 = .ok (.iload_n 1, 1) := by decide +kernel
theorem dX5_hasPromise_5 : decode cX5_hasPromise 5 = .ok (.aload_n 0, 1) := by decide +kernel
theorem dX5_hasPromise_6 : decode cX5_hasPromise 6 = .ok (.getfield 49, 3) := by decide +kernel
theorem dX5_hasPromise_9 : decode cX5_hasPromise 9 = .ok (.if_icmp .ge 7, 3) := by decide +kernel
theorem dX5_hasPromise_12 : decode cX5_hasPromise 12 = .ok (.iconst 1, 1) := by decide +kernel
theorem dX5_hasPromise_13 : decode cX5_hasPromise 13 = .ok (.goto 4, 3) := by decide +kernel
theorem dX5_hasPromise_16 : decode cX5_hasPromise 16 = .ok (.iconst 0, 1) := by decide +kernel
theorem dX5_hasPromise_17 : decode cX5_hasPromise 17 = .ok (.ireturn, 1) := by decide +kernel
theorem dX5_distance_0 : decode cX5_distance 0 = .ok (.aload_n 0, 1) := by decide +kernel
theorem dX5_distance_1 : decode cX5_distance 1 = .ok (.iload_n 1, 1) := by decide +kernel
theorem dX5_distance_2 : decode cX5_distance 2 = .ok (.invokevirtual 73, 3) := by decide +kernel
theorem dX5_distance_5 : decode cX5_distance 5 = .ok (.ifCond .eq 26, 3) := by decide +kernel
theorem dX5_distance_8 : decode cX5_distance 8 = .ok (.aload_n 0, 1) := by decide +kernel
theorem dX5_distance_9 : decode cX5_distance 9 = .ok (.iload_n 2, 1) := by decide +kernel
theorem dX5_distance_10 : decode cX5_distance 10 = .ok (.invokevirtual 73, 3) := by decide +kernel
theorem dX5_distance_13 : decode cX5_distance 13 = .ok (.ifCond .eq 18, 3) := by decide +kernel
theorem dX5_distance_16 : decode cX5_distance 16 = .ok (.aload_n 0, 1) := by decide +kernel
theorem dX5_distance_17 : decode cX5_distance 17 = .ok (.getfield 36, 3) := by decide +kernel
theorem dX5_distance_20 : decode cX5_distance 20 = .ok (.iload_n 1, 1) := by decide +kernel
theorem dX5_distance_21 : decode cX5_distance 21 = .ok (.iconst 5, 1) := by decide +kernel
theorem dX5_distance_22 : decode cX5_distance 22 = .ok (.imul, 1) := by decide +kernel
theorem dX5_distance_23 : decode cX5_distance 23 = .ok (.iload_n 2, 1) := by decide +kernel
theorem dX5_distance_24 : decode cX5_distance 24 = .ok (.iadd, 1) := by decide +kernel
theorem dX5_distance_25 : decode cX5_distance 25 = .ok (.invokestatic 65, 3) := by decide +kernel
theorem dX5_distance_28 : decode cX5_distance 28 = .ok (.goto 4, 3) := by decide +kernel
theorem dX5_distance_31 : decode cX5_distance 31 = .ok (.iconst (-1), 1) := by decide +kernel
theorem dX5_distance_32 : decode cX5_distance 32 = .ok (.ireturn, 1) := by decide +kernel
theorem dX5_isWinter_0 : decode cX5_isWinter 0 = .ok (.aload_n 0, 1) := by decide +kernel
theorem dX5_isWinter_1 : decode cX5_isWinter 1 = .ok (.getfield 58, 3) := by decide +kernel
theorem dX5_isWinter_4 : decode cX5_isWinter 4 = .ok (.ifCond .le 27, 3) := by decide +kernel
theorem dX5_isWinter_7 : decode cX5_isWinter 7 = .ok (.iload_n 1, 1) := by decide +kernel
theorem dX5_isWinter_8 : decode cX5_isWinter 8 = .ok (.aload_n 0, 1) := by decide +kernel
theorem dX5_isWinter_9 : decode cX5_isWinter 9 = .ok (.getfield 52, 3) := by decide +kernel
theorem dX5_isWinter_12 : decode cX5_isWinter 12 = .ok (.isub, 1) := by decide +kernel
theorem dX5_isWinter_13 : decode cX5_isWinter 13 = .ok (.aload_n 0, 1) := by decide +kernel
theorem dX5_isWinter_14 : decode cX5_isWinter 14 = .ok (.getfield 58, 3) := by decide +kernel
theorem dX5_isWinter_17 : decode cX5_isWinter 17 = .ok (.invokestatic 77, 3) := by decide +kernel
theorem dX5_isWinter_20 : decode cX5_isWinter 20 = .ok (.aload_n 0, 1) := by decide +kernel
theorem dX5_isWinter_21 : decode cX5_isWinter 21 = .ok (.getfield 55, 3) := by decide +kernel
theorem dX5_isWinter_24 : decode cX5_isWinter 24 = .ok (.if_icmp .ge 7, 3) := by decide +kernel
theorem dX5_isWinter_27 : decode cX5_isWinter 27 = .ok (.iconst 1, 1) := by decide +kernel
theorem dX5_isWinter_28 : decode cX5_isWinter 28 = .ok (.goto 4, 3) := by decide +kernel
theorem dX5_isWinter_31 : decode cX5_isWinter 31 = .ok (.iconst 0, 1) := by decide +kernel
theorem dX5_isWinter_32 : decode cX5_isWinter 32 = .ok (.ireturn, 1) := by decide +kernel
theorem dX5_ripeDay_0 : decode cX5_ripeDay 0 = .ok (.aload_n 0, 1) := by decide +kernel
theorem dX5_ripeDay_1 : decode cX5_ripeDay 1 = .ok (.getfield 58, 3) := by decide +kernel
theorem dX5_ripeDay_4 : decode cX5_ripeDay 4 = .ok (.aload_n 0, 1) := by decide +kernel
theorem dX5_ripeDay_5 : decode cX5_ripeDay 5 = .ok (.getfield 55, 3) := by decide +kernel
theorem dX5_ripeDay_8 : decode cX5_ripeDay 8 = .ok (.isub, 1) := by decide +kernel
theorem dX5_ripeDay_9 : decode cX5_ripeDay 9 = .ok (.istore_n 3, 1) := by decide +kernel
theorem dX5_ripeDay_10 : decode cX5_ripeDay 10 = .ok (.aload_n 0, 1) := by decide +kernel
theorem dX5_ripeDay_11 : decode cX5_ripeDay 11 = .ok (.getfield 58, 3) := by decide +kernel
theorem dX5_ripeDay_14 : decode cX5_ripeDay 14 = .ok (.ifCond .le 7, 3) := by decide +kernel
theorem dX5_ripeDay_17 : decode cX5_ripeDay 17 = .ok (.iload_n 3, 1) := by decide +kernel
theorem dX5_ripeDay_18 : decode cX5_ripeDay 18 = .ok (.ifCond .gt 7, 3) := by decide +kernel
theorem dX5_ripeDay_21 : decode cX5_ripeDay 21 = .ok (.iload_n 1, 1) := by decide +kernel
theorem dX5_ripeDay_22 : decode cX5_ripeDay 22 = .ok (.iload_n 2, 1) := by decide +kernel
theorem dX5_ripeDay_23 : decode cX5_ripeDay 23 = .ok (.iadd, 1) := by decide +kernel
theorem dX5_ripeDay_24 : decode cX5_ripeDay 24 = .ok (.ireturn, 1) := by decide +kernel
theorem dX5_ripeDay_25 : decode cX5_ripeDay 25 = .ok (.iload_n 1, 1) := by decide +kernel
theorem dX5_ripeDay_26 : decode cX5_ripeDay 26 = .ok (.aload_n 0, 1) := by decide +kernel
theorem dX5_ripeDay_27 : decode cX5_ripeDay 27 = .ok (.getfield 52, 3) := by decide +kernel
theorem dX5_ripeDay_30 : decode cX5_ripeDay 30 = .ok (.isub, 1) := by decide +kernel
theorem dX5_ripeDay_31 : decode cX5_ripeDay 31 = .ok (.aload_n 0, 1) := by decide +kernel
theorem dX5_ripeDay_32 : decode cX5_ripeDay 32 = .ok (.getfield 58, 3) := by decide +kernel
theorem dX5_ripeDay_35 : decode cX5_ripeDay 35 = .ok (.invokestatic 77, 3) := by decide +kernel
theorem dX5_ripeDay_38 : decode cX5_ripeDay 38 = .ok (.istore 4, 2) := by decide +kernel
theorem dX5_ripeDay_40 : decode cX5_ripeDay 40 = .ok (.iload 4, 2) := by decide +kernel
theorem dX5_ripeDay_42 : decode cX5_ripeDay 42 = .ok (.aload_n 0, 1) := by decide +kernel
theorem dX5_ripeDay_43 : decode cX5_ripeDay 43 = .ok (.getfield 55, 3) := by decide +kernel
theorem dX5_ripeDay_46 : decode cX5_ripeDay 46 = .ok (.invokestatic 83, 3) := by decide +kernel
theorem dX5_ripeDay_49 : decode cX5_ripeDay 49 = .ok (.istore 5, 2) := by decide +kernel
theorem dX5_ripeDay_51 : decode cX5_ripeDay 51 = .ok (.iload_n 1, 1) := by decide +kernel
theorem dX5_ripeDay_52 : decode cX5_ripeDay 52 = .ok (.iload 5, 2) := by decide +kernel
theorem dX5_ripeDay_54 : decode cX5_ripeDay 54 = .ok (.iadd, 1) := by decide +kernel
theorem dX5_ripeDay_55 : decode cX5_ripeDay 55 = .ok (.iload 4, 2) := by decide +kernel
theorem dX5_ripeDay_57 : decode cX5_ripeDay 57 = .ok (.isub, 1) := by decide +kernel
theorem dX5_ripeDay_58 : decode cX5_ripeDay 58 = .ok (.istore 6, 2) := by decide +kernel
theorem dX5_ripeDay_60 : decode cX5_ripeDay 60 = .ok (.aload_n 0, 1) := by decide +kernel
theorem dX5_ripeDay_61 : decode cX5_ripeDay 61 = .ok (.getfield 58, 3) := by decide +kernel
theorem dX5_ripeDay_64 : decode cX5_ripeDay 64 = .ok (.iload 5, 2) := by decide +kernel
theorem dX5_ripeDay_66 : decode cX5_ripeDay 66 = .ok (.isub, 1) := by decide +kernel
theorem dX5_ripeDay_67 : decode cX5_ripeDay 67 = .ok (.istore 7, 2) := by decide +kernel
theorem dX5_ripeDay_69 : decode cX5_ripeDay 69 = .ok (.iload_n 2, 1) := by decide +kernel
theorem dX5_ripeDay_70 : decode cX5_ripeDay 70 = .ok (.iload 7, 2) := by decide +kernel
theorem dX5_ripeDay_72 : decode cX5_ripeDay 72 = .ok (.if_icmp .gt 8, 3) := by decide +kernel
theorem dX5_ripeDay_75 : decode cX5_ripeDay 75 = .ok (.iload 6, 2) := by decide +kernel
theorem dX5_ripeDay_77 : decode cX5_ripeDay 77 = .ok (.iload_n 2, 1) := by decide +kernel
theorem dX5_ripeDay_78 : decode cX5_ripeDay 78 = .ok (.iadd, 1) := by decide +kernel
theorem dX5_ripeDay_79 : decode cX5_ripeDay 79 = .ok (.ireturn, 1) := by decide +kernel
theorem dX5_ripeDay_80 : decode cX5_ripeDay 80 = .ok (.iload_n 2, 1) := by decide +kernel
theorem dX5_ripeDay_81 : decode cX5_ripeDay 81 = .ok (.iload 7, 2) := by decide +kernel
theorem dX5_ripeDay_83 : decode cX5_ripeDay 83 = .ok (.isub, 1) := by decide +kernel
theorem dX5_ripeDay_84 : decode cX5_ripeDay 84 = .ok (.iconst 1, 1) := by decide +kernel
theorem dX5_ripeDay_85 : decode cX5_ripeDay 85 = .ok (.isub, 1) := by decide +kernel
theorem dX5_ripeDay_86 : decode cX5_ripeDay 86 = .ok (.istore 8, 2) := by decide +kernel
theorem dX5_ripeDay_88 : decode cX5_ripeDay 88 = .ok (.iload 6, 2) := by decide +kernel
theorem dX5_ripeDay_90 : decode cX5_ripeDay 90 = .ok (.iload 7, 2) := by decide +kernel
theorem dX5_ripeDay_92 : decode cX5_ripeDay 92 = .ok (.iadd, 1) := by decide +kernel
theorem dX5_ripeDay_93 : decode cX5_ripeDay 93 = .ok (.iload 8, 2) := by decide +kernel
theorem dX5_ripeDay_95 : decode cX5_ripeDay 95 = .ok (.iload_n 3, 1) := by decide +kernel
theorem dX5_ripeDay_96 : decode cX5_ripeDay 96 = .ok (.idiv, 1) := by decide +kernel
theorem dX5_ripeDay_97 : decode cX5_ripeDay 97 = .ok (.aload_n 0, 1) := by decide +kernel
theorem dX5_ripeDay_98 : decode cX5_ripeDay 98 = .ok (.getfield 58, 3) := by decide +kernel
theorem dX5_ripeDay_101 : decode cX5_ripeDay 101 = .ok (.imul, 1) := by decide +kernel
theorem dX5_ripeDay_102 : decode cX5_ripeDay 102 = .ok (.iadd, 1) := by decide +kernel
theorem dX5_ripeDay_103 : decode cX5_ripeDay 103 = .ok (.aload_n 0, 1) := by decide +kernel
theorem dX5_ripeDay_104 : decode cX5_ripeDay 104 = .ok (.getfield 55, 3) := by decide +kernel
theorem dX5_ripeDay_107 : decode cX5_ripeDay 107 = .ok (.iadd, 1) := by decide +kernel
theorem dX5_ripeDay_108 : decode cX5_ripeDay 108 = .ok (.iload 8, 2) := by decide +kernel
theorem dX5_ripeDay_110 : decode cX5_ripeDay 110 = .ok (.iload_n 3, 1) := by decide +kernel
theorem dX5_ripeDay_111 : decode cX5_ripeDay 111 = .ok (.irem, 1) := by decide +kernel
theorem dX5_ripeDay_112 : decode cX5_ripeDay 112 = .ok (.iadd, 1) := by decide +kernel
theorem dX5_ripeDay_113 : decode cX5_ripeDay 113 = .ok (.iconst 1, 1) := by decide +kernel
theorem dX5_ripeDay_114 : decode cX5_ripeDay 114 = .ok (.iadd, 1) := by decide +kernel
theorem dX5_ripeDay_115 : decode cX5_ripeDay 115 = .ok (.ireturn, 1) := by decide +kernel
theorem dX5_sizesIn_0 : decode cX5_sizesIn 0 = .ok (.iconst 0, 1) := by decide +kernel
theorem dX5_sizesIn_1 : decode cX5_sizesIn 1 = .ok (.istore_n 2, 1) := by decide +kernel
theorem dX5_sizesIn_2 : decode cX5_sizesIn 2 = .ok (.iconst 0, 1) := by decide +kernel
theorem dX5_sizesIn_3 : decode cX5_sizesIn 3 = .ok (.istore_n 3, 1) := by decide +kernel
theorem dX5_sizesIn_4 : decode cX5_sizesIn 4 = .ok (.iload_n 3, 1) := by decide +kernel
theorem dX5_sizesIn_5 : decode cX5_sizesIn 5 = .ok (.aload_n 0, 1) := by decide +kernel
theorem dX5_sizesIn_6 : decode cX5_sizesIn 6 = .ok (.getfield 49, 3) := by decide +kernel
theorem dX5_sizesIn_9 : decode cX5_sizesIn 9 = .ok (.if_icmp .ge 32, 3) := by decide +kernel
theorem dX5_sizesIn_12 : decode cX5_sizesIn 12 = .ok (.iload_n 2, 1) := by decide +kernel
theorem dX5_sizesIn_13 : decode cX5_sizesIn 13 = .ok (.iload_n 1, 1) := by decide +kernel
theorem dX5_sizesIn_14 : decode cX5_sizesIn 14 = .ok (.iload_n 3, 1) := by decide +kernel
theorem dX5_sizesIn_15 : decode cX5_sizesIn 15 = .ok (.invokestatic 86, 3) := by decide +kernel
theorem dX5_sizesIn_18 : decode cX5_sizesIn 18 = .ok (.ifCond .eq 14, 3) := by decide +kernel
theorem dX5_sizesIn_21 : decode cX5_sizesIn 21 = .ok (.aload_n 0, 1) := by decide +kernel
theorem dX5_sizesIn_22 : decode cX5_sizesIn 22 = .ok (.getfield 30, 3) := by decide +kernel
theorem dX5_sizesIn_25 : decode cX5_sizesIn 25 = .ok (.iload_n 3, 1) := by decide +kernel
theorem dX5_sizesIn_26 : decode cX5_sizesIn 26 = .ok (.invokestatic 65, 3) := by decide +kernel
theorem dX5_sizesIn_29 : decode cX5_sizesIn 29 = .ok (.goto 4, 3) := by decide +kernel
theorem dX5_sizesIn_32 : decode cX5_sizesIn 32 = .ok (.iconst 0, 1) := by decide +kernel
theorem dX5_sizesIn_33 : decode cX5_sizesIn 33 = .ok (.iadd, 1) := by decide +kernel
theorem dX5_sizesIn_34 : decode cX5_sizesIn 34 = .ok (.istore_n 2, 1) := by decide +kernel
theorem dX5_sizesIn_35 : decode cX5_sizesIn 35 = .ok (.iinc 3 1, 3) := by decide +kernel
theorem dX5_sizesIn_38 : decode cX5_sizesIn 38 = .ok (.goto (-34), 3) := by decide +kernel
theorem dX5_sizesIn_41 : decode cX5_sizesIn 41 = .ok (.iload_n 2, 1) := by decide +kernel
theorem dX5_sizesIn_42 : decode cX5_sizesIn 42 = .ok (.ireturn, 1) := by decide +kernel
theorem dX6_init_0 : decode cX6_init 0 = .ok (.aload_n 0, 1) := by decide +kernel
theorem dX6_init_1 : decode cX6_init 1 = .ok (.invokespecial 3, 3) := by decide +kernel
theorem dX6_init_4 : decode cX6_init 4 = .ok (.aload_n 0, 1) := by decide +kernel
theorem dX6_init_5 : decode cX6_init 5 = .ok (.bipush 30, 2) := by decide +kernel
theorem dX6_init_7 : decode cX6_init 7 = .ok (.bipush 31, 2) := by decide +kernel
theorem dX6_init_9 : decode cX6_init 9 = .ok (.multianewarray 11 2, 4) := by decide +kernel
theorem dX6_init_13 : decode cX6_init 13 = .ok (.putfield 13, 3) := by decide +kernel
theorem dX6_init_16 : decode cX6_init 16 = .ok (.return_, 1) := by decide +kernel
theorem dX6_forget_0 : decode cX6_forget 0 = .ok (.aload_n 0, 1) := by decide +kernel
theorem dX6_forget_1 : decode cX6_forget 1 = .ok (.iconst 0, 1) := by decide +kernel
theorem dX6_forget_2 : decode cX6_forget 2 = .ok (.putfield 18, 3) := by decide +kernel
theorem dX6_forget_5 : decode cX6_forget 5 = .ok (.return_, 1) := by decide +kernel
theorem dX6_add_0 : decode cX6_add 0 = .ok (.aload_n 1, 1) := by decide +kernel
theorem dX6_add_1 : decode cX6_add 1 = .ok (.getfield 22, 3) := by decide +kernel
theorem dX6_add_4 : decode cX6_add 4 = .ok (.aload_n 0, 1) := by decide +kernel
theorem dX6_add_5 : decode cX6_add 5 = .ok (.getfield 13, 3) := by decide +kernel
theorem dX6_add_8 : decode cX6_add 8 = .ok (.aload_n 0, 1) := by decide +kernel
theorem dX6_add_9 : decode cX6_add 9 = .ok (.getfield 26, 3) := by decide +kernel
theorem dX6_add_12 : decode cX6_add 12 = .ok (.invokestatic 29, 3) := by decide +kernel
theorem dX6_add_15 : decode cX6_add 15 = .ok (.invokestatic 33, 3) := by decide +kernel
theorem dX6_add_18 : decode cX6_add 18 = .ok (.aload_n 0, 1) := by decide +kernel
theorem dX6_add_19 : decode cX6_add 19 = .ok (.aload_n 0, 1) := by decide +kernel
theorem dX6_add_20 : decode cX6_add 20 = .ok (.getfield 26, 3) := by decide +kernel
theorem dX6_add_23 : decode cX6_add 23 = .ok (.iconst 1, 1) := by decide +kernel
theorem dX6_add_24 : decode cX6_add 24 = .ok (.iadd, 1) := by decide +kernel
theorem dX6_add_25 : decode cX6_add 25 = .ok (.bipush 30, 2) := by decide +kernel
theorem dX6_add_27 : decode cX6_add 27 = .ok (.irem, 1) := by decide +kernel
theorem dX6_add_28 : decode cX6_add 28 = .ok (.putfield 26, 3) := by decide +kernel
theorem dX6_add_31 : decode cX6_add 31 = .ok (.aload_n 0, 1) := by decide +kernel
theorem dX6_add_32 : decode cX6_add 32 = .ok (.aload_n 0, 1) := by decide +kernel
theorem dX6_add_33 : decode cX6_add 33 = .ok (.getfield 18, 3) := by decide +kernel
theorem dX6_add_36 : decode cX6_add 36 = .ok (.iconst 1, 1) := by decide +kernel
theorem dX6_add_37 : decode cX6_add 37 = .ok (.iadd, 1) := by decide +kernel
theorem dX6_add_38 : decode cX6_add 38 = .ok (.bipush 30, 2) := by decide +kernel
theorem dX6_add_40 : decode cX6_add 40 = .ok (.invokestatic 37, 3) := by decide +kernel
theorem dX6_add_43 : decode cX6_add 43 = .ok (.putfield 18, 3) := by decide +kernel
theorem dX6_add_46 : decode cX6_add 46 = .ok (.return_, 1) := by decide +kernel
theorem dX6_takeBack_0 : decode cX6_takeBack 0 = .ok (.iload_n 1, 1) := by decide +kernel
theorem dX6_takeBack_1 : decode cX6_takeBack 1 = .ok (.iconst 1, 1) := by decide +kernel
theorem dX6_takeBack_2 : decode cX6_takeBack 2 = .ok (.if_icmp .lt 11, 3) := by decide +kernel
theorem dX6_takeBack_5 : decode cX6_takeBack 5 = .ok (.iload_n 1, 1) := by decide +kernel
theorem dX6_takeBack_6 : decode cX6_takeBack 6 = .ok (.aload_n 0, 1) := by decide +kernel
theorem dX6_takeBack_7 : decode cX6_takeBack 7 = .ok (.getfield 18, 3) := by decide +kernel
theorem dX6_takeBack_10 : decode cX6_takeBack 10 = .ok (.if_icmp .le 5, 3) := by decide +kernel
theorem dX6_takeBack_13 : decode cX6_takeBack 13 = .ok (.iconst 0, 1) := by decide +kernel
theorem dX6_takeBack_14 : decode cX6_takeBack 14 = .ok (.ireturn, 1) := by decide +kernel
theorem dX6_takeBack_15 : decode cX6_takeBack 15 = .ok (.aload_n 0, 1) := by decide +kernel
theorem dX6_takeBack_16 : decode cX6_takeBack 16 = .ok (.aload_n 0, 1) := by decide +kernel
theorem dX6_takeBack_17 : decode cX6_takeBack 17 = .ok (.getfield 26, 3) := by decide +kernel
theorem dX6_takeBack_20 : decode cX6_takeBack 20 = .ok (.iload_n 1, 1) := by decide +kernel
theorem dX6_takeBack_21 : decode cX6_takeBack 21 = .ok (.isub, 1) := by decide +kernel
theorem dX6_takeBack_22 : decode cX6_takeBack 22 = .ok (.bipush 30, 2) := by decide +kernel
theorem dX6_takeBack_24 : decode cX6_takeBack 24 = .ok (.invokestatic 43, 3) := by decide +kernel
theorem dX6_takeBack_27 : decode cX6_takeBack 27 = .ok (.putfield 26, 3) := by decide +kernel
theorem dX6_takeBack_30 : decode cX6_takeBack 30 = .ok (.aload_n 0, 1) := by decide +kernel
theorem dX6_takeBack_31 : decode cX6_takeBack 31 = .ok (.dup, 1) := by decide +kernel
theorem dX6_takeBack_32 : decode cX6_takeBack 32 = .ok (.getfield 18, 3) := by decide +kernel
theorem dX6_takeBack_35 : decode cX6_takeBack 35 = .ok (.iload_n 1, 1) := by decide +kernel
theorem dX6_takeBack_36 : decode cX6_takeBack 36 = .ok (.isub, 1) := by decide +kernel
theorem dX6_takeBack_37 : decode cX6_takeBack 37 = .ok (.putfield 18, 3) := by decide +kernel
theorem dX6_takeBack_40 : decode cX6_takeBack 40 = .ok (.aload_n 0, 1) := by decide +kernel
theorem dX6_takeBack_41 : decode cX6_takeBack 41 = .ok (.getfield 13, 3) := by decide +kernel
theorem dX6_takeBack_44 : decode cX6_takeBack 44 = .ok (.aload_n 0, 1) := by decide +kernel
theorem dX6_takeBack_45 : decode cX6_takeBack 45 = .ok (.getfield 26, 3) := by decide +kernel
theorem dX6_takeBack_48 : decode cX6_takeBack 48 = .ok (.invokestatic 29, 3) := by decide +kernel
theorem dX6_takeBack_51 : decode cX6_takeBack 51 = .ok (.aload_n 2, 1) := by decide +kernel
theorem dX6_takeBack_52 : decode cX6_takeBack 52 = .ok (.getfield 22, 3) := by decide +kernel
theorem dX6_takeBack_55 : decode cX6_takeBack 55 = .ok (.invokestatic 33, 3) := by decide +kernel
theorem dX6_takeBack_58 : decode cX6_takeBack 58 = .ok (.iconst 1, 1) := by decide +kernel
theorem dX6_takeBack_59 : decode cX6_takeBack 59 = .ok (.ireturn, 1) := by decide +kernel
theorem dX7_init_0 : decode cX7_init 0 = .ok (.aload_n 0, 1) := by decide +kernel
theorem dX7_init_1 : decode cX7_init 1 = .ok (.invokespecial 3, 3) := by decide +kernel
theorem dX7_init_4 : decode cX7_init 4 = .ok (.aload_n 0, 1) := by decide +kernel
theorem dX7_init_5 : decode cX7_init 5 = .ok (.sipush 250, 3) := by decide +kernel
theorem dX7_init_8 : decode cX7_init 8 = .ok (.newarray .int, 2) := by decide +kernel
theorem dX7_init_10 : decode cX7_init 10 = .ok (.putfield 9, 3) := by decide +kernel
theorem dX7_init_13 : decode cX7_init 13 = .ok (.aload_n 0, 1) := by decide +kernel
theorem dX7_init_14 : decode cX7_init 14 = .ok (.iconst (-1), 1) := by decide +kernel
theorem dX7_init_15 : decode cX7_init 15 = .ok (.putfield 15, 3) := by decide +kernel
theorem dX7_init_18 : decode cX7_init 18 = .ok (.return_, 1) := by decide +kernel
theorem dX7_isFull_0 : decode cX7_isFull 0 = .ok (.aload_n 0, 1) := by decide +kernel
theorem dX7_isFull_1 : decode cX7_isFull 1 = .ok (.getfield 19, 3) := by decide +kernel
theorem dX7_isFull_4 : decode cX7_isFull 4 = .ok (.sipush 250, 3) := by decide +kernel
theorem dX7_isFull_7 : decode cX7_isFull 7 = .ok (.if_icmp .lt 7, 3) := by decide +kernel
theorem dX7_isFull_10 : decode cX7_isFull 10 = .ok (.iconst 1, 1) := by decide +kernel
theorem dX7_isFull_11 : decode cX7_isFull 11 = .ok (.goto 4, 3) := by decide +kernel
theorem dX7_isFull_14 : decode cX7_isFull 14 = .ok (.iconst 0, 1) := by decide +kernel
theorem dX7_isFull_15 : decode cX7_isFull 15 = .ok (.ireturn, 1) := by decide +kernel
theorem dX7_add_0 : decode cX7_add 0 = .ok (.aload_n 0, 1) := by decide +kernel
theorem dX7_add_1 : decode cX7_add 1 = .ok (.getfield 9, 3) := by decide +kernel
theorem dX7_add_4 : decode cX7_add 4 = .ok (.aload_n 0, 1) := by decide +kernel
theorem dX7_add_5 : decode cX7_add 5 = .ok (.getfield 19, 3) := by decide +kernel
theorem dX7_add_8 : decode cX7_add 8 = .ok (.iload_n 1, 1) := by decide +kernel
theorem dX7_add_9 : decode cX7_add 9 = .ok (.invokestatic 22, 3) := by decide +kernel
theorem dX7_add_12 : decode cX7_add 12 = .ok (.aload_n 0, 1) := by decide +kernel
theorem dX7_add_13 : decode cX7_add 13 = .ok (.dup, 1) := by decide +kernel
theorem dX7_add_14 : decode cX7_add 14 = .ok (.getfield 19, 3) := by decide +kernel
theorem dX7_add_17 : decode cX7_add 17 = .ok (.iconst 1, 1) := by decide +kernel
theorem dX7_add_18 : decode cX7_add 18 = .ok (.iadd, 1) := by decide +kernel
theorem dX7_add_19 : decode cX7_add 19 = .ok (.putfield 19, 3) := by decide +kernel
theorem dX7_add_22 : decode cX7_add 22 = .ok (.aload_n 0, 1) := by decide +kernel
theorem dX7_add_23 : decode cX7_add 23 = .ok (.getfield 19, 3) := by decide +kernel
theorem dX7_add_26 : decode cX7_add 26 = .ok (.ireturn, 1) := by decide +kernel
theorem dX7_empty_0 : decode cX7_empty 0 = .ok (.aload_n 0, 1) := by decide +kernel
theorem dX7_empty_1 : decode cX7_empty 1 = .ok (.iconst 0, 1) := by decide +kernel
theorem dX7_empty_2 : decode cX7_empty 2 = .ok (.putfield 19, 3) := by decide +kernel
theorem dX7_empty_5 : decode cX7_empty 5 = .ok (.return_, 1) := by decide +kernel
theorem dX7_readInto_0 : decode cX7_readInto 0 = .ok (.aload_n 0, 1) := by decide +kernel
theorem dX7_readInto_1 : decode cX7_readInto 1 = .ok (.iconst 0, 1) := by decide +kernel
theorem dX7_readInto_2 : decode cX7_readInto 2 = .ok (.putfield 26, 3) := by decide +kernel
theorem dX7_readInto_5 : decode cX7_readInto 5 = .ok (.aload_n 0, 1) := by decide +kernel
theorem dX7_readInto_6 : decode cX7_readInto 6 = .ok (.iconst 0, 1) := by decide +kernel
theorem dX7_readInto_7 : decode cX7_readInto 7 = .ok (.putfield 29, 3) := by decide +kernel
theorem dX7_readInto_10 : decode cX7_readInto 10 = .ok (.aload_n 0, 1) := by decide +kernel
theorem dX7_readInto_11 : decode cX7_readInto 11 = .ok (.iconst (-1), 1) := by decide +kernel
theorem dX7_readInto_12 : decode cX7_readInto 12 = .ok (.putfield 15, 3) := by decide +kernel
theorem dX7_readInto_15 : decode cX7_readInto 15 = .ok (.aload_n 1, 1) := by decide +kernel
theorem dX7_readInto_16 : decode cX7_readInto 16 = .ok (.invokevirtual 32, 3) := by decide +kernel
theorem dX7_readInto_19 : decode cX7_readInto 19 = .ok (.aload_n 0, 1) := by decide +kernel
theorem dX7_readInto_20 : decode cX7_readInto 20 = .ok (.invokevirtual 37, 3) := by decide +kernel
theorem dX7_readInto_23 : decode cX7_readInto 23 = .ok (.iconst 0, 1) := by decide +kernel
theorem dX7_readInto_24 : decode cX7_readInto 24 = .ok (.istore_n 2, 1) := by decide +kernel
theorem dX7_readInto_25 : decode cX7_readInto 25 = .ok (.iload_n 2, 1) := by decide +kernel
theorem dX7_readInto_26 : decode cX7_readInto 26 = .ok (.sipush 250, 3) := by decide +kernel
theorem dX7_readInto_29 : decode cX7_readInto 29 = .ok (.if_icmp .ge 36, 3) := by decide +kernel
theorem dX7_readInto_32 : decode cX7_readInto 32 = .ok (.aload_n 0, 1) := by decide +kernel
theorem dX7_readInto_33 : decode cX7_readInto 33 = .ok (.getfield 29, 3) := by decide +kernel
theorem dX7_readInto_36 : decode cX7_readInto 36 = .ok (.ifCond .ne 29, 3) := by decide +kernel
theorem dX7_readInto_39 : decode cX7_readInto 39 = .ok (.aload_n 0, 1) := by decide +kernel
theorem dX7_readInto_40 : decode cX7_readInto 40 = .ok (.getfield 26, 3) := by decide +kernel
theorem dX7_readInto_43 : decode cX7_readInto 43 = .ok (.aload_n 0, 1) := by decide +kernel
theorem dX7_readInto_44 : decode cX7_readInto 44 = .ok (.getfield 19, 3) := by decide +kernel
theorem dX7_readInto_47 : decode cX7_readInto 47 = .ok (.if_icmp .ge 18, 3) := by decide +kernel
theorem dX7_readInto_50 : decode cX7_readInto 50 = .ok (.aload_n 0, 1) := by decide +kernel
theorem dX7_readInto_51 : decode cX7_readInto 51 = .ok (.aload_n 1, 1) := by decide +kernel
theorem dX7_readInto_52 : decode cX7_readInto 52 = .ok (.invokevirtual 40, 3) := by decide +kernel
theorem dX7_readInto_55 : decode cX7_readInto 55 = .ok (.aload_n 0, 1) := by decide +kernel
theorem dX7_readInto_56 : decode cX7_readInto 56 = .ok (.invokevirtual 37, 3) := by decide +kernel
theorem dX7_readInto_59 : decode cX7_readInto 59 = .ok (.iinc 2 1, 3) := by decide +kernel
theorem dX7_readInto_62 : decode cX7_readInto 62 = .ok (.goto (-37), 3) := by decide +kernel
theorem dX7_readInto_65 : decode cX7_readInto 65 = .ok (.aload_n 1, 1) := by decide +kernel
theorem dX7_readInto_66 : decode cX7_readInto 66 = .ok (.invokevirtual 44, 3) := by decide +kernel
theorem dX7_readInto_69 : decode cX7_readInto 69 = .ok (.aload_n 0, 1) := by decide +kernel
theorem dX7_readInto_70 : decode cX7_readInto 70 = .ok (.getfield 29, 3) := by decide +kernel
theorem dX7_readInto_73 : decode cX7_readInto 73 = .ok (.ireturn, 1) := by decide +kernel
theorem dX7_readClause_0 : decode cX7_readClause 0 = .ok (.aload_n 0, 1) := by decide +kernel
theorem dX7_readClause_1 : decode cX7_readClause 1 = .ok (.getfield 9, 3) := by decide +kernel
theorem dX7_readClause_4 : decode cX7_readClause 4 = .ok (.aload_n 0, 1) := by decide +kernel
theorem dX7_readClause_5 : decode cX7_readClause 5 = .ok (.getfield 26, 3) := by decide +kernel
theorem dX7_readClause_8 : decode cX7_readClause 8 = .ok (.invokestatic 47, 3) := by decide +kernel
theorem dX7_readClause_11 : decode cX7_readClause 11 = .ok (.istore_n 2, 1) := by decide +kernel
theorem dX7_readClause_12 : decode cX7_readClause 12 = .ok (.aload_n 1, 1) := by decide +kernel
theorem dX7_readClause_13 : decode cX7_readClause 13 = .ok (.getfield 51, 3) := by decide +kernel
theorem dX7_readClause_16 : decode cX7_readClause 16 = .ok (.ifCond .ne 19, 3) := by decide +kernel
theorem dX7_readClause_19 : decode cX7_readClause 19 = .ok (.iload_n 2, 1) := by decide +kernel
theorem dX7_readClause_20 : decode cX7_readClause 20 = .ok (.bipush 116, 2) := by decide +kernel
theorem dX7_readClause_22 : decode cX7_readClause 22 = .ok (.if_icmp .eq 13, 3) := by decide +kernel
theorem dX7_readClause_25 : decode cX7_readClause 25 = .ok (.aload_n 0, 1) := by decide +kernel
theorem dX7_readClause_26 : decode cX7_readClause 26 = .ok (.iconst 1, 1) := by decide +kernel
theorem dX7_readClause_27 : decode cX7_readClause 27 = .ok (.aload_n 0, 1) := by decide +kernel
theorem dX7_readClause_28 : decode cX7_readClause 28 = .ok (.getfield 26, 3) := by decide +kernel
theorem dX7_readClause_31 : decode cX7_readClause 31 = .ok (.invokevirtual 54, 3) := by decide +kernel
theorem dX7_readClause_34 : decode cX7_readClause 34 = .ok (.return_, 1) := by decide +kernel
theorem dX7_readClause_35 : decode cX7_readClause 35 = .ok (.aload_n 0, 1) := by decide +kernel
theorem dX7_readClause_36 : decode cX7_readClause 36 = .ok (.iload_n 2, 1) := by decide +kernel
theorem dX7_readClause_37 : decode cX7_readClause 37 = .ok (.aload_n 1, 1) := by decide +kernel
theorem dX7_readClause_38 : decode cX7_readClause 38 = .ok (.invokevirtual 58, 3) := by decide +kernel
theorem dX7_readClause_41 : decode cX7_readClause 41 = .ok (.ifCond .eq 13, 3) := by decide +kernel
theorem dX7_readClause_44 : decode cX7_readClause 44 = .ok (.aload_n 0, 1) := by decide +kernel
theorem dX7_readClause_45 : decode cX7_readClause 45 = .ok (.iconst 3, 1) := by decide +kernel
theorem dX7_readClause_46 : decode cX7_readClause 46 = .ok (.aload_n 0, 1) := by decide +kernel
theorem dX7_readClause_47 : decode cX7_readClause 47 = .ok (.getfield 26, 3) := by decide +kernel
theorem dX7_readClause_50 : decode cX7_readClause 50 = .ok (.invokevirtual 54, 3) := by decide +kernel
theorem dX7_readClause_53 : decode cX7_readClause 53 = .ok (.return_, 1) := by decide +kernel
theorem dX7_readClause_54 : decode cX7_readClause 54 = .ok (.iload_n 2, 1) := by decide +kernel
theorem dX7_readClause_55 : decode cX7_readClause 55 = .ok (.tableswitch 105 107 119 #[81, 105, 105, 105, 105, 89, 105, 73, 105, 65, 105, 105, 97], 65) := by decide +kernel
theorem dX7_readClause_120 : decode cX7_readClause 120 = .ok (.aload_n 0, 1) := by decide +kernel
theorem dX7_readClause_121 : decode cX7_readClause 121 = .ok (.aload_n 1, 1) := by decide +kernel
theorem dX7_readClause_122 : decode cX7_readClause 122 = .ok (.invokevirtual 62, 3) := by decide +kernel
theorem dX7_readClause_125 : decode cX7_readClause 125 = .ok (.goto 44, 3) := by decide +kernel
theorem dX7_readClause_128 : decode cX7_readClause 128 = .ok (.aload_n 0, 1) := by decide +kernel
theorem dX7_readClause_129 : decode cX7_readClause 129 = .ok (.aload_n 1, 1) := by decide +kernel
theorem dX7_readClause_130 : decode cX7_readClause 130 = .ok (.invokevirtual 65, 3) := by decide +kernel
theorem dX7_readClause_133 : decode cX7_readClause 133 = .ok (.goto 36, 3) := by decide +kernel
theorem dX7_readClause_136 : decode cX7_readClause 136 = .ok (.aload_n 0, 1) := by decide +kernel
theorem dX7_readClause_137 : decode cX7_readClause 137 = .ok (.aload_n 1, 1) := by decide +kernel
theorem dX7_readClause_138 : decode cX7_readClause 138 = .ok (.invokevirtual 68, 3) := by decide +kernel
theorem dX7_readClause_141 : decode cX7_readClause 141 = .ok (.goto 28, 3) := by decide +kernel
theorem dX7_readClause_144 : decode cX7_readClause 144 = .ok (.aload_n 0, 1) := by decide +kernel
theorem dX7_readClause_145 : decode cX7_readClause 145 = .ok (.aload_n 1, 1) := by decide +kernel
theorem dX7_readClause_146 : decode cX7_readClause 146 = .ok (.invokevirtual 71, 3) := by decide +kernel
theorem dX7_readClause_149 : decode cX7_readClause 149 = .ok (.goto 20, 3) := by decide +kernel
theorem dX7_readClause_152 : decode cX7_readClause 152 = .ok (.aload_n 0, 1) := by decide +kernel
theorem dX7_readClause_153 : decode cX7_readClause 153 = .ok (.aload_n 1, 1) := by decide +kernel
theorem dX7_readClause_154 : decode cX7_readClause 154 = .ok (.invokevirtual 74, 3) := by decide +kernel
theorem dX7_readClause_157 : decode cX7_readClause 157 = .ok (.goto 12, 3) := by decide +kernel
theorem dX7_readClause_160 : decode cX7_readClause 160 = .ok (.aload_n 0, 1) := by decide +kernel
theorem dX7_readClause_161 : decode cX7_readClause 161 = .ok (.iconst 1, 1) := by decide +kernel
theorem dX7_readClause_162 : decode cX7_readClause 162 = .ok (.aload_n 0, 1) := by decide +kernel
theorem dX7_readClause_163 : decode cX7_readClause 163 = .ok (.getfield 26, 3) := by decide +kernel
theorem dX7_readClause_166 : decode cX7_readClause 166 = .ok (.invokevirtual 54, 3) := by decide +kernel
theorem dX7_readClause_169 : decode cX7_readClause 169 = .ok (.return_, 1) := by decide +kernel
theorem dX7_isOneTooMany_0 : decode cX7_isOneTooMany 0 = .ok (.iload_n 1, 1) := by decide +kernel
theorem dX7_isOneTooMany_1 : decode cX7_isOneTooMany 1 = .ok (.tableswitch 137 107 119 #[95, 137, 137, 137, 137, 109, 137, 80, 137, 67, 137, 137, 124], 67) := by decide +kernel
theorem dX7_isOneTooMany_68 : decode cX7_isOneTooMany 68 = .ok (.aload_n 2, 1) := by decide +kernel
theorem dX7_isOneTooMany_69 : decode cX7_isOneTooMany 69 = .ok (.getfield 51, 3) := by decide +kernel
theorem dX7_isOneTooMany_72 : decode cX7_isOneTooMany 72 = .ok (.ifCond .le 7, 3) := by decide +kernel
theorem dX7_isOneTooMany_75 : decode cX7_isOneTooMany 75 = .ok (.iconst 1, 1) := by decide +kernel
theorem dX7_isOneTooMany_76 : decode cX7_isOneTooMany 76 = .ok (.goto 4, 3) := by decide +kernel
theorem dX7_isOneTooMany_79 : decode cX7_isOneTooMany 79 = .ok (.iconst 0, 1) := by decide +kernel
theorem dX7_isOneTooMany_80 : decode cX7_isOneTooMany 80 = .ok (.ireturn, 1) := by decide +kernel
theorem dX7_isOneTooMany_81 : decode cX7_isOneTooMany 81 = .ok (.aload_n 2, 1) := by decide +kernel
theorem dX7_isOneTooMany_82 : decode cX7_isOneTooMany 82 = .ok (.getfield 77, 3) := by decide +kernel
theorem dX7_isOneTooMany_85 : decode cX7_isOneTooMany 85 = .ok (.bipush 8, 2) := by decide +kernel
theorem dX7_isOneTooMany_87 : decode cX7_isOneTooMany 87 = .ok (.if_icmp .lt 7, 3) := by decide +kernel
theorem dX7_isOneTooMany_90 : decode cX7_isOneTooMany 90 = .ok (.iconst 1, 1) := by decide +kernel
theorem dX7_isOneTooMany_91 : decode cX7_isOneTooMany 91 = .ok (.goto 4, 3) := by decide +kernel
theorem dX7_isOneTooMany_94 : decode cX7_isOneTooMany 94 = .ok (.iconst 0, 1) := by decide +kernel
theorem dX7_isOneTooMany_95 : decode cX7_isOneTooMany 95 = .ok (.ireturn, 1) := by decide +kernel
theorem dX7_isOneTooMany_96 : decode cX7_isOneTooMany 96 = .ok (.aload_n 2, 1) := by decide +kernel
theorem dX7_isOneTooMany_97 : decode cX7_isOneTooMany 97 = .ok (.getfield 80, 3) := by decide +kernel
theorem dX7_isOneTooMany_100 : decode cX7_isOneTooMany 100 = .ok (.iconst 3, 1) := by decide +kernel
theorem dX7_isOneTooMany_101 : decode cX7_isOneTooMany 101 = .ok (.if_icmp .lt 7, 3) := by decide +kernel
theorem dX7_isOneTooMany_104 : decode cX7_isOneTooMany 104 = .ok (.iconst 1, 1) := by decide +kernel
theorem dX7_isOneTooMany_105 : decode cX7_isOneTooMany 105 = .ok (.goto 4, 3) := by decide +kernel
theorem dX7_isOneTooMany_108 : decode cX7_isOneTooMany 108 = .ok (.iconst 0, 1) := by decide +kernel
theorem dX7_isOneTooMany_109 : decode cX7_isOneTooMany 109 = .ok (.ireturn, 1) := by decide +kernel
theorem dX7_isOneTooMany_110 : decode cX7_isOneTooMany 110 = .ok (.aload_n 2, 1) := by decide +kernel
theorem dX7_isOneTooMany_111 : decode cX7_isOneTooMany 111 = .ok (.getfield 83, 3) := by decide +kernel
theorem dX7_isOneTooMany_114 : decode cX7_isOneTooMany 114 = .ok (.bipush 7, 2) := by decide +kernel
theorem dX7_isOneTooMany_116 : decode cX7_isOneTooMany 116 = .ok (.if_icmp .lt 7, 3) := by decide +kernel
theorem dX7_isOneTooMany_119 : decode cX7_isOneTooMany 119 = .ok (.iconst 1, 1) := by decide +kernel
theorem dX7_isOneTooMany_120 : decode cX7_isOneTooMany 120 = .ok (.goto 4, 3) := by decide +kernel
theorem dX7_isOneTooMany_123 : decode cX7_isOneTooMany 123 = .ok (.iconst 0, 1) := by decide +kernel
theorem dX7_isOneTooMany_124 : decode cX7_isOneTooMany 124 = .ok (.ireturn, 1) := by decide +kernel
theorem dX7_isOneTooMany_125 : decode cX7_isOneTooMany 125 = .ok (.aload_n 2, 1) := by decide +kernel
theorem dX7_isOneTooMany_126 : decode cX7_isOneTooMany 126 = .ok (.getfield 86, 3) := by decide +kernel
theorem dX7_isOneTooMany_129 : decode cX7_isOneTooMany 129 = .ok (.ifCond .le 7, 3) := by decide +kernel
theorem dX7_isOneTooMany_132 : decode cX7_isOneTooMany 132 = .ok (.iconst 1, 1) := by decide +kernel
theorem dX7_isOneTooMany_133 : decode cX7_isOneTooMany 133 = .ok (.goto 4, 3) := by decide +kernel
theorem dX7_isOneTooMany_136 : decode cX7_isOneTooMany 136 = .ok (.iconst 0, 1) := by decide +kernel
theorem dX7_isOneTooMany_137 : decode cX7_isOneTooMany 137 = .ok (.ireturn, 1) := by decide +kernel
theorem dX7_isOneTooMany_138 : decode cX7_isOneTooMany 138 = .ok (.iconst 0, 1) := by decide +kernel
theorem dX7_isOneTooMany_139 : decode cX7_isOneTooMany 139 = .ok (.ireturn, 1) := by decide +kernel
theorem dX7_readTowns_0 : decode cX7_readTowns 0 = .ok (.aload_n 0, 1) := by decide +kernel
theorem dX7_readTowns_1 : decode cX7_readTowns 1 = .ok (.dup, 1) := by decide +kernel
theorem dX7_readTowns_2 : decode cX7_readTowns 2 = .ok (.getfield 26, 3) := by decide +kernel
theorem dX7_readTowns_5 : decode cX7_readTowns 5 = .ok (.iconst 1, 1) := by decide +kernel
theorem dX7_readTowns_6 : decode cX7_readTowns 6 = .ok (.iadd, 1) := by decide +kernel
theorem dX7_readTowns_7 : decode cX7_readTowns 7 = .ok (.putfield 26, 3) := by decide +kernel
theorem dX7_readTowns_10 : decode cX7_readTowns 10 = .ok (.aload_n 0, 1) := by decide +kernel
theorem dX7_readTowns_11 : decode cX7_readTowns 11 = .ok (.iconst 1, 1) := by decide +kernel
theorem dX7_readTowns_12 : decode cX7_readTowns 12 = .ok (.iconst 5, 1) := by decide +kernel
theorem dX7_readTowns_13 : decode cX7_readTowns 13 = .ok (.invokevirtual 89, 3) := by decide +kernel
theorem dX7_readTowns_16 : decode cX7_readTowns 16 = .ok (.istore_n 2, 1) := by decide +kernel
theorem dX7_readTowns_17 : decode cX7_readTowns 17 = .ok (.aload_n 0, 1) := by decide +kernel
theorem dX7_readTowns_18 : decode cX7_readTowns 18 = .ok (.invokevirtual 93, 3) := by decide +kernel
theorem dX7_readTowns_21 : decode cX7_readTowns 21 = .ok (.ifCond .eq 8, 3) := by decide +kernel
theorem dX7_readTowns_24 : decode cX7_readTowns 24 = .ok (.aload_n 1, 1) := by decide +kernel
theorem dX7_readTowns_25 : decode cX7_readTowns 25 = .ok (.iload_n 2, 1) := by decide +kernel
theorem dX7_readTowns_26 : decode cX7_readTowns 26 = .ok (.putfield 51, 3) := by decide +kernel
theorem dX7_readTowns_29 : decode cX7_readTowns 29 = .ok (.return_, 1) := by decide +kernel
theorem dX7_readRoad_0 : decode cX7_readRoad 0 = .ok (.aload_n 0, 1) := by decide +kernel
theorem dX7_readRoad_1 : decode cX7_readRoad 1 = .ok (.dup, 1) := by decide +kernel
theorem dX7_readRoad_2 : decode cX7_readRoad 2 = .ok (.getfield 26, 3) := by decide +kernel
theorem dX7_readRoad_5 : decode cX7_readRoad 5 = .ok (.iconst 1, 1) := by decide +kernel
theorem dX7_readRoad_6 : decode cX7_readRoad 6 = .ok (.iadd, 1) := by decide +kernel
theorem dX7_readRoad_7 : decode cX7_readRoad 7 = .ok (.putfield 26, 3) := by decide +kernel
theorem dX7_readRoad_10 : decode cX7_readRoad 10 = .ok (.aload_n 0, 1) := by decide +kernel
theorem dX7_readRoad_11 : decode cX7_readRoad 11 = .ok (.iconst 0, 1) := by decide +kernel
theorem dX7_readRoad_12 : decode cX7_readRoad 12 = .ok (.aload_n 1, 1) := by decide +kernel
theorem dX7_readRoad_13 : decode cX7_readRoad 13 = .ok (.getfield 51, 3) := by decide +kernel
theorem dX7_readRoad_16 : decode cX7_readRoad 16 = .ok (.iconst 1, 1) := by decide +kernel
theorem dX7_readRoad_17 : decode cX7_readRoad 17 = .ok (.isub, 1) := by decide +kernel
theorem dX7_readRoad_18 : decode cX7_readRoad 18 = .ok (.invokevirtual 89, 3) := by decide +kernel
theorem dX7_readRoad_21 : decode cX7_readRoad 21 = .ok (.istore_n 2, 1) := by decide +kernel
theorem dX7_readRoad_22 : decode cX7_readRoad 22 = .ok (.aload_n 0, 1) := by decide +kernel
theorem dX7_readRoad_23 : decode cX7_readRoad 23 = .ok (.iconst 0, 1) := by decide +kernel
theorem dX7_readRoad_24 : decode cX7_readRoad 24 = .ok (.aload_n 1, 1) := by decide +kernel
theorem dX7_readRoad_25 : decode cX7_readRoad 25 = .ok (.getfield 51, 3) := by decide +kernel
theorem dX7_readRoad_28 : decode cX7_readRoad 28 = .ok (.iconst 1, 1) := by decide +kernel
theorem dX7_readRoad_29 : decode cX7_readRoad 29 = .ok (.isub, 1) := by decide +kernel
theorem dX7_readRoad_30 : decode cX7_readRoad 30 = .ok (.invokevirtual 89, 3) := by decide +kernel
theorem dX7_readRoad_33 : decode cX7_readRoad 33 = .ok (.istore_n 3, 1) := by decide +kernel
theorem dX7_readRoad_34 : decode cX7_readRoad 34 = .ok (.iload_n 2, 1) := by decide +kernel
theorem dX7_readRoad_35 : decode cX7_readRoad 35 = .ok (.iload_n 3, 1) := by decide +kernel
theorem dX7_readRoad_36 : decode cX7_readRoad 36 = .ok (.if_icmp .ne 12, 3) := by decide +kernel
theorem dX7_readRoad_39 : decode cX7_readRoad 39 = .ok (.aload_n 0, 1) := by decide +kernel
theorem dX7_readRoad_40 : decode cX7_readRoad 40 = .ok (.iconst 4, 1) := by decide +kernel
theorem dX7_readRoad_41 : decode cX7_readRoad 41 = .ok (.aload_n 0, 1) := by decide +kernel
theorem dX7_readRoad_42 : decode cX7_readRoad 42 = .ok (.getfield 97, 3) := by decide +kernel
theorem dX7_readRoad_45 : decode cX7_readRoad 45 = .ok (.invokevirtual 54, 3) := by decide +kernel
theorem dX7_readRoad_48 : decode cX7_readRoad 48 = .ok (.aload_n 0, 1) := by decide +kernel
theorem dX7_readRoad_49 : decode cX7_readRoad 49 = .ok (.iconst 1, 1) := by decide +kernel
theorem dX7_readRoad_50 : decode cX7_readRoad 50 = .ok (.bipush 9, 2) := by decide +kernel
theorem dX7_readRoad_52 : decode cX7_readRoad 52 = .ok (.invokevirtual 89, 3) := by decide +kernel
theorem dX7_readRoad_55 : decode cX7_readRoad 55 = .ok (.istore 4, 2) := by decide +kernel
theorem dX7_readRoad_57 : decode cX7_readRoad 57 = .ok (.aload_n 0, 1) := by decide +kernel
theorem dX7_readRoad_58 : decode cX7_readRoad 58 = .ok (.invokevirtual 93, 3) := by decide +kernel
theorem dX7_readRoad_61 : decode cX7_readRoad 61 = .ok (.ifCond .eq 11, 3) := by decide +kernel
theorem dX7_readRoad_64 : decode cX7_readRoad 64 = .ok (.aload_n 1, 1) := by decide +kernel
theorem dX7_readRoad_65 : decode cX7_readRoad 65 = .ok (.iload_n 2, 1) := by decide +kernel
theorem dX7_readRoad_66 : decode cX7_readRoad 66 = .ok (.iload_n 3, 1) := by decide +kernel
theorem dX7_readRoad_67 : decode cX7_readRoad 67 = .ok (.iload 4, 2) := by decide +kernel
theorem dX7_readRoad_69 : decode cX7_readRoad 69 = .ok (.invokevirtual 100, 3) := by decide +kernel
theorem dX7_readRoad_72 : decode cX7_readRoad 72 = .ok (.return_, 1) := by decide +kernel
theorem dX7_readKeeper_0 : decode cX7_readKeeper 0 = .ok (.aload_n 0, 1) := by decide +kernel
theorem dX7_readKeeper_1 : decode cX7_readKeeper 1 = .ok (.dup, 1) := by decide +kernel
theorem dX7_readKeeper_2 : decode cX7_readKeeper 2 = .ok (.getfield 26, 3) := by decide +kernel
theorem dX7_readKeeper_5 : decode cX7_readKeeper 5 = .ok (.iconst 1, 1) := by decide +kernel
theorem dX7_readKeeper_6 : decode cX7_readKeeper 6 = .ok (.iadd, 1) := by decide +kernel
theorem dX7_readKeeper_7 : decode cX7_readKeeper 7 = .ok (.putfield 26, 3) := by decide +kernel
theorem dX7_readKeeper_10 : decode cX7_readKeeper 10 = .ok (.aload_n 0, 1) := by decide +kernel
theorem dX7_readKeeper_11 : decode cX7_readKeeper 11 = .ok (.iconst 0, 1) := by decide +kernel
theorem dX7_readKeeper_12 : decode cX7_readKeeper 12 = .ok (.aload_n 1, 1) := by decide +kernel
theorem dX7_readKeeper_13 : decode cX7_readKeeper 13 = .ok (.getfield 51, 3) := by decide +kernel
theorem dX7_readKeeper_16 : decode cX7_readKeeper 16 = .ok (.iconst 1, 1) := by decide +kernel
theorem dX7_readKeeper_17 : decode cX7_readKeeper 17 = .ok (.isub, 1) := by decide +kernel
theorem dX7_readKeeper_18 : decode cX7_readKeeper 18 = .ok (.invokevirtual 89, 3) := by decide +kernel
theorem dX7_readKeeper_21 : decode cX7_readKeeper 21 = .ok (.istore_n 2, 1) := by decide +kernel
theorem dX7_readKeeper_22 : decode cX7_readKeeper 22 = .ok (.aload_n 0, 1) := by decide +kernel
theorem dX7_readKeeper_23 : decode cX7_readKeeper 23 = .ok (.iconst 0, 1) := by decide +kernel
theorem dX7_readKeeper_24 : decode cX7_readKeeper 24 = .ok (.iconst 2, 1) := by decide +kernel
theorem dX7_readKeeper_25 : decode cX7_readKeeper 25 = .ok (.invokevirtual 89, 3) := by decide +kernel
theorem dX7_readKeeper_28 : decode cX7_readKeeper 28 = .ok (.istore_n 3, 1) := by decide +kernel
theorem dX7_readKeeper_29 : decode cX7_readKeeper 29 = .ok (.aload_n 0, 1) := by decide +kernel
theorem dX7_readKeeper_30 : decode cX7_readKeeper 30 = .ok (.invokevirtual 93, 3) := by decide +kernel
theorem dX7_readKeeper_33 : decode cX7_readKeeper 33 = .ok (.ifCond .eq 37, 3) := by decide +kernel
theorem dX7_readKeeper_36 : decode cX7_readKeeper 36 = .ok (.aload_n 1, 1) := by decide +kernel
theorem dX7_readKeeper_37 : decode cX7_readKeeper 37 = .ok (.getfield 104, 3) := by decide +kernel
theorem dX7_readKeeper_40 : decode cX7_readKeeper 40 = .ok (.aload_n 1, 1) := by decide +kernel
theorem dX7_readKeeper_41 : decode cX7_readKeeper 41 = .ok (.getfield 80, 3) := by decide +kernel
theorem dX7_readKeeper_44 : decode cX7_readKeeper 44 = .ok (.iload_n 2, 1) := by decide +kernel
theorem dX7_readKeeper_45 : decode cX7_readKeeper 45 = .ok (.invokestatic 22, 3) := by decide +kernel
theorem dX7_readKeeper_48 : decode cX7_readKeeper 48 = .ok (.aload_n 1, 1) := by decide +kernel
theorem dX7_readKeeper_49 : decode cX7_readKeeper 49 = .ok (.getfield 107, 3) := by decide +kernel
theorem dX7_readKeeper_52 : decode cX7_readKeeper 52 = .ok (.aload_n 1, 1) := by decide +kernel
theorem dX7_readKeeper_53 : decode cX7_readKeeper 53 = .ok (.getfield 80, 3) := by decide +kernel
theorem dX7_readKeeper_56 : decode cX7_readKeeper 56 = .ok (.iload_n 3, 1) := by decide +kernel
theorem dX7_readKeeper_57 : decode cX7_readKeeper 57 = .ok (.invokestatic 22, 3) := by decide +kernel
theorem dX7_readKeeper_60 : decode cX7_readKeeper 60 = .ok (.aload_n 1, 1) := by decide +kernel
theorem dX7_readKeeper_61 : decode cX7_readKeeper 61 = .ok (.dup, 1) := by decide +kernel
theorem dX7_readKeeper_62 : decode cX7_readKeeper 62 = .ok (.getfield 80, 3) := by decide +kernel
theorem dX7_readKeeper_65 : decode cX7_readKeeper 65 = .ok (.iconst 1, 1) := by decide +kernel
theorem dX7_readKeeper_66 : decode cX7_readKeeper 66 = .ok (.iadd, 1) := by decide +kernel
theorem dX7_readKeeper_67 : decode cX7_readKeeper 67 = .ok (.putfield 80, 3) := by decide +kernel
theorem dX7_readKeeper_70 : decode cX7_readKeeper 70 = .ok (.return_, 1) := by decide +kernel
theorem dX7_readPromise_0 : decode cX7_readPromise 0 = .ok (.aload_n 0, 1) := by decide +kernel
theorem dX7_readPromise_1 : decode cX7_readPromise 1 = .ok (.dup, 1) := by decide +kernel
theorem dX7_readPromise_2 : decode cX7_readPromise 2 = .ok (.getfield 26, 3) := by decide +kernel
theorem dX7_readPromise_5 : decode cX7_readPromise 5 = .ok (.iconst 1, 1) := by decide +kernel
theorem dX7_readPromise_6 : decode cX7_readPromise 6 = .ok (.iadd, 1) := by decide +kernel
theorem dX7_readPromise_7 : decode cX7_readPromise 7 = .ok (.putfield 26, 3) := by decide +kernel
theorem dX7_readPromise_10 : decode cX7_readPromise 10 = .ok (.aload_n 0, 1) := by decide +kernel
theorem dX7_readPromise_11 : decode cX7_readPromise 11 = .ok (.iconst 0, 1) := by decide +kernel
theorem dX7_readPromise_12 : decode cX7_readPromise 12 = .ok (.aload_n 1, 1) := by decide +kernel
theorem dX7_readPromise_13 : decode cX7_readPromise 13 = .ok (.getfield 80, 3) := by decide +kernel
theorem dX7_readPromise_16 : decode cX7_readPromise 16 = .ok (.iconst 1, 1) := by decide +kernel
theorem dX7_readPromise_17 : decode cX7_readPromise 17 = .ok (.isub, 1) := by decide +kernel
theorem dX7_readPromise_18 : decode cX7_readPromise 18 = .ok (.invokevirtual 89, 3) := by decide +kernel
theorem dX7_readPromise_21 : decode cX7_readPromise 21 = .ok (.istore_n 2, 1) := by decide +kernel
theorem dX7_readPromise_22 : decode cX7_readPromise 22 = .ok (.aload_n 0, 1) := by decide +kernel
theorem dX7_readPromise_23 : decode cX7_readPromise 23 = .ok (.iconst 0, 1) := by decide +kernel
theorem dX7_readPromise_24 : decode cX7_readPromise 24 = .ok (.aload_n 1, 1) := by decide +kernel
theorem dX7_readPromise_25 : decode cX7_readPromise 25 = .ok (.getfield 51, 3) := by decide +kernel
theorem dX7_readPromise_28 : decode cX7_readPromise 28 = .ok (.iconst 1, 1) := by decide +kernel
theorem dX7_readPromise_29 : decode cX7_readPromise 29 = .ok (.isub, 1) := by decide +kernel
theorem dX7_readPromise_30 : decode cX7_readPromise 30 = .ok (.invokevirtual 89, 3) := by decide +kernel
theorem dX7_readPromise_33 : decode cX7_readPromise 33 = .ok (.istore_n 3, 1) := by decide +kernel
theorem dX7_readPromise_34 : decode cX7_readPromise 34 = .ok (.aload_n 0, 1) := by decide +kernel
theorem dX7_readPromise_35 : decode cX7_readPromise 35 = .ok (.iconst 1, 1) := by decide +kernel
theorem dX7_readPromise_36 : decode cX7_readPromise 36 = .ok (.bipush 60, 2) := by decide +kernel
theorem dX7_readPromise_38 : decode cX7_readPromise 38 = .ok (.invokevirtual 89, 3) := by decide +kernel
theorem dX7_readPromise_41 : decode cX7_readPromise 41 = .ok (.istore 4, 2) := by decide +kernel
theorem dX7_readPromise_43 : decode cX7_readPromise 43 = .ok (.aload_n 0, 1) := by decide +kernel
theorem dX7_readPromise_44 : decode cX7_readPromise 44 = .ok (.iconst 0, 1) := by decide +kernel
theorem dX7_readPromise_45 : decode cX7_readPromise 45 = .ok (.bipush 9, 2) := by decide +kernel
theorem dX7_readPromise_47 : decode cX7_readPromise 47 = .ok (.invokevirtual 89, 3) := by decide +kernel
theorem dX7_readPromise_50 : decode cX7_readPromise 50 = .ok (.istore 5, 2) := by decide +kernel
theorem dX7_readPromise_52 : decode cX7_readPromise 52 = .ok (.aload_n 0, 1) := by decide +kernel
theorem dX7_readPromise_53 : decode cX7_readPromise 53 = .ok (.iconst 1, 1) := by decide +kernel
theorem dX7_readPromise_54 : decode cX7_readPromise 54 = .ok (.bipush 9, 2) := by decide +kernel
theorem dX7_readPromise_56 : decode cX7_readPromise 56 = .ok (.invokevirtual 89, 3) := by decide +kernel
theorem dX7_readPromise_59 : decode cX7_readPromise 59 = .ok (.istore 6, 2) := by decide +kernel
theorem dX7_readPromise_61 : decode cX7_readPromise 61 = .ok (.aload_n 0, 1) := by decide +kernel
theorem dX7_readPromise_62 : decode cX7_readPromise 62 = .ok (.iconst 0, 1) := by decide +kernel
theorem dX7_readPromise_63 : decode cX7_readPromise 63 = .ok (.bipush 9, 2) := by decide +kernel
theorem dX7_readPromise_65 : decode cX7_readPromise 65 = .ok (.invokevirtual 89, 3) := by decide +kernel
theorem dX7_readPromise_68 : decode cX7_readPromise 68 = .ok (.istore 7, 2) := by decide +kernel
theorem dX7_readPromise_70 : decode cX7_readPromise 70 = .ok (.iload 7, 2) := by decide +kernel
theorem dX7_readPromise_72 : decode cX7_readPromise 72 = .ok (.bipush 9, 2) := by decide +kernel
theorem dX7_readPromise_74 : decode cX7_readPromise 74 = .ok (.if_icmp .eq 21, 3) := by decide +kernel
theorem dX7_readPromise_77 : decode cX7_readPromise 77 = .ok (.iload 7, 2) := by decide +kernel
theorem dX7_readPromise_79 : decode cX7_readPromise 79 = .ok (.aload_n 1, 1) := by decide +kernel
theorem dX7_readPromise_80 : decode cX7_readPromise 80 = .ok (.getfield 83, 3) := by decide +kernel
theorem dX7_readPromise_83 : decode cX7_readPromise 83 = .ok (.if_icmp .lt 12, 3) := by decide +kernel
theorem dX7_readPromise_86 : decode cX7_readPromise 86 = .ok (.aload_n 0, 1) := by decide +kernel
theorem dX7_readPromise_87 : decode cX7_readPromise 87 = .ok (.iconst 2, 1) := by decide +kernel
theorem dX7_readPromise_88 : decode cX7_readPromise 88 = .ok (.aload_n 0, 1) := by decide +kernel
theorem dX7_readPromise_89 : decode cX7_readPromise 89 = .ok (.getfield 97, 3) := by decide +kernel
theorem dX7_readPromise_92 : decode cX7_readPromise 92 = .ok (.invokevirtual 54, 3) := by decide +kernel
theorem dX7_readPromise_95 : decode cX7_readPromise 95 = .ok (.aload_n 0, 1) := by decide +kernel
theorem dX7_readPromise_96 : decode cX7_readPromise 96 = .ok (.invokevirtual 93, 3) := by decide +kernel
theorem dX7_readPromise_99 : decode cX7_readPromise 99 = .ok (.ifCond .eq 94, 3) := by decide +kernel
theorem dX7_readPromise_102 : decode cX7_readPromise 102 = .ok (.aload_n 1, 1) := by decide +kernel
theorem dX7_readPromise_103 : decode cX7_readPromise 103 = .ok (.getfield 83, 3) := by decide +kernel
theorem dX7_readPromise_106 : decode cX7_readPromise 106 = .ok (.istore 8, 2) := by decide +kernel
theorem dX7_readPromise_108 : decode cX7_readPromise 108 = .ok (.aload_n 1, 1) := by decide +kernel
theorem dX7_readPromise_109 : decode cX7_readPromise 109 = .ok (.getfield 110, 3) := by decide +kernel
theorem dX7_readPromise_112 : decode cX7_readPromise 112 = .ok (.iload 8, 2) := by decide +kernel
theorem dX7_readPromise_114 : decode cX7_readPromise 114 = .ok (.iload_n 2, 1) := by decide +kernel
theorem dX7_readPromise_115 : decode cX7_readPromise 115 = .ok (.invokestatic 22, 3) := by decide +kernel
theorem dX7_readPromise_118 : decode cX7_readPromise 118 = .ok (.aload_n 1, 1) := by decide +kernel
theorem dX7_readPromise_119 : decode cX7_readPromise 119 = .ok (.getfield 113, 3) := by decide +kernel
theorem dX7_readPromise_122 : decode cX7_readPromise 122 = .ok (.iload 8, 2) := by decide +kernel
theorem dX7_readPromise_124 : decode cX7_readPromise 124 = .ok (.iload_n 3, 1) := by decide +kernel
theorem dX7_readPromise_125 : decode cX7_readPromise 125 = .ok (.invokestatic 22, 3) := by decide +kernel
theorem dX7_readPromise_128 : decode cX7_readPromise 128 = .ok (.aload_n 1, 1) := by decide +kernel
theorem dX7_readPromise_129 : decode cX7_readPromise 129 = .ok (.getfield 115, 3) := by decide +kernel
theorem dX7_readPromise_132 : decode cX7_readPromise 132 = .ok (.iload 8, 2) := by decide +kernel
theorem dX7_readPromise_134 : decode cX7_readPromise 134 = .ok (.iload 4, 2) := by decide +kernel
theorem dX7_readPromise_136 : decode cX7_readPromise 136 = .ok (.invokestatic 22, 3) := by decide +kernel
theorem dX7_readPromise_139 : decode cX7_readPromise 139 = .ok (.aload_n 1, 1) := by decide +kernel
theorem dX7_readPromise_140 : decode cX7_readPromise 140 = .ok (.getfield 118, 3) := by decide +kernel
theorem dX7_readPromise_143 : decode cX7_readPromise 143 = .ok (.iload 8, 2) := by decide +kernel
theorem dX7_readPromise_145 : decode cX7_readPromise 145 = .ok (.iload 5, 2) := by decide +kernel
theorem dX7_readPromise_147 : decode cX7_readPromise 147 = .ok (.invokestatic 22, 3) := by decide +kernel
theorem dX7_readPromise_150 : decode cX7_readPromise 150 = .ok (.aload_n 1, 1) := by decide +kernel
theorem dX7_readPromise_151 : decode cX7_readPromise 151 = .ok (.getfield 121, 3) := by decide +kernel
theorem dX7_readPromise_154 : decode cX7_readPromise 154 = .ok (.iload 8, 2) := by decide +kernel
theorem dX7_readPromise_156 : decode cX7_readPromise 156 = .ok (.iload 6, 2) := by decide +kernel
theorem dX7_readPromise_158 : decode cX7_readPromise 158 = .ok (.invokestatic 22, 3) := by decide +kernel
theorem dX7_readPromise_161 : decode cX7_readPromise 161 = .ok (.aload_n 1, 1) := by decide +kernel
theorem dX7_readPromise_162 : decode cX7_readPromise 162 = .ok (.getfield 124, 3) := by decide +kernel
theorem dX7_readPromise_165 : decode cX7_readPromise 165 = .ok (.iload 8, 2) := by decide +kernel
theorem dX7_readPromise_167 : decode cX7_readPromise 167 = .ok (.iload 7, 2) := by decide +kernel
theorem dX7_readPromise_169 : decode cX7_readPromise 169 = .ok (.bipush 9, 2) := by decide +kernel
theorem dX7_readPromise_171 : decode cX7_readPromise 171 = .ok (.if_icmp .ne 7, 3) := by decide +kernel
theorem dX7_readPromise_174 : decode cX7_readPromise 174 = .ok (.iconst (-1), 1) := by decide +kernel
theorem dX7_readPromise_175 : decode cX7_readPromise 175 = .ok (.goto 5, 3) := by decide +kernel
theorem dX7_readPromise_178 : decode cX7_readPromise 178 = .ok (.iload 7, 2) := by decide +kernel
theorem dX7_readPromise_180 : decode cX7_readPromise 180 = .ok (.invokestatic 22, 3) := by decide +kernel
theorem dX7_readPromise_183 : decode cX7_readPromise 183 = .ok (.aload_n 1, 1) := by decide +kernel
theorem dX7_readPromise_184 : decode cX7_readPromise 184 = .ok (.dup, 1) := by decide +kernel
theorem dX7_readPromise_185 : decode cX7_readPromise 185 = .ok (.getfield 83, 3) := by decide +kernel
theorem dX7_readPromise_188 : decode cX7_readPromise 188 = .ok (.iconst 1, 1) := by decide +kernel
theorem dX7_readPromise_189 : decode cX7_readPromise 189 = .ok (.iadd, 1) := by decide +kernel
theorem dX7_readPromise_190 : decode cX7_readPromise 190 = .ok (.putfield 83, 3) := by decide +kernel
theorem dX7_readPromise_193 : decode cX7_readPromise 193 = .ok (.return_, 1) := by decide +kernel
theorem dX7_readWinter_0 : decode cX7_readWinter 0 = .ok (.aload_n 0, 1) := by decide +kernel
theorem dX7_readWinter_1 : decode cX7_readWinter 1 = .ok (.dup, 1) := by decide +kernel
theorem dX7_readWinter_2 : decode cX7_readWinter 2 = .ok (.getfield 26, 3) := by decide +kernel
theorem dX7_readWinter_5 : decode cX7_readWinter 5 = .ok (.iconst 1, 1) := by decide +kernel
theorem dX7_readWinter_6 : decode cX7_readWinter 6 = .ok (.iadd, 1) := by decide +kernel
theorem dX7_readWinter_7 : decode cX7_readWinter 7 = .ok (.putfield 26, 3) := by decide +kernel
theorem dX7_readWinter_10 : decode cX7_readWinter 10 = .ok (.aload_n 0, 1) := by decide +kernel
theorem dX7_readWinter_11 : decode cX7_readWinter 11 = .ok (.iconst 0, 1) := by decide +kernel
theorem dX7_readWinter_12 : decode cX7_readWinter 12 = .ok (.bipush 98, 2) := by decide +kernel
theorem dX7_readWinter_14 : decode cX7_readWinter 14 = .ok (.invokevirtual 89, 3) := by decide +kernel
theorem dX7_readWinter_17 : decode cX7_readWinter 17 = .ok (.istore_n 2, 1) := by decide +kernel
theorem dX7_readWinter_18 : decode cX7_readWinter 18 = .ok (.aload_n 0, 1) := by decide +kernel
theorem dX7_readWinter_19 : decode cX7_readWinter 19 = .ok (.iconst 0, 1) := by decide +kernel
theorem dX7_readWinter_20 : decode cX7_readWinter 20 = .ok (.bipush 98, 2) := by decide +kernel
theorem dX7_readWinter_22 : decode cX7_readWinter 22 = .ok (.invokevirtual 89, 3) := by decide +kernel
theorem dX7_readWinter_25 : decode cX7_readWinter 25 = .ok (.istore_n 3, 1) := by decide +kernel
theorem dX7_readWinter_26 : decode cX7_readWinter 26 = .ok (.aload_n 0, 1) := by decide +kernel
theorem dX7_readWinter_27 : decode cX7_readWinter 27 = .ok (.iconst 2, 1) := by decide +kernel
theorem dX7_readWinter_28 : decode cX7_readWinter 28 = .ok (.bipush 99, 2) := by decide +kernel
theorem dX7_readWinter_30 : decode cX7_readWinter 30 = .ok (.invokevirtual 89, 3) := by decide +kernel
theorem dX7_readWinter_33 : decode cX7_readWinter 33 = .ok (.istore 4, 2) := by decide +kernel
theorem dX7_readWinter_35 : decode cX7_readWinter 35 = .ok (.iload_n 3, 1) := by decide +kernel
theorem dX7_readWinter_36 : decode cX7_readWinter 36 = .ok (.iload 4, 2) := by decide +kernel
theorem dX7_readWinter_38 : decode cX7_readWinter 38 = .ok (.if_icmp .lt 12, 3) := by decide +kernel
theorem dX7_readWinter_41 : decode cX7_readWinter 41 = .ok (.aload_n 0, 1) := by decide +kernel
theorem dX7_readWinter_42 : decode cX7_readWinter 42 = .ok (.iconst 4, 1) := by decide +kernel
theorem dX7_readWinter_43 : decode cX7_readWinter 43 = .ok (.aload_n 0, 1) := by decide +kernel
theorem dX7_readWinter_44 : decode cX7_readWinter 44 = .ok (.getfield 97, 3) := by decide +kernel
theorem dX7_readWinter_47 : decode cX7_readWinter 47 = .ok (.invokevirtual 54, 3) := by decide +kernel
theorem dX7_readWinter_50 : decode cX7_readWinter 50 = .ok (.aload_n 0, 1) := by decide +kernel
theorem dX7_readWinter_51 : decode cX7_readWinter 51 = .ok (.invokevirtual 93, 3) := by decide +kernel
theorem dX7_readWinter_54 : decode cX7_readWinter 54 = .ok (.ifCond .eq 19, 3) := by decide +kernel
theorem dX7_readWinter_57 : decode cX7_readWinter 57 = .ok (.aload_n 1, 1) := by decide +kernel
theorem dX7_readWinter_58 : decode cX7_readWinter 58 = .ok (.iload_n 2, 1) := by decide +kernel
theorem dX7_readWinter_59 : decode cX7_readWinter 59 = .ok (.putfield 127, 3) := by decide +kernel
theorem dX7_readWinter_62 : decode cX7_readWinter 62 = .ok (.aload_n 1, 1) := by decide +kernel
theorem dX7_readWinter_63 : decode cX7_readWinter 63 = .ok (.iload_n 3, 1) := by decide +kernel
theorem dX7_readWinter_64 : decode cX7_readWinter 64 = .ok (.putfield 130, 3) := by decide +kernel
theorem dX7_readWinter_67 : decode cX7_readWinter 67 = .ok (.aload_n 1, 1) := by decide +kernel
theorem dX7_readWinter_68 : decode cX7_readWinter 68 = .ok (.iload 4, 2) := by decide +kernel
theorem dX7_readWinter_70 : decode cX7_readWinter 70 = .ok (.putfield 86, 3) := by decide +kernel
theorem dX7_readWinter_73 : decode cX7_readWinter 73 = .ok (.return_, 1) := by decide +kernel
theorem dX7_number_0 : decode cX7_number 0 = .ok (.aload_n 0, 1) := by decide +kernel
theorem dX7_number_1 : decode cX7_number 1 = .ok (.getfield 29, 3) := by decide +kernel
theorem dX7_number_4 : decode cX7_number 4 = .ok (.ifCond .eq 5, 3) := by decide +kernel
theorem dX7_number_7 : decode cX7_number 7 = .ok (.iconst (-1), 1) := by decide +kernel
theorem dX7_number_8 : decode cX7_number 8 = .ok (.ireturn, 1) := by decide +kernel
theorem dX7_number_9 : decode cX7_number 9 = .ok (.aload_n 0, 1) := by decide +kernel
theorem dX7_number_10 : decode cX7_number 10 = .ok (.invokevirtual 37, 3) := by decide +kernel
theorem dX7_number_13 : decode cX7_number 13 = .ok (.aload_n 0, 1) := by decide +kernel
theorem dX7_number_14 : decode cX7_number 14 = .ok (.aload_n 0, 1) := by decide +kernel
theorem dX7_number_15 : decode cX7_number 15 = .ok (.getfield 26, 3) := by decide +kernel
theorem dX7_number_18 : decode cX7_number 18 = .ok (.putfield 97, 3) := by decide +kernel
theorem dX7_number_21 : decode cX7_number 21 = .ok (.iconst 0, 1) := by decide +kernel
theorem dX7_number_22 : decode cX7_number 22 = .ok (.istore_n 3, 1) := by decide +kernel
theorem dX7_number_23 : decode cX7_number 23 = .ok (.aload_n 0, 1) := by decide +kernel
theorem dX7_number_24 : decode cX7_number 24 = .ok (.getfield 26, 3) := by decide +kernel
theorem dX7_number_27 : decode cX7_number 27 = .ok (.aload_n 0, 1) := by decide +kernel
theorem dX7_number_28 : decode cX7_number 28 = .ok (.getfield 19, 3) := by decide +kernel
theorem dX7_number_31 : decode cX7_number 31 = .ok (.if_icmp .ge 59, 3) := by decide +kernel
theorem dX7_number_34 : decode cX7_number 34 = .ok (.aload_n 0, 1) := by decide +kernel
theorem dX7_number_35 : decode cX7_number 35 = .ok (.getfield 9, 3) := by decide +kernel
theorem dX7_number_38 : decode cX7_number 38 = .ok (.aload_n 0, 1) := by decide +kernel
theorem dX7_number_39 : decode cX7_number 39 = .ok (.getfield 26, 3) := by decide +kernel
theorem dX7_number_42 : decode cX7_number 42 = .ok (.invokestatic 47, 3) := by decide +kernel
theorem dX7_number_45 : decode cX7_number 45 = .ok (.invokestatic 133, 3) := by decide +kernel
theorem dX7_number_48 : decode cX7_number 48 = .ok (.ifCond .eq 42, 3) := by decide +kernel
theorem dX7_number_51 : decode cX7_number 51 = .ok (.iload_n 3, 1) := by decide +kernel
theorem dX7_number_52 : decode cX7_number 52 = .ok (.sipush 1000, 3) := by decide +kernel
theorem dX7_number_55 : decode cX7_number 55 = .ok (.invokestatic 137, 3) := by decide +kernel
theorem dX7_number_58 : decode cX7_number 58 = .ok (.bipush 10, 2) := by decide +kernel
theorem dX7_number_60 : decode cX7_number 60 = .ok (.imul, 1) := by decide +kernel
theorem dX7_number_61 : decode cX7_number 61 = .ok (.aload_n 0, 1) := by decide +kernel
theorem dX7_number_62 : decode cX7_number 62 = .ok (.getfield 9, 3) := by decide +kernel
theorem dX7_number_65 : decode cX7_number 65 = .ok (.aload_n 0, 1) := by decide +kernel
theorem dX7_number_66 : decode cX7_number 66 = .ok (.getfield 26, 3) := by decide +kernel
theorem dX7_number_69 : decode cX7_number 69 = .ok (.invokestatic 47, 3) := by decide +kernel
theorem dX7_number_72 : decode cX7_number 72 = .ok (.iadd, 1) := by decide +kernel
theorem dX7_number_73 : decode cX7_number 73 = .ok (.bipush 48, 2) := by decide +kernel
theorem dX7_number_75 : decode cX7_number 75 = .ok (.isub, 1) := by decide +kernel
theorem dX7_number_76 : decode cX7_number 76 = .ok (.istore_n 3, 1) := by decide +kernel
theorem dX7_number_77 : decode cX7_number 77 = .ok (.aload_n 0, 1) := by decide +kernel
theorem dX7_number_78 : decode cX7_number 78 = .ok (.dup, 1) := by decide +kernel
theorem dX7_number_79 : decode cX7_number 79 = .ok (.getfield 26, 3) := by decide +kernel
theorem dX7_number_82 : decode cX7_number 82 = .ok (.iconst 1, 1) := by decide +kernel
theorem dX7_number_83 : decode cX7_number 83 = .ok (.iadd, 1) := by decide +kernel
theorem dX7_number_84 : decode cX7_number 84 = .ok (.putfield 26, 3) := by decide +kernel
theorem dX7_number_87 : decode cX7_number 87 = .ok (.goto (-64), 3) := by decide +kernel
theorem dX7_number_90 : decode cX7_number 90 = .ok (.aload_n 0, 1) := by decide +kernel
theorem dX7_number_91 : decode cX7_number 91 = .ok (.getfield 26, 3) := by decide +kernel
theorem dX7_number_94 : decode cX7_number 94 = .ok (.aload_n 0, 1) := by decide +kernel
theorem dX7_number_95 : decode cX7_number 95 = .ok (.getfield 97, 3) := by decide +kernel
theorem dX7_number_98 : decode cX7_number 98 = .ok (.if_icmp .ne 15, 3) := by decide +kernel
theorem dX7_number_101 : decode cX7_number 101 = .ok (.aload_n 0, 1) := by decide +kernel
theorem dX7_number_102 : decode cX7_number 102 = .ok (.iconst 1, 1) := by decide +kernel
theorem dX7_number_103 : decode cX7_number 103 = .ok (.aload_n 0, 1) := by decide +kernel
theorem dX7_number_104 : decode cX7_number 104 = .ok (.getfield 97, 3) := by decide +kernel
theorem dX7_number_107 : decode cX7_number 107 = .ok (.invokevirtual 54, 3) := by decide +kernel
theorem dX7_number_110 : decode cX7_number 110 = .ok (.goto 35, 3) := by decide +kernel
theorem dX7_number_113 : decode cX7_number 113 = .ok (.aload_n 0, 1) := by decide +kernel
theorem dX7_number_114 : decode cX7_number 114 = .ok (.getfield 26, 3) := by decide +kernel
theorem dX7_number_117 : decode cX7_number 117 = .ok (.aload_n 0, 1) := by decide +kernel
theorem dX7_number_118 : decode cX7_number 118 = .ok (.getfield 97, 3) := by decide +kernel
theorem dX7_number_121 : decode cX7_number 121 = .ok (.isub, 1) := by decide +kernel
theorem dX7_number_122 : decode cX7_number 122 = .ok (.iconst 3, 1) := by decide +kernel
theorem dX7_number_123 : decode cX7_number 123 = .ok (.if_icmp .gt 13, 3) := by decide +kernel
theorem dX7_number_126 : decode cX7_number 126 = .ok (.iload_n 3, 1) := by decide +kernel
theorem dX7_number_127 : decode cX7_number 127 = .ok (.iload_n 1, 1) := by decide +kernel
theorem dX7_number_128 : decode cX7_number 128 = .ok (.if_icmp .lt 8, 3) := by decide +kernel
theorem dX7_number_131 : decode cX7_number 131 = .ok (.iload_n 3, 1) := by decide +kernel
theorem dX7_number_132 : decode cX7_number 132 = .ok (.iload_n 2, 1) := by decide +kernel
theorem dX7_number_133 : decode cX7_number 133 = .ok (.if_icmp .le 12, 3) := by decide +kernel
theorem dX7_number_136 : decode cX7_number 136 = .ok (.aload_n 0, 1) := by decide +kernel
theorem dX7_number_137 : decode cX7_number 137 = .ok (.iconst 2, 1) := by decide +kernel
theorem dX7_number_138 : decode cX7_number 138 = .ok (.aload_n 0, 1) := by decide +kernel
theorem dX7_number_139 : decode cX7_number 139 = .ok (.getfield 97, 3) := by decide +kernel
theorem dX7_number_142 : decode cX7_number 142 = .ok (.invokevirtual 54, 3) := by decide +kernel
theorem dX7_number_145 : decode cX7_number 145 = .ok (.iload_n 3, 1) := by decide +kernel
theorem dX7_number_146 : decode cX7_number 146 = .ok (.ireturn, 1) := by decide +kernel
theorem dX7_isEnd_0 : decode cX7_isEnd 0 = .ok (.aload_n 0, 1) := by decide +kernel
theorem dX7_isEnd_1 : decode cX7_isEnd 1 = .ok (.getfield 29, 3) := by decide +kernel
theorem dX7_isEnd_4 : decode cX7_isEnd 4 = .ok (.ifCond .eq 5, 3) := by decide +kernel
theorem dX7_isEnd_7 : decode cX7_isEnd 7 = .ok (.iconst 0, 1) := by decide +kernel
theorem dX7_isEnd_8 : decode cX7_isEnd 8 = .ok (.ireturn, 1) := by decide +kernel
theorem dX7_isEnd_9 : decode cX7_isEnd 9 = .ok (.aload_n 0, 1) := by decide +kernel
theorem dX7_isEnd_10 : decode cX7_isEnd 10 = .ok (.invokevirtual 37, 3) := by decide +kernel
theorem dX7_isEnd_13 : decode cX7_isEnd 13 = .ok (.aload_n 0, 1) := by decide +kernel
theorem dX7_isEnd_14 : decode cX7_isEnd 14 = .ok (.getfield 26, 3) := by decide +kernel
theorem dX7_isEnd_17 : decode cX7_isEnd 17 = .ok (.aload_n 0, 1) := by decide +kernel
theorem dX7_isEnd_18 : decode cX7_isEnd 18 = .ok (.getfield 19, 3) := by decide +kernel
theorem dX7_isEnd_21 : decode cX7_isEnd 21 = .ok (.if_icmp .ge 19, 3) := by decide +kernel
theorem dX7_isEnd_24 : decode cX7_isEnd 24 = .ok (.aload_n 0, 1) := by decide +kernel
theorem dX7_isEnd_25 : decode cX7_isEnd 25 = .ok (.getfield 9, 3) := by decide +kernel
theorem dX7_isEnd_28 : decode cX7_isEnd 28 = .ok (.aload_n 0, 1) := by decide +kernel
theorem dX7_isEnd_29 : decode cX7_isEnd 29 = .ok (.getfield 26, 3) := by decide +kernel
theorem dX7_isEnd_32 : decode cX7_isEnd 32 = .ok (.invokestatic 47, 3) := by decide +kernel
theorem dX7_isEnd_35 : decode cX7_isEnd 35 = .ok (.bipush 59, 2) := by decide +kernel
theorem dX7_isEnd_37 : decode cX7_isEnd 37 = .ok (.if_icmp .eq 14, 3) := by decide +kernel
theorem dX7_isEnd_40 : decode cX7_isEnd 40 = .ok (.aload_n 0, 1) := by decide +kernel
theorem dX7_isEnd_41 : decode cX7_isEnd 41 = .ok (.iconst 1, 1) := by decide +kernel
theorem dX7_isEnd_42 : decode cX7_isEnd 42 = .ok (.aload_n 0, 1) := by decide +kernel
theorem dX7_isEnd_43 : decode cX7_isEnd 43 = .ok (.getfield 26, 3) := by decide +kernel
theorem dX7_isEnd_46 : decode cX7_isEnd 46 = .ok (.invokevirtual 54, 3) := by decide +kernel
theorem dX7_isEnd_49 : decode cX7_isEnd 49 = .ok (.iconst 0, 1) := by decide +kernel
theorem dX7_isEnd_50 : decode cX7_isEnd 50 = .ok (.ireturn, 1) := by decide +kernel
theorem dX7_isEnd_51 : decode cX7_isEnd 51 = .ok (.aload_n 0, 1) := by decide +kernel
theorem dX7_isEnd_52 : decode cX7_isEnd 52 = .ok (.dup, 1) := by decide +kernel
theorem dX7_isEnd_53 : decode cX7_isEnd 53 = .ok (.getfield 26, 3) := by decide +kernel
theorem dX7_isEnd_56 : decode cX7_isEnd 56 = .ok (.iconst 1, 1) := by decide +kernel
theorem dX7_isEnd_57 : decode cX7_isEnd 57 = .ok (.iadd, 1) := by decide +kernel
theorem dX7_isEnd_58 : decode cX7_isEnd 58 = .ok (.putfield 26, 3) := by decide +kernel
theorem dX7_isEnd_61 : decode cX7_isEnd 61 = .ok (.iconst 1, 1) := by decide +kernel
theorem dX7_isEnd_62 : decode cX7_isEnd 62 = .ok (.ireturn, 1) := by decide +kernel
theorem dX7_skipBlanks_0 : decode cX7_skipBlanks 0 = .ok (.aload_n 0, 1) := by decide +kernel
theorem dX7_skipBlanks_1 : decode cX7_skipBlanks 1 = .ok (.getfield 26, 3) := by decide +kernel
theorem dX7_skipBlanks_4 : decode cX7_skipBlanks 4 = .ok (.aload_n 0, 1) := by decide +kernel
theorem dX7_skipBlanks_5 : decode cX7_skipBlanks 5 = .ok (.getfield 19, 3) := by decide +kernel
theorem dX7_skipBlanks_8 : decode cX7_skipBlanks 8 = .ok (.if_icmp .ge 32, 3) := by decide +kernel
theorem dX7_skipBlanks_11 : decode cX7_skipBlanks 11 = .ok (.aload_n 0, 1) := by decide +kernel
theorem dX7_skipBlanks_12 : decode cX7_skipBlanks 12 = .ok (.getfield 9, 3) := by decide +kernel
theorem dX7_skipBlanks_15 : decode cX7_skipBlanks 15 = .ok (.aload_n 0, 1) := by decide +kernel
theorem dX7_skipBlanks_16 : decode cX7_skipBlanks 16 = .ok (.getfield 26, 3) := by decide +kernel
theorem dX7_skipBlanks_19 : decode cX7_skipBlanks 19 = .ok (.invokestatic 47, 3) := by decide +kernel
theorem dX7_skipBlanks_22 : decode cX7_skipBlanks 22 = .ok (.bipush 32, 2) := by decide +kernel
theorem dX7_skipBlanks_24 : decode cX7_skipBlanks 24 = .ok (.if_icmp .ne 16, 3) := by decide +kernel
theorem dX7_skipBlanks_27 : decode cX7_skipBlanks 27 = .ok (.aload_n 0, 1) := by decide +kernel
theorem dX7_skipBlanks_28 : decode cX7_skipBlanks 28 = .ok (.dup, 1) := by decide +kernel
theorem dX7_skipBlanks_29 : decode cX7_skipBlanks 29 = .ok (.getfield 26, 3) := by decide +kernel
theorem dX7_skipBlanks_32 : decode cX7_skipBlanks 32 = .ok (.iconst 1, 1) := by decide +kernel
theorem dX7_skipBlanks_33 : decode cX7_skipBlanks 33 = .ok (.iadd, 1) := by decide +kernel
theorem dX7_skipBlanks_34 : decode cX7_skipBlanks 34 = .ok (.putfield 26, 3) := by decide +kernel
theorem dX7_skipBlanks_37 : decode cX7_skipBlanks 37 = .ok (.goto (-37), 3) := by decide +kernel
theorem dX7_skipBlanks_40 : decode cX7_skipBlanks 40 = .ok (.return_, 1) := by decide +kernel
theorem dX7_isFigure_0 : decode cX7_isFigure 0 = .ok (.iload_n 0, 1) := by decide +kernel
theorem dX7_isFigure_1 : decode cX7_isFigure 1 = .ok (.bipush 48, 2) := by decide +kernel
theorem dX7_isFigure_3 : decode cX7_isFigure 3 = .ok (.if_icmp .lt 13, 3) := by decide +kernel
theorem dX7_isFigure_6 : decode cX7_isFigure 6 = .ok (.iload_n 0, 1) := by decide +kernel
theorem dX7_isFigure_7 : decode cX7_isFigure 7 = .ok (.bipush 57, 2) := by decide +kernel
theorem dX7_isFigure_9 : decode cX7_isFigure 9 = .ok (.if_icmp .gt 7, 3) := by decide +kernel
theorem dX7_isFigure_12 : decode cX7_isFigure 12 = .ok (.iconst 1, 1) := by decide +kernel
theorem dX7_isFigure_13 : decode cX7_isFigure 13 = .ok (.goto 4, 3) := by decide +kernel
theorem dX7_isFigure_16 : decode cX7_isFigure 16 = .ok (.iconst 0, 1) := by decide +kernel
theorem dX7_isFigure_17 : decode cX7_isFigure 17 = .ok (.ireturn, 1) := by decide +kernel
theorem dX7_blame_0 : decode cX7_blame 0 = .ok (.aload_n 0, 1) := by decide +kernel
theorem dX7_blame_1 : decode cX7_blame 1 = .ok (.getfield 29, 3) := by decide +kernel
theorem dX7_blame_4 : decode cX7_blame 4 = .ok (.ifCond .ne 13, 3) := by decide +kernel
theorem dX7_blame_7 : decode cX7_blame 7 = .ok (.aload_n 0, 1) := by decide +kernel
theorem dX7_blame_8 : decode cX7_blame 8 = .ok (.iload_n 1, 1) := by decide +kernel
theorem dX7_blame_9 : decode cX7_blame 9 = .ok (.putfield 29, 3) := by decide +kernel
theorem dX7_blame_12 : decode cX7_blame 12 = .ok (.aload_n 0, 1) := by decide +kernel
theorem dX7_blame_13 : decode cX7_blame 13 = .ok (.iload_n 2, 1) := by decide +kernel
theorem dX7_blame_14 : decode cX7_blame 14 = .ok (.putfield 15, 3) := by decide +kernel
theorem dX7_blame_17 : decode cX7_blame 17 = .ok (.return_, 1) := by decide +kernel
theorem dX8_init_0 : decode cX8_init 0 = .ok (.aload_n 0, 1) := by decide +kernel
theorem dX8_init_1 : decode cX8_init 1 = .ok (.invokespecial 3, 3) := by decide +kernel
theorem dX8_init_4 : decode cX8_init 4 = .ok (.aload_n 0, 1) := by decide +kernel
theorem dX8_init_5 : decode cX8_init 5 = .ok (.bipush 8, 2) := by decide +kernel
theorem dX8_init_7 : decode cX8_init 7 = .ok (.newarray .int, 2) := by decide +kernel
theorem dX8_init_9 : decode cX8_init 9 = .ok (.putfield 11, 3) := by decide +kernel
theorem dX8_init_12 : decode cX8_init 12 = .ok (.aload_n 0, 1) := by decide +kernel
theorem dX8_init_13 : decode cX8_init 13 = .ok (.bipush 8, 2) := by decide +kernel
theorem dX8_init_15 : decode cX8_init 15 = .ok (.newarray .int, 2) := by decide +kernel
theorem dX8_init_17 : decode cX8_init 17 = .ok (.putfield 15, 3) := by decide +kernel
theorem dX8_init_20 : decode cX8_init 20 = .ok (.aload_n 0, 1) := by decide +kernel
theorem dX8_init_21 : decode cX8_init 21 = .ok (.bipush 8, 2) := by decide +kernel
theorem dX8_init_23 : decode cX8_init 23 = .ok (.newarray .int, 2) := by decide +kernel
theorem dX8_init_25 : decode cX8_init 25 = .ok (.putfield 18, 3) := by decide +kernel
theorem dX8_init_28 : decode cX8_init 28 = .ok (.aload_n 0, 1) := by decide +kernel
theorem dX8_init_29 : decode cX8_init 29 = .ok (.bipush 8, 2) := by decide +kernel
theorem dX8_init_31 : decode cX8_init 31 = .ok (.newarray .int, 2) := by decide +kernel
theorem dX8_init_33 : decode cX8_init 33 = .ok (.putfield 21, 3) := by decide +kernel
theorem dX8_init_36 : decode cX8_init 36 = .ok (.aload_n 0, 1) := by decide +kernel
theorem dX8_init_37 : decode cX8_init 37 = .ok (.bipush 8, 2) := by decide +kernel
theorem dX8_init_39 : decode cX8_init 39 = .ok (.newarray .int, 2) := by decide +kernel
theorem dX8_init_41 : decode cX8_init 41 = .ok (.putfield 24, 3) := by decide +kernel
theorem dX8_init_44 : decode cX8_init 44 = .ok (.aload_n 0, 1) := by decide +kernel
theorem dX8_init_45 : decode cX8_init 45 = .ok (.aload_n 1, 1) := by decide +kernel
theorem dX8_init_46 : decode cX8_init 46 = .ok (.putfield 27, 3) := by decide +kernel
theorem dX8_init_49 : decode cX8_init 49 = .ok (.aload_n 0, 1) := by decide +kernel
theorem dX8_init_50 : decode cX8_init 50 = .ok (.aload_n 2, 1) := by decide +kernel
theorem dX8_init_51 : decode cX8_init 51 = .ok (.putfield 31, 3) := by decide +kernel
theorem dX8_init_54 : decode cX8_init 54 = .ok (.return_, 1) := by decide +kernel
theorem dX8_tryOne_0 : decode cX8_tryOne 0 = .ok (.aload_n 0, 1) := by decide +kernel
theorem dX8_tryOne_1 : decode cX8_tryOne 1 = .ok (.getfield 11, 3) := by decide +kernel
theorem dX8_tryOne_4 : decode cX8_tryOne 4 = .ok (.bipush 7, 2) := by decide +kernel
theorem dX8_tryOne_6 : decode cX8_tryOne 6 = .ok (.iload_n 1, 1) := by decide +kernel
theorem dX8_tryOne_7 : decode cX8_tryOne 7 = .ok (.invokestatic 35, 3) := by decide +kernel
theorem dX8_tryOne_10 : decode cX8_tryOne 10 = .ok (.aload_n 0, 1) := by decide +kernel
theorem dX8_tryOne_11 : decode cX8_tryOne 11 = .ok (.getfield 18, 3) := by decide +kernel
theorem dX8_tryOne_14 : decode cX8_tryOne 14 = .ok (.bipush 7, 2) := by decide +kernel
theorem dX8_tryOne_16 : decode cX8_tryOne 16 = .ok (.iload_n 2, 1) := by decide +kernel
theorem dX8_tryOne_17 : decode cX8_tryOne 17 = .ok (.invokestatic 35, 3) := by decide +kernel
theorem dX8_tryOne_20 : decode cX8_tryOne 20 = .ok (.aload_n 0, 1) := by decide +kernel
theorem dX8_tryOne_21 : decode cX8_tryOne 21 = .ok (.getfield 15, 3) := by decide +kernel
theorem dX8_tryOne_24 : decode cX8_tryOne 24 = .ok (.bipush 7, 2) := by decide +kernel
theorem dX8_tryOne_26 : decode cX8_tryOne 26 = .ok (.iload_n 3, 1) := by decide +kernel
theorem dX8_tryOne_27 : decode cX8_tryOne 27 = .ok (.invokestatic 35, 3) := by decide +kernel
theorem dX8_tryOne_30 : decode cX8_tryOne 30 = .ok (.return_, 1) := by decide +kernel
theorem dX8_bestAt_0 : decode cX8_bestAt 0 = .ok (.iload_n 1, 1) := by decide +kernel
theorem dX8_bestAt_1 : decode cX8_bestAt 1 = .ok (.ifCond .lt 11, 3) := by decide +kernel
theorem dX8_bestAt_4 : decode cX8_bestAt 4 = .ok (.iload_n 1, 1) := by decide +kernel
theorem dX8_bestAt_5 : decode cX8_bestAt 5 = .ok (.aload_n 0, 1) := by decide +kernel
theorem dX8_bestAt_6 : decode cX8_bestAt 6 = .ok (.getfield 39, 3) := by decide +kernel
theorem dX8_bestAt_9 : decode cX8_bestAt 9 = .ok (.if_icmp .lt 7, 3) := by decide +kernel
theorem dX8_bestAt_12 : decode cX8_bestAt 12 = .ok (.iconst (-1), 1) := by decide +kernel
theorem dX8_bestAt_13 : decode cX8_bestAt 13 = .ok (.goto 11, 3) := by decide +kernel
theorem dX8_bestAt_16 : decode cX8_bestAt 16 = .ok (.aload_n 0, 1) := by decide +kernel
theorem dX8_bestAt_17 : decode cX8_bestAt 17 = .ok (.getfield 24, 3) := by decide +kernel
theorem dX8_bestAt_20 : decode cX8_bestAt 20 = .ok (.iload_n 1, 1) := by decide +kernel
theorem dX8_bestAt_21 : decode cX8_bestAt 21 = .ok (.invokestatic 43, 3) := by decide +kernel
theorem dX8_bestAt_24 : decode cX8_bestAt 24 = .ok (.ireturn, 1) := by decide +kernel
theorem dX8_canKeepAll_0 : decode cX8_canKeepAll 0 = .ok (.aload_n 0, 1) := by decide +kernel
theorem dX8_canKeepAll_1 : decode cX8_canKeepAll 1 = .ok (.iconst (-1), 1) := by decide +kernel
theorem dX8_canKeepAll_2 : decode cX8_canKeepAll 2 = .ok (.putfield 47, 3) := by decide +kernel
theorem dX8_canKeepAll_5 : decode cX8_canKeepAll 5 = .ok (.aload_n 0, 1) := by decide +kernel
theorem dX8_canKeepAll_6 : decode cX8_canKeepAll 6 = .ok (.iconst 0, 1) := by decide +kernel
theorem dX8_canKeepAll_7 : decode cX8_canKeepAll 7 = .ok (.putfield 39, 3) := by decide +kernel
theorem dX8_canKeepAll_10 : decode cX8_canKeepAll 10 = .ok (.aload_n 0, 1) := by decide +kernel
theorem dX8_canKeepAll_11 : decode cX8_canKeepAll 11 = .ok (.iload_n 3, 1) := by decide +kernel
theorem dX8_canKeepAll_12 : decode cX8_canKeepAll 12 = .ok (.putfield 50, 3) := by decide +kernel
theorem dX8_canKeepAll_15 : decode cX8_canKeepAll 15 = .ok (.aload_n 0, 1) := by decide +kernel
theorem dX8_canKeepAll_16 : decode cX8_canKeepAll 16 = .ok (.iload_n 2, 1) := by decide +kernel
theorem dX8_canKeepAll_17 : decode cX8_canKeepAll 17 = .ok (.invokevirtual 54, 3) := by decide +kernel
theorem dX8_canKeepAll_20 : decode cX8_canKeepAll 20 = .ok (.ifCond .eq 25, 3) := by decide +kernel
theorem dX8_canKeepAll_23 : decode cX8_canKeepAll 23 = .ok (.aload_n 0, 1) := by decide +kernel
theorem dX8_canKeepAll_24 : decode cX8_canKeepAll 24 = .ok (.iconst 0, 1) := by decide +kernel
theorem dX8_canKeepAll_25 : decode cX8_canKeepAll 25 = .ok (.aload_n 0, 1) := by decide +kernel
theorem dX8_canKeepAll_26 : decode cX8_canKeepAll 26 = .ok (.getfield 31, 3) := by decide +kernel
theorem dX8_canKeepAll_29 : decode cX8_canKeepAll 29 = .ok (.iload_n 1, 1) := by decide +kernel
theorem dX8_canKeepAll_30 : decode cX8_canKeepAll 30 = .ok (.invokevirtual 58, 3) := by decide +kernel
theorem dX8_canKeepAll_33 : decode cX8_canKeepAll 33 = .ok (.aload_n 0, 1) := by decide +kernel
theorem dX8_canKeepAll_34 : decode cX8_canKeepAll 34 = .ok (.getfield 31, 3) := by decide +kernel
theorem dX8_canKeepAll_37 : decode cX8_canKeepAll 37 = .ok (.invokevirtual 64, 3) := by decide +kernel
theorem dX8_canKeepAll_40 : decode cX8_canKeepAll 40 = .ok (.iconst 0, 1) := by decide +kernel
theorem dX8_canKeepAll_41 : decode cX8_canKeepAll 41 = .ok (.iload_n 2, 1) := by decide +kernel
theorem dX8_canKeepAll_42 : decode cX8_canKeepAll 42 = .ok (.invokestatic 68, 3) := by decide +kernel
theorem dX8_canKeepAll_45 : decode cX8_canKeepAll 45 = .ok (.aload_n 0, 1) := by decide +kernel
theorem dX8_canKeepAll_46 : decode cX8_canKeepAll 46 = .ok (.getfield 47, 3) := by decide +kernel
theorem dX8_canKeepAll_49 : decode cX8_canKeepAll 49 = .ok (.iconst (-1), 1) := by decide +kernel
theorem dX8_canKeepAll_50 : decode cX8_canKeepAll 50 = .ok (.if_icmp .eq 7, 3) := by decide +kernel
theorem dX8_canKeepAll_53 : decode cX8_canKeepAll 53 = .ok (.iconst 1, 1) := by decide +kernel
theorem dX8_canKeepAll_54 : decode cX8_canKeepAll 54 = .ok (.goto 4, 3) := by decide +kernel
theorem dX8_canKeepAll_57 : decode cX8_canKeepAll 57 = .ok (.iconst 0, 1) := by decide +kernel
theorem dX8_canKeepAll_58 : decode cX8_canKeepAll 58 = .ok (.ireturn, 1) := by decide +kernel
theorem dX8_prepare_0 : decode cX8_prepare 0 = .ok (.iconst 0, 1) := by decide +kernel
theorem dX8_prepare_1 : decode cX8_prepare 1 = .ok (.istore_n 2, 1) := by decide +kernel
theorem dX8_prepare_2 : decode cX8_prepare 2 = .ok (.iload_n 2, 1) := by decide +kernel
theorem dX8_prepare_3 : decode cX8_prepare 3 = .ok (.aload_n 0, 1) := by decide +kernel
theorem dX8_prepare_4 : decode cX8_prepare 4 = .ok (.getfield 27, 3) := by decide +kernel
theorem dX8_prepare_7 : decode cX8_prepare 7 = .ok (.getfield 72, 3) := by decide +kernel
theorem dX8_prepare_10 : decode cX8_prepare 10 = .ok (.if_icmp .ge 103, 3) := by decide +kernel
theorem dX8_prepare_13 : decode cX8_prepare 13 = .ok (.iload_n 1, 1) := by decide +kernel
theorem dX8_prepare_14 : decode cX8_prepare 14 = .ok (.iload_n 2, 1) := by decide +kernel
theorem dX8_prepare_15 : decode cX8_prepare 15 = .ok (.invokestatic 77, 3) := by decide +kernel
theorem dX8_prepare_18 : decode cX8_prepare 18 = .ok (.ifCond .eq 89, 3) := by decide +kernel
theorem dX8_prepare_21 : decode cX8_prepare 21 = .ok (.aload_n 0, 1) := by decide +kernel
theorem dX8_prepare_22 : decode cX8_prepare 22 = .ok (.getfield 11, 3) := by decide +kernel
theorem dX8_prepare_25 : decode cX8_prepare 25 = .ok (.iload_n 2, 1) := by decide +kernel
theorem dX8_prepare_26 : decode cX8_prepare 26 = .ok (.aload_n 0, 1) := by decide +kernel
theorem dX8_prepare_27 : decode cX8_prepare 27 = .ok (.getfield 27, 3) := by decide +kernel
theorem dX8_prepare_30 : decode cX8_prepare 30 = .ok (.getfield 81, 3) := by decide +kernel
theorem dX8_prepare_33 : decode cX8_prepare 33 = .ok (.iload_n 2, 1) := by decide +kernel
theorem dX8_prepare_34 : decode cX8_prepare 34 = .ok (.invokestatic 43, 3) := by decide +kernel
theorem dX8_prepare_37 : decode cX8_prepare 37 = .ok (.invokestatic 35, 3) := by decide +kernel
theorem dX8_prepare_40 : decode cX8_prepare 40 = .ok (.aload_n 0, 1) := by decide +kernel
theorem dX8_prepare_41 : decode cX8_prepare 41 = .ok (.getfield 15, 3) := by decide +kernel
theorem dX8_prepare_44 : decode cX8_prepare 44 = .ok (.iload_n 2, 1) := by decide +kernel
theorem dX8_prepare_45 : decode cX8_prepare 45 = .ok (.aload_n 0, 1) := by decide +kernel
theorem dX8_prepare_46 : decode cX8_prepare 46 = .ok (.getfield 27, 3) := by decide +kernel
theorem dX8_prepare_49 : decode cX8_prepare 49 = .ok (.getfield 82, 3) := by decide +kernel
theorem dX8_prepare_52 : decode cX8_prepare 52 = .ok (.iload_n 2, 1) := by decide +kernel
theorem dX8_prepare_53 : decode cX8_prepare 53 = .ok (.invokestatic 43, 3) := by decide +kernel
theorem dX8_prepare_56 : decode cX8_prepare 56 = .ok (.invokestatic 35, 3) := by decide +kernel
theorem dX8_prepare_59 : decode cX8_prepare 59 = .ok (.aload_n 0, 1) := by decide +kernel
theorem dX8_prepare_60 : decode cX8_prepare 60 = .ok (.getfield 18, 3) := by decide +kernel
theorem dX8_prepare_63 : decode cX8_prepare 63 = .ok (.iload_n 2, 1) := by decide +kernel
theorem dX8_prepare_64 : decode cX8_prepare 64 = .ok (.aload_n 0, 1) := by decide +kernel
theorem dX8_prepare_65 : decode cX8_prepare 65 = .ok (.getfield 31, 3) := by decide +kernel
theorem dX8_prepare_68 : decode cX8_prepare 68 = .ok (.iload_n 2, 1) := by decide +kernel
theorem dX8_prepare_69 : decode cX8_prepare 69 = .ok (.invokevirtual 83, 3) := by decide +kernel
theorem dX8_prepare_72 : decode cX8_prepare 72 = .ok (.invokestatic 35, 3) := by decide +kernel
theorem dX8_prepare_75 : decode cX8_prepare 75 = .ok (.aload_n 0, 1) := by decide +kernel
theorem dX8_prepare_76 : decode cX8_prepare 76 = .ok (.getfield 18, 3) := by decide +kernel
theorem dX8_prepare_79 : decode cX8_prepare 79 = .ok (.iload_n 2, 1) := by decide +kernel
theorem dX8_prepare_80 : decode cX8_prepare 80 = .ok (.invokestatic 43, 3) := by decide +kernel
theorem dX8_prepare_83 : decode cX8_prepare 83 = .ok (.iconst (-1), 1) := by decide +kernel
theorem dX8_prepare_84 : decode cX8_prepare 84 = .ok (.if_icmp .ne 23, 3) := by decide +kernel
theorem dX8_prepare_87 : decode cX8_prepare 87 = .ok (.iload_n 1, 1) := by decide +kernel
theorem dX8_prepare_88 : decode cX8_prepare 88 = .ok (.aload_n 0, 1) := by decide +kernel
theorem dX8_prepare_89 : decode cX8_prepare 89 = .ok (.getfield 27, 3) := by decide +kernel
theorem dX8_prepare_92 : decode cX8_prepare 92 = .ok (.getfield 86, 3) := by decide +kernel
theorem dX8_prepare_95 : decode cX8_prepare 95 = .ok (.iload_n 2, 1) := by decide +kernel
theorem dX8_prepare_96 : decode cX8_prepare 96 = .ok (.invokestatic 43, 3) := by decide +kernel
theorem dX8_prepare_99 : decode cX8_prepare 99 = .ok (.invokestatic 77, 3) := by decide +kernel
theorem dX8_prepare_102 : decode cX8_prepare 102 = .ok (.ifCond .ne 5, 3) := by decide +kernel
theorem dX8_prepare_105 : decode cX8_prepare 105 = .ok (.iconst 0, 1) := by decide +kernel
theorem dX8_prepare_106 : decode cX8_prepare 106 = .ok (.ireturn, 1) := by decide +kernel
theorem dX8_prepare_107 : decode cX8_prepare 107 = .ok (.iinc 2 1, 3) := by decide +kernel
theorem dX8_prepare_110 : decode cX8_prepare 110 = .ok (.goto (-108), 3) := by decide +kernel
theorem dX8_prepare_113 : decode cX8_prepare 113 = .ok (.iconst 1, 1) := by decide +kernel
theorem dX8_prepare_114 : decode cX8_prepare 114 = .ok (.ireturn, 1) := by decide +kernel
theorem dX8_extend_0 : decode cX8_extend 0 = .ok (.iload_n 1, 1) := by decide +kernel
theorem dX8_extend_1 : decode cX8_extend 1 = .ok (.bipush 8, 2) := by decide +kernel
theorem dX8_extend_3 : decode cX8_extend 3 = .ok (.if_icmp .gt 12, 3) := by decide +kernel
theorem dX8_extend_6 : decode cX8_extend 6 = .ok (.aload_n 0, 1) := by decide +kernel
theorem dX8_extend_7 : decode cX8_extend 7 = .ok (.iload 4, 2) := by decide +kernel
theorem dX8_extend_9 : decode cX8_extend 9 = .ok (.invokevirtual 89, 3) := by decide +kernel
theorem dX8_extend_12 : decode cX8_extend 12 = .ok (.ifCond .eq 4, 3) := by decide +kernel
theorem dX8_extend_15 : decode cX8_extend 15 = .ok (.return_, 1) := by decide +kernel
theorem dX8_extend_16 : decode cX8_extend 16 = .ok (.iload 5, 2) := by decide +kernel
theorem dX8_extend_18 : decode cX8_extend 18 = .ok (.ifCond .ne 11, 3) := by decide +kernel
theorem dX8_extend_21 : decode cX8_extend 21 = .ok (.aload_n 0, 1) := by decide +kernel
theorem dX8_extend_22 : decode cX8_extend 22 = .ok (.iload_n 1, 1) := by decide +kernel
theorem dX8_extend_23 : decode cX8_extend 23 = .ok (.iload 4, 2) := by decide +kernel
theorem dX8_extend_25 : decode cX8_extend 25 = .ok (.invokevirtual 92, 3) := by decide +kernel
theorem dX8_extend_28 : decode cX8_extend 28 = .ok (.return_, 1) := by decide +kernel
theorem dX8_extend_29 : decode cX8_extend 29 = .ok (.aload_n 0, 1) := by decide +kernel
theorem dX8_extend_30 : decode cX8_extend 30 = .ok (.iload_n 2, 1) := by decide +kernel
theorem dX8_extend_31 : decode cX8_extend 31 = .ok (.iload_n 3, 1) := by decide +kernel
theorem dX8_extend_32 : decode cX8_extend 32 = .ok (.iload 5, 2) := by decide +kernel
theorem dX8_extend_34 : decode cX8_extend 34 = .ok (.invokevirtual 96, 3) := by decide +kernel
theorem dX8_extend_37 : decode cX8_extend 37 = .ok (.ifCond .eq 4, 3) := by decide +kernel
theorem dX8_extend_40 : decode cX8_extend 40 = .ok (.return_, 1) := by decide +kernel
theorem dX8_extend_41 : decode cX8_extend 41 = .ok (.iconst 0, 1) := by decide +kernel
theorem dX8_extend_42 : decode cX8_extend 42 = .ok (.istore 6, 2) := by decide +kernel
theorem dX8_extend_44 : decode cX8_extend 44 = .ok (.iload 6, 2) := by decide +kernel
theorem dX8_extend_46 : decode cX8_extend 46 = .ok (.bipush 8, 2) := by decide +kernel
theorem dX8_extend_48 : decode cX8_extend 48 = .ok (.if_icmp .ge 131, 3) := by decide +kernel
theorem dX8_extend_51 : decode cX8_extend 51 = .ok (.iload 5, 2) := by decide +kernel
theorem dX8_extend_53 : decode cX8_extend 53 = .ok (.iload 6, 2) := by decide +kernel
theorem dX8_extend_55 : decode cX8_extend 55 = .ok (.invokestatic 77, 3) := by decide +kernel
theorem dX8_extend_58 : decode cX8_extend 58 = .ok (.ifCond .eq 115, 3) := by decide +kernel
theorem dX8_extend_61 : decode cX8_extend 61 = .ok (.aload_n 0, 1) := by decide +kernel
theorem dX8_extend_62 : decode cX8_extend 62 = .ok (.getfield 18, 3) := by decide +kernel
theorem dX8_extend_65 : decode cX8_extend 65 = .ok (.iload 6, 2) := by decide +kernel
theorem dX8_extend_67 : decode cX8_extend 67 = .ok (.invokestatic 43, 3) := by decide +kernel
theorem dX8_extend_70 : decode cX8_extend 70 = .ok (.iconst (-1), 1) := by decide +kernel
theorem dX8_extend_71 : decode cX8_extend 71 = .ok (.if_icmp .eq 102, 3) := by decide +kernel
theorem dX8_extend_74 : decode cX8_extend 74 = .ok (.aload_n 0, 1) := by decide +kernel
theorem dX8_extend_75 : decode cX8_extend 75 = .ok (.getfield 11, 3) := by decide +kernel
theorem dX8_extend_78 : decode cX8_extend 78 = .ok (.iload 6, 2) := by decide +kernel
theorem dX8_extend_80 : decode cX8_extend 80 = .ok (.invokestatic 43, 3) := by decide +kernel
theorem dX8_extend_83 : decode cX8_extend 83 = .ok (.istore 7, 2) := by decide +kernel
theorem dX8_extend_85 : decode cX8_extend 85 = .ok (.aload_n 0, 1) := by decide +kernel
theorem dX8_extend_86 : decode cX8_extend 86 = .ok (.getfield 27, 3) := by decide +kernel
theorem dX8_extend_89 : decode cX8_extend 89 = .ok (.iload_n 2, 1) := by decide +kernel
theorem dX8_extend_90 : decode cX8_extend 90 = .ok (.iload 7, 2) := by decide +kernel
theorem dX8_extend_92 : decode cX8_extend 92 = .ok (.invokevirtual 100, 3) := by decide +kernel
theorem dX8_extend_95 : decode cX8_extend 95 = .ok (.istore 8, 2) := by decide +kernel
theorem dX8_extend_97 : decode cX8_extend 97 = .ok (.iload_n 3, 1) := by decide +kernel
theorem dX8_extend_98 : decode cX8_extend 98 = .ok (.iload 8, 2) := by decide +kernel
theorem dX8_extend_100 : decode cX8_extend 100 = .ok (.iadd, 1) := by decide +kernel
theorem dX8_extend_101 : decode cX8_extend 101 = .ok (.aload_n 0, 1) := by decide +kernel
theorem dX8_extend_102 : decode cX8_extend 102 = .ok (.getfield 18, 3) := by decide +kernel
theorem dX8_extend_105 : decode cX8_extend 105 = .ok (.iload 6, 2) := by decide +kernel
theorem dX8_extend_107 : decode cX8_extend 107 = .ok (.invokestatic 43, 3) := by decide +kernel
theorem dX8_extend_110 : decode cX8_extend 110 = .ok (.invokestatic 104, 3) := by decide +kernel
theorem dX8_extend_113 : decode cX8_extend 113 = .ok (.istore 9, 2) := by decide +kernel
theorem dX8_extend_115 : decode cX8_extend 115 = .ok (.iload 5, 2) := by decide +kernel
theorem dX8_extend_117 : decode cX8_extend 117 = .ok (.iconst 1, 1) := by decide +kernel
theorem dX8_extend_118 : decode cX8_extend 118 = .ok (.iload 6, 2) := by decide +kernel
theorem dX8_extend_120 : decode cX8_extend 120 = .ok (.ishl, 1) := by decide +kernel
theorem dX8_extend_121 : decode cX8_extend 121 = .ok (.iconst (-1), 1) := by decide +kernel
theorem dX8_extend_122 : decode cX8_extend 122 = .ok (.ixor, 1) := by decide +kernel
theorem dX8_extend_123 : decode cX8_extend 123 = .ok (.iand, 1) := by decide +kernel
theorem dX8_extend_124 : decode cX8_extend 124 = .ok (.istore 10, 2) := by decide +kernel
theorem dX8_extend_126 : decode cX8_extend 126 = .ok (.aload_n 0, 1) := by decide +kernel
theorem dX8_extend_127 : decode cX8_extend 127 = .ok (.getfield 21, 3) := by decide +kernel
theorem dX8_extend_130 : decode cX8_extend 130 = .ok (.iload_n 1, 1) := by decide +kernel
theorem dX8_extend_131 : decode cX8_extend 131 = .ok (.iload 6, 2) := by decide +kernel
theorem dX8_extend_133 : decode cX8_extend 133 = .ok (.invokestatic 35, 3) := by decide +kernel
theorem dX8_extend_136 : decode cX8_extend 136 = .ok (.aload_n 0, 1) := by decide +kernel
theorem dX8_extend_137 : decode cX8_extend 137 = .ok (.iload 6, 2) := by decide +kernel
theorem dX8_extend_139 : decode cX8_extend 139 = .ok (.iload 10, 2) := by decide +kernel
theorem dX8_extend_141 : decode cX8_extend 141 = .ok (.iload 9, 2) := by decide +kernel
theorem dX8_extend_143 : decode cX8_extend 143 = .ok (.invokevirtual 109, 3) := by decide +kernel
theorem dX8_extend_146 : decode cX8_extend 146 = .ok (.aload_n 0, 1) := by decide +kernel
theorem dX8_extend_147 : decode cX8_extend 147 = .ok (.iload_n 1, 1) := by decide +kernel
theorem dX8_extend_148 : decode cX8_extend 148 = .ok (.iconst 1, 1) := by decide +kernel
theorem dX8_extend_149 : decode cX8_extend 149 = .ok (.iadd, 1) := by decide +kernel
theorem dX8_extend_150 : decode cX8_extend 150 = .ok (.iload 7, 2) := by decide +kernel
theorem dX8_extend_152 : decode cX8_extend 152 = .ok (.iload 9, 2) := by decide +kernel
theorem dX8_extend_154 : decode cX8_extend 154 = .ok (.iload 4, 2) := by decide +kernel
theorem dX8_extend_156 : decode cX8_extend 156 = .ok (.iload 8, 2) := by decide +kernel
theorem dX8_extend_158 : decode cX8_extend 158 = .ok (.iadd, 1) := by decide +kernel
theorem dX8_extend_159 : decode cX8_extend 159 = .ok (.iload 10, 2) := by decide +kernel
theorem dX8_extend_161 : decode cX8_extend 161 = .ok (.invokestatic 68, 3) := by decide +kernel
theorem dX8_extend_164 : decode cX8_extend 164 = .ok (.aload_n 0, 1) := by decide +kernel
theorem dX8_extend_165 : decode cX8_extend 165 = .ok (.iload 6, 2) := by decide +kernel
theorem dX8_extend_167 : decode cX8_extend 167 = .ok (.iload 10, 2) := by decide +kernel
theorem dX8_extend_169 : decode cX8_extend 169 = .ok (.iconst (-1), 1) := by decide +kernel
theorem dX8_extend_170 : decode cX8_extend 170 = .ok (.invokevirtual 109, 3) := by decide +kernel
theorem dX8_extend_173 : decode cX8_extend 173 = .ok (.iinc 6 1, 3) := by decide +kernel
theorem dX8_extend_176 : decode cX8_extend 176 = .ok (.goto (-132), 3) := by decide +kernel
theorem dX8_extend_179 : decode cX8_extend 179 = .ok (.return_, 1) := by decide +kernel
theorem dX8_cannotBeBetter_0 : decode cX8_cannotBeBetter 0 = .ok (.aload_n 0, 1) := by decide +kernel
theorem dX8_cannotBeBetter_1 : decode cX8_cannotBeBetter 1 = .ok (.getfield 47, 3) := by decide +kernel
theorem dX8_cannotBeBetter_4 : decode cX8_cannotBeBetter 4 = .ok (.iconst (-1), 1) := by decide +kernel
theorem dX8_cannotBeBetter_5 : decode cX8_cannotBeBetter 5 = .ok (.if_icmp .eq 22, 3) := by decide +kernel
theorem dX8_cannotBeBetter_8 : decode cX8_cannotBeBetter 8 = .ok (.aload_n 0, 1) := by decide +kernel
theorem dX8_cannotBeBetter_9 : decode cX8_cannotBeBetter 9 = .ok (.getfield 50, 3) := by decide +kernel
theorem dX8_cannotBeBetter_12 : decode cX8_cannotBeBetter 12 = .ok (.ifCond .ne 11, 3) := by decide +kernel
theorem dX8_cannotBeBetter_15 : decode cX8_cannotBeBetter 15 = .ok (.iload_n 1, 1) := by decide +kernel
theorem dX8_cannotBeBetter_16 : decode cX8_cannotBeBetter 16 = .ok (.aload_n 0, 1) := by decide +kernel
theorem dX8_cannotBeBetter_17 : decode cX8_cannotBeBetter 17 = .ok (.getfield 47, 3) := by decide +kernel
theorem dX8_cannotBeBetter_20 : decode cX8_cannotBeBetter 20 = .ok (.if_icmp .lt 7, 3) := by decide +kernel
theorem dX8_cannotBeBetter_23 : decode cX8_cannotBeBetter 23 = .ok (.iconst 1, 1) := by decide +kernel
theorem dX8_cannotBeBetter_24 : decode cX8_cannotBeBetter 24 = .ok (.goto 4, 3) := by decide +kernel
theorem dX8_cannotBeBetter_27 : decode cX8_cannotBeBetter 27 = .ok (.iconst 0, 1) := by decide +kernel
theorem dX8_cannotBeBetter_28 : decode cX8_cannotBeBetter 28 = .ok (.ireturn, 1) := by decide +kernel
theorem dX8_takeAsBest_0 : decode cX8_takeAsBest 0 = .ok (.aload_n 0, 1) := by decide +kernel
theorem dX8_takeAsBest_1 : decode cX8_takeAsBest 1 = .ok (.iload_n 2, 1) := by decide +kernel
theorem dX8_takeAsBest_2 : decode cX8_takeAsBest 2 = .ok (.putfield 47, 3) := by decide +kernel
theorem dX8_takeAsBest_5 : decode cX8_takeAsBest 5 = .ok (.aload_n 0, 1) := by decide +kernel
theorem dX8_takeAsBest_6 : decode cX8_takeAsBest 6 = .ok (.iload_n 1, 1) := by decide +kernel
theorem dX8_takeAsBest_7 : decode cX8_takeAsBest 7 = .ok (.putfield 39, 3) := by decide +kernel
theorem dX8_takeAsBest_10 : decode cX8_takeAsBest 10 = .ok (.aload_n 0, 1) := by decide +kernel
theorem dX8_takeAsBest_11 : decode cX8_takeAsBest 11 = .ok (.getfield 21, 3) := by decide +kernel
theorem dX8_takeAsBest_14 : decode cX8_takeAsBest 14 = .ok (.aload_n 0, 1) := by decide +kernel
theorem dX8_takeAsBest_15 : decode cX8_takeAsBest 15 = .ok (.getfield 24, 3) := by decide +kernel
theorem dX8_takeAsBest_18 : decode cX8_takeAsBest 18 = .ok (.invokestatic 113, 3) := by decide +kernel
theorem dX8_takeAsBest_21 : decode cX8_takeAsBest 21 = .ok (.return_, 1) := by decide +kernel
theorem dX8_misses_0 : decode cX8_misses 0 = .ok (.iconst 0, 1) := by decide +kernel
theorem dX8_misses_1 : decode cX8_misses 1 = .ok (.istore 4, 2) := by decide +kernel
theorem dX8_misses_3 : decode cX8_misses 3 = .ok (.iload 4, 2) := by decide +kernel
theorem dX8_misses_5 : decode cX8_misses 5 = .ok (.bipush 8, 2) := by decide +kernel
theorem dX8_misses_7 : decode cX8_misses 7 = .ok (.if_icmp .ge 88, 3) := by decide +kernel
theorem dX8_misses_10 : decode cX8_misses 10 = .ok (.iload_n 3, 1) := by decide +kernel
theorem dX8_misses_11 : decode cX8_misses 11 = .ok (.iload 4, 2) := by decide +kernel
theorem dX8_misses_13 : decode cX8_misses 13 = .ok (.invokestatic 77, 3) := by decide +kernel
theorem dX8_misses_16 : decode cX8_misses 16 = .ok (.ifCond .eq 73, 3) := by decide +kernel
theorem dX8_misses_19 : decode cX8_misses 19 = .ok (.aload_n 0, 1) := by decide +kernel
theorem dX8_misses_20 : decode cX8_misses 20 = .ok (.getfield 27, 3) := by decide +kernel
theorem dX8_misses_23 : decode cX8_misses 23 = .ok (.iload_n 1, 1) := by decide +kernel
theorem dX8_misses_24 : decode cX8_misses 24 = .ok (.aload_n 0, 1) := by decide +kernel
theorem dX8_misses_25 : decode cX8_misses 25 = .ok (.getfield 11, 3) := by decide +kernel
theorem dX8_misses_28 : decode cX8_misses 28 = .ok (.iload 4, 2) := by decide +kernel
theorem dX8_misses_30 : decode cX8_misses 30 = .ok (.invokestatic 43, 3) := by decide +kernel
theorem dX8_misses_33 : decode cX8_misses 33 = .ok (.invokevirtual 100, 3) := by decide +kernel
theorem dX8_misses_36 : decode cX8_misses 36 = .ok (.istore 5, 2) := by decide +kernel
theorem dX8_misses_38 : decode cX8_misses 38 = .ok (.aload_n 0, 1) := by decide +kernel
theorem dX8_misses_39 : decode cX8_misses 39 = .ok (.getfield 18, 3) := by decide +kernel
theorem dX8_misses_42 : decode cX8_misses 42 = .ok (.iload 4, 2) := by decide +kernel
theorem dX8_misses_44 : decode cX8_misses 44 = .ok (.invokestatic 43, 3) := by decide +kernel
theorem dX8_misses_47 : decode cX8_misses 47 = .ok (.aload_n 0, 1) := by decide +kernel
theorem dX8_misses_48 : decode cX8_misses 48 = .ok (.getfield 15, 3) := by decide +kernel
theorem dX8_misses_51 : decode cX8_misses 51 = .ok (.iload 4, 2) := by decide +kernel
theorem dX8_misses_53 : decode cX8_misses 53 = .ok (.invokestatic 43, 3) := by decide +kernel
theorem dX8_misses_56 : decode cX8_misses 56 = .ok (.iadd, 1) := by decide +kernel
theorem dX8_misses_57 : decode cX8_misses 57 = .ok (.istore 6, 2) := by decide +kernel
theorem dX8_misses_59 : decode cX8_misses 59 = .ok (.iload 5, 2) := by decide +kernel
theorem dX8_misses_61 : decode cX8_misses 61 = .ok (.iconst (-1), 1) := by decide +kernel
theorem dX8_misses_62 : decode cX8_misses 62 = .ok (.if_icmp .eq 25, 3) := by decide +kernel
theorem dX8_misses_65 : decode cX8_misses 65 = .ok (.aload_n 0, 1) := by decide +kernel
theorem dX8_misses_66 : decode cX8_misses 66 = .ok (.getfield 18, 3) := by decide +kernel
theorem dX8_misses_69 : decode cX8_misses 69 = .ok (.iload 4, 2) := by decide +kernel
theorem dX8_misses_71 : decode cX8_misses 71 = .ok (.invokestatic 43, 3) := by decide +kernel
theorem dX8_misses_74 : decode cX8_misses 74 = .ok (.iconst (-1), 1) := by decide +kernel
theorem dX8_misses_75 : decode cX8_misses 75 = .ok (.if_icmp .eq 14, 3) := by decide +kernel
theorem dX8_misses_78 : decode cX8_misses 78 = .ok (.iload_n 2, 1) := by decide +kernel
theorem dX8_misses_79 : decode cX8_misses 79 = .ok (.iload 5, 2) := by decide +kernel
theorem dX8_misses_81 : decode cX8_misses 81 = .ok (.iadd, 1) := by decide +kernel
theorem dX8_misses_82 : decode cX8_misses 82 = .ok (.iload 6, 2) := by decide +kernel
theorem dX8_misses_84 : decode cX8_misses 84 = .ok (.if_icmp .le 5, 3) := by decide +kernel
theorem dX8_misses_87 : decode cX8_misses 87 = .ok (.iconst 1, 1) := by decide +kernel
theorem dX8_misses_88 : decode cX8_misses 88 = .ok (.ireturn, 1) := by decide +kernel
theorem dX8_misses_89 : decode cX8_misses 89 = .ok (.iinc 4 1, 3) := by decide +kernel
theorem dX8_misses_92 : decode cX8_misses 92 = .ok (.goto (-89), 3) := by decide +kernel
theorem dX8_misses_95 : decode cX8_misses 95 = .ok (.iconst 0, 1) := by decide +kernel
theorem dX8_misses_96 : decode cX8_misses 96 = .ok (.ireturn, 1) := by decide +kernel
theorem dX8_ripen_0 : decode cX8_ripen 0 = .ok (.iload_n 1, 1) := by decide +kernel
theorem dX8_ripen_1 : decode cX8_ripen 1 = .ok (.iconst 1, 1) := by decide +kernel
theorem dX8_ripen_2 : decode cX8_ripen 2 = .ok (.iadd, 1) := by decide +kernel
theorem dX8_ripen_3 : decode cX8_ripen 3 = .ok (.istore 4, 2) := by decide +kernel
theorem dX8_ripen_5 : decode cX8_ripen 5 = .ok (.iload 4, 2) := by decide +kernel
theorem dX8_ripen_7 : decode cX8_ripen 7 = .ok (.aload_n 0, 1) := by decide +kernel
theorem dX8_ripen_8 : decode cX8_ripen 8 = .ok (.getfield 27, 3) := by decide +kernel
theorem dX8_ripen_11 : decode cX8_ripen 11 = .ok (.getfield 72, 3) := by decide +kernel
theorem dX8_ripen_14 : decode cX8_ripen 14 = .ok (.if_icmp .ge 72, 3) := by decide +kernel
theorem dX8_ripen_17 : decode cX8_ripen 17 = .ok (.iload_n 2, 1) := by decide +kernel
theorem dX8_ripen_18 : decode cX8_ripen 18 = .ok (.iload 4, 2) := by decide +kernel
theorem dX8_ripen_20 : decode cX8_ripen 20 = .ok (.invokestatic 77, 3) := by decide +kernel
theorem dX8_ripen_23 : decode cX8_ripen 23 = .ok (.ifCond .eq 57, 3) := by decide +kernel
theorem dX8_ripen_26 : decode cX8_ripen 26 = .ok (.aload_n 0, 1) := by decide +kernel
theorem dX8_ripen_27 : decode cX8_ripen 27 = .ok (.getfield 27, 3) := by decide +kernel
theorem dX8_ripen_30 : decode cX8_ripen 30 = .ok (.getfield 86, 3) := by decide +kernel
theorem dX8_ripen_33 : decode cX8_ripen 33 = .ok (.iload 4, 2) := by decide +kernel
theorem dX8_ripen_35 : decode cX8_ripen 35 = .ok (.invokestatic 43, 3) := by decide +kernel
theorem dX8_ripen_38 : decode cX8_ripen 38 = .ok (.iload_n 1, 1) := by decide +kernel
theorem dX8_ripen_39 : decode cX8_ripen 39 = .ok (.if_icmp .ne 41, 3) := by decide +kernel
theorem dX8_ripen_42 : decode cX8_ripen 42 = .ok (.aload_n 0, 1) := by decide +kernel
theorem dX8_ripen_43 : decode cX8_ripen 43 = .ok (.getfield 18, 3) := by decide +kernel
theorem dX8_ripen_46 : decode cX8_ripen 46 = .ok (.iload 4, 2) := by decide +kernel
theorem dX8_ripen_48 : decode cX8_ripen 48 = .ok (.iload_n 3, 1) := by decide +kernel
theorem dX8_ripen_49 : decode cX8_ripen 49 = .ok (.iconst (-1), 1) := by decide +kernel
theorem dX8_ripen_50 : decode cX8_ripen 50 = .ok (.if_icmp .ne 7, 3) := by decide +kernel
theorem dX8_ripen_53 : decode cX8_ripen 53 = .ok (.iconst (-1), 1) := by decide +kernel
theorem dX8_ripen_54 : decode cX8_ripen 54 = .ok (.goto 23, 3) := by decide +kernel
theorem dX8_ripen_57 : decode cX8_ripen 57 = .ok (.aload_n 0, 1) := by decide +kernel
theorem dX8_ripen_58 : decode cX8_ripen 58 = .ok (.getfield 27, 3) := by decide +kernel
theorem dX8_ripen_61 : decode cX8_ripen 61 = .ok (.iload_n 3, 1) := by decide +kernel
theorem dX8_ripen_62 : decode cX8_ripen 62 = .ok (.aload_n 0, 1) := by decide +kernel
theorem dX8_ripen_63 : decode cX8_ripen 63 = .ok (.getfield 27, 3) := by decide +kernel
theorem dX8_ripen_66 : decode cX8_ripen 66 = .ok (.getfield 117, 3) := by decide +kernel
theorem dX8_ripen_69 : decode cX8_ripen 69 = .ok (.iload 4, 2) := by decide +kernel
theorem dX8_ripen_71 : decode cX8_ripen 71 = .ok (.invokestatic 43, 3) := by decide +kernel
theorem dX8_ripen_74 : decode cX8_ripen 74 = .ok (.invokevirtual 120, 3) := by decide +kernel
theorem dX8_ripen_77 : decode cX8_ripen 77 = .ok (.invokestatic 35, 3) := by decide +kernel
theorem dX8_ripen_80 : decode cX8_ripen 80 = .ok (.iinc 4 1, 3) := by decide +kernel
theorem dX8_ripen_83 : decode cX8_ripen 83 = .ok (.goto (-78), 3) := by decide +kernel
theorem dX8_ripen_86 : decode cX8_ripen 86 = .ok (.return_, 1) := by decide +kernel
theorem dX8_firstClash_0 : decode cX8_firstClash 0 = .ok (.aload_n 0, 1) := by decide +kernel
theorem dX8_firstClash_1 : decode cX8_firstClash 1 = .ok (.getfield 31, 3) := by decide +kernel
theorem dX8_firstClash_4 : decode cX8_firstClash 4 = .ok (.iload_n 1, 1) := by decide +kernel
theorem dX8_firstClash_5 : decode cX8_firstClash 5 = .ok (.invokevirtual 123, 3) := by decide +kernel
theorem dX8_firstClash_8 : decode cX8_firstClash 8 = .ok (.istore_n 2, 1) := by decide +kernel
theorem dX8_firstClash_9 : decode cX8_firstClash 9 = .ok (.iconst 0, 1) := by decide +kernel
theorem dX8_firstClash_10 : decode cX8_firstClash 10 = .ok (.istore_n 3, 1) := by decide +kernel
theorem dX8_firstClash_11 : decode cX8_firstClash 11 = .ok (.iload_n 3, 1) := by decide +kernel
theorem dX8_firstClash_12 : decode cX8_firstClash 12 = .ok (.aload_n 0, 1) := by decide +kernel
theorem dX8_firstClash_13 : decode cX8_firstClash 13 = .ok (.getfield 27, 3) := by decide +kernel
theorem dX8_firstClash_16 : decode cX8_firstClash 16 = .ok (.getfield 72, 3) := by decide +kernel
theorem dX8_firstClash_19 : decode cX8_firstClash 19 = .ok (.if_icmp .ge 80, 3) := by decide +kernel
theorem dX8_firstClash_22 : decode cX8_firstClash 22 = .ok (.iload_n 3, 1) := by decide +kernel
theorem dX8_firstClash_23 : decode cX8_firstClash 23 = .ok (.iconst 1, 1) := by decide +kernel
theorem dX8_firstClash_24 : decode cX8_firstClash 24 = .ok (.iadd, 1) := by decide +kernel
theorem dX8_firstClash_25 : decode cX8_firstClash 25 = .ok (.istore 4, 2) := by decide +kernel
theorem dX8_firstClash_27 : decode cX8_firstClash 27 = .ok (.iload 4, 2) := by decide +kernel
theorem dX8_firstClash_29 : decode cX8_firstClash 29 = .ok (.aload_n 0, 1) := by decide +kernel
theorem dX8_firstClash_30 : decode cX8_firstClash 30 = .ok (.getfield 27, 3) := by decide +kernel
theorem dX8_firstClash_33 : decode cX8_firstClash 33 = .ok (.getfield 72, 3) := by decide +kernel
theorem dX8_firstClash_36 : decode cX8_firstClash 36 = .ok (.if_icmp .ge 57, 3) := by decide +kernel
theorem dX8_firstClash_39 : decode cX8_firstClash 39 = .ok (.iload_n 2, 1) := by decide +kernel
theorem dX8_firstClash_40 : decode cX8_firstClash 40 = .ok (.iload_n 3, 1) := by decide +kernel
theorem dX8_firstClash_41 : decode cX8_firstClash 41 = .ok (.invokestatic 77, 3) := by decide +kernel
theorem dX8_firstClash_44 : decode cX8_firstClash 44 = .ok (.ifCond .eq 43, 3) := by decide +kernel
theorem dX8_firstClash_47 : decode cX8_firstClash 47 = .ok (.iload_n 2, 1) := by decide +kernel
theorem dX8_firstClash_48 : decode cX8_firstClash 48 = .ok (.iload 4, 2) := by decide +kernel
theorem dX8_firstClash_50 : decode cX8_firstClash 50 = .ok (.invokestatic 77, 3) := by decide +kernel
theorem dX8_firstClash_53 : decode cX8_firstClash 53 = .ok (.ifCond .eq 34, 3) := by decide +kernel
theorem dX8_firstClash_56 : decode cX8_firstClash 56 = .ok (.aload_n 0, 1) := by decide +kernel
theorem dX8_firstClash_57 : decode cX8_firstClash 57 = .ok (.iload_n 1, 1) := by decide +kernel
theorem dX8_firstClash_58 : decode cX8_firstClash 58 = .ok (.aload_n 0, 1) := by decide +kernel
theorem dX8_firstClash_59 : decode cX8_firstClash 59 = .ok (.iload_n 3, 1) := by decide +kernel
theorem dX8_firstClash_60 : decode cX8_firstClash 60 = .ok (.iload_n 2, 1) := by decide +kernel
theorem dX8_firstClash_61 : decode cX8_firstClash 61 = .ok (.invokevirtual 126, 3) := by decide +kernel
theorem dX8_firstClash_64 : decode cX8_firstClash 64 = .ok (.aload_n 0, 1) := by decide +kernel
theorem dX8_firstClash_65 : decode cX8_firstClash 65 = .ok (.iload 4, 2) := by decide +kernel
theorem dX8_firstClash_67 : decode cX8_firstClash 67 = .ok (.iload_n 2, 1) := by decide +kernel
theorem dX8_firstClash_68 : decode cX8_firstClash 68 = .ok (.invokevirtual 126, 3) := by decide +kernel
theorem dX8_firstClash_71 : decode cX8_firstClash 71 = .ok (.ior, 1) := by decide +kernel
theorem dX8_firstClash_72 : decode cX8_firstClash 72 = .ok (.iconst 1, 1) := by decide +kernel
theorem dX8_firstClash_73 : decode cX8_firstClash 73 = .ok (.invokevirtual 129, 3) := by decide +kernel
theorem dX8_firstClash_76 : decode cX8_firstClash 76 = .ok (.ifCond .ne 11, 3) := by decide +kernel
theorem dX8_firstClash_79 : decode cX8_firstClash 79 = .ok (.iload_n 3, 1) := by decide +kernel
theorem dX8_firstClash_80 : decode cX8_firstClash 80 = .ok (.bipush 7, 2) := by decide +kernel
theorem dX8_firstClash_82 : decode cX8_firstClash 82 = .ok (.imul, 1) := by decide +kernel
theorem dX8_firstClash_83 : decode cX8_firstClash 83 = .ok (.iload 4, 2) := by decide +kernel
theorem dX8_firstClash_85 : decode cX8_firstClash 85 = .ok (.iadd, 1) := by decide +kernel
theorem dX8_firstClash_86 : decode cX8_firstClash 86 = .ok (.ireturn, 1) := by decide +kernel
theorem dX8_firstClash_87 : decode cX8_firstClash 87 = .ok (.iinc 4 1, 3) := by decide +kernel
theorem dX8_firstClash_90 : decode cX8_firstClash 90 = .ok (.goto (-63), 3) := by decide +kernel
theorem dX8_firstClash_93 : decode cX8_firstClash 93 = .ok (.iinc 3 1, 3) := by decide +kernel
theorem dX8_firstClash_96 : decode cX8_firstClash 96 = .ok (.goto (-85), 3) := by decide +kernel
theorem dX8_firstClash_99 : decode cX8_firstClash 99 = .ok (.iconst (-1), 1) := by decide +kernel
theorem dX8_firstClash_100 : decode cX8_firstClash 100 = .ok (.ireturn, 1) := by decide +kernel
theorem dX8_withOlder_0 : decode cX8_withOlder 0 = .ok (.iconst 0, 1) := by decide +kernel
theorem dX8_withOlder_1 : decode cX8_withOlder 1 = .ok (.istore_n 3, 1) := by decide +kernel
theorem dX8_withOlder_2 : decode cX8_withOlder 2 = .ok (.iload_n 1, 1) := by decide +kernel
theorem dX8_withOlder_3 : decode cX8_withOlder 3 = .ok (.istore 4, 2) := by decide +kernel
theorem dX8_withOlder_5 : decode cX8_withOlder 5 = .ok (.iconst 0, 1) := by decide +kernel
theorem dX8_withOlder_6 : decode cX8_withOlder 6 = .ok (.istore 5, 2) := by decide +kernel
theorem dX8_withOlder_8 : decode cX8_withOlder 8 = .ok (.iload 5, 2) := by decide +kernel
theorem dX8_withOlder_10 : decode cX8_withOlder 10 = .ok (.bipush 7, 2) := by decide +kernel
theorem dX8_withOlder_12 : decode cX8_withOlder 12 = .ok (.if_icmp .ge 45, 3) := by decide +kernel
theorem dX8_withOlder_15 : decode cX8_withOlder 15 = .ok (.iload 4, 2) := by decide +kernel
theorem dX8_withOlder_17 : decode cX8_withOlder 17 = .ok (.iconst (-1), 1) := by decide +kernel
theorem dX8_withOlder_18 : decode cX8_withOlder 18 = .ok (.if_icmp .eq 39, 3) := by decide +kernel
theorem dX8_withOlder_21 : decode cX8_withOlder 21 = .ok (.iload_n 2, 1) := by decide +kernel
theorem dX8_withOlder_22 : decode cX8_withOlder 22 = .ok (.iload 4, 2) := by decide +kernel
theorem dX8_withOlder_24 : decode cX8_withOlder 24 = .ok (.invokestatic 77, 3) := by decide +kernel
theorem dX8_withOlder_27 : decode cX8_withOlder 27 = .ok (.ifCond .eq 30, 3) := by decide +kernel
theorem dX8_withOlder_30 : decode cX8_withOlder 30 = .ok (.iload_n 3, 1) := by decide +kernel
theorem dX8_withOlder_31 : decode cX8_withOlder 31 = .ok (.iconst 1, 1) := by decide +kernel
theorem dX8_withOlder_32 : decode cX8_withOlder 32 = .ok (.iload 4, 2) := by decide +kernel
theorem dX8_withOlder_34 : decode cX8_withOlder 34 = .ok (.ishl, 1) := by decide +kernel
theorem dX8_withOlder_35 : decode cX8_withOlder 35 = .ok (.ior, 1) := by decide +kernel
theorem dX8_withOlder_36 : decode cX8_withOlder 36 = .ok (.istore_n 3, 1) := by decide +kernel
theorem dX8_withOlder_37 : decode cX8_withOlder 37 = .ok (.aload_n 0, 1) := by decide +kernel
theorem dX8_withOlder_38 : decode cX8_withOlder 38 = .ok (.getfield 27, 3) := by decide +kernel
theorem dX8_withOlder_41 : decode cX8_withOlder 41 = .ok (.getfield 86, 3) := by decide +kernel
theorem dX8_withOlder_44 : decode cX8_withOlder 44 = .ok (.iload 4, 2) := by decide +kernel
theorem dX8_withOlder_46 : decode cX8_withOlder 46 = .ok (.invokestatic 43, 3) := by decide +kernel
theorem dX8_withOlder_49 : decode cX8_withOlder 49 = .ok (.istore 4, 2) := by decide +kernel
theorem dX8_withOlder_51 : decode cX8_withOlder 51 = .ok (.iinc 5 1, 3) := by decide +kernel
theorem dX8_withOlder_54 : decode cX8_withOlder 54 = .ok (.goto (-46), 3) := by decide +kernel
theorem dX8_withOlder_57 : decode cX8_withOlder 57 = .ok (.iload_n 3, 1) := by decide +kernel
theorem dX8_withOlder_58 : decode cX8_withOlder 58 = .ok (.ireturn, 1) := by decide +kernel
theorem dX9_init_0 : decode cX9_init 0 = .ok (.aload_n 0, 1) := by decide +kernel
theorem dX9_init_1 : decode cX9_init 1 = .ok (.invokespecial 1, 3) := by decide +kernel
theorem dX9_init_4 : decode cX9_init 4 = .ok (.aload_n 0, 1) := by decide +kernel
theorem dX9_init_5 : decode cX9_init 5 = .ok (.new 7, 3) := by decide +kernel
theorem dX9_init_8 : decode cX9_init 8 = .ok (.dup, 1) := by decide +kernel
theorem dX9_init_9 : decode cX9_init 9 = .ok (.invokespecial 9, 3) := by decide +kernel
theorem dX9_init_12 : decode cX9_init 12 = .ok (.putfield 10, 3) := by decide +kernel
theorem dX9_init_15 : decode cX9_init 15 = .ok (.aload_n 0, 1) := by decide +kernel
theorem dX9_init_16 : decode cX9_init 16 = .ok (.new 7, 3) := by decide +kernel
theorem dX9_init_19 : decode cX9_init 19 = .ok (.dup, 1) := by decide +kernel
theorem dX9_init_20 : decode cX9_init 20 = .ok (.invokespecial 9, 3) := by decide +kernel
theorem dX9_init_23 : decode cX9_init 23 = .ok (.putfield 16, 3) := by decide +kernel
theorem dX9_init_26 : decode cX9_init 26 = .ok (.aload_n 0, 1) := by decide +kernel
theorem dX9_init_27 : decode cX9_init 27 = .ok (.new 19, 3) := by decide +kernel
theorem dX9_init_30 : decode cX9_init 30 = .ok (.dup, 1) := by decide +kernel
theorem dX9_init_31 : decode cX9_init 31 = .ok (.invokespecial 21, 3) := by decide +kernel
theorem dX9_init_34 : decode cX9_init 34 = .ok (.putfield 22, 3) := by decide +kernel
theorem dX9_init_37 : decode cX9_init 37 = .ok (.aload_n 0, 1) := by decide +kernel
theorem dX9_init_38 : decode cX9_init 38 = .ok (.new 26, 3) := by decide +kernel
theorem dX9_init_41 : decode cX9_init 41 = .ok (.dup, 1) := by decide +kernel
theorem dX9_init_42 : decode cX9_init 42 = .ok (.aload_n 0, 1) := by decide +kernel
theorem dX9_init_43 : decode cX9_init 43 = .ok (.getfield 10, 3) := by decide +kernel
theorem dX9_init_46 : decode cX9_init 46 = .ok (.invokespecial 28, 3) := by decide +kernel
theorem dX9_init_49 : decode cX9_init 49 = .ok (.putfield 31, 3) := by decide +kernel
theorem dX9_init_52 : decode cX9_init 52 = .ok (.aload_n 0, 1) := by decide +kernel
theorem dX9_init_53 : decode cX9_init 53 = .ok (.new 35, 3) := by decide +kernel
theorem dX9_init_56 : decode cX9_init 56 = .ok (.dup, 1) := by decide +kernel
theorem dX9_init_57 : decode cX9_init 57 = .ok (.invokespecial 37, 3) := by decide +kernel
theorem dX9_init_60 : decode cX9_init 60 = .ok (.putfield 38, 3) := by decide +kernel
theorem dX9_init_63 : decode cX9_init 63 = .ok (.aload_n 0, 1) := by decide +kernel
theorem dX9_init_64 : decode cX9_init 64 = .ok (.new 42, 3) := by decide +kernel
theorem dX9_init_67 : decode cX9_init 67 = .ok (.dup, 1) := by decide +kernel
theorem dX9_init_68 : decode cX9_init 68 = .ok (.invokespecial 44, 3) := by decide +kernel
theorem dX9_init_71 : decode cX9_init 71 = .ok (.putfield 45, 3) := by decide +kernel
theorem dX9_init_74 : decode cX9_init 74 = .ok (.aload_n 0, 1) := by decide +kernel
theorem dX9_init_75 : decode cX9_init 75 = .ok (.new 49, 3) := by decide +kernel
theorem dX9_init_78 : decode cX9_init 78 = .ok (.dup, 1) := by decide +kernel
theorem dX9_init_79 : decode cX9_init 79 = .ok (.invokespecial 51, 3) := by decide +kernel
theorem dX9_init_82 : decode cX9_init 82 = .ok (.putfield 52, 3) := by decide +kernel
theorem dX9_init_85 : decode cX9_init 85 = .ok (.aload_n 0, 1) := by decide +kernel
theorem dX9_init_86 : decode cX9_init 86 = .ok (.new 56, 3) := by decide +kernel
theorem dX9_init_89 : decode cX9_init 89 = .ok (.dup, 1) := by decide +kernel
theorem dX9_init_90 : decode cX9_init 90 = .ok (.aload_n 0, 1) := by decide +kernel
theorem dX9_init_91 : decode cX9_init 91 = .ok (.getfield 10, 3) := by decide +kernel
theorem dX9_init_94 : decode cX9_init 94 = .ok (.aload_n 0, 1) := by decide +kernel
theorem dX9_init_95 : decode cX9_init 95 = .ok (.getfield 31, 3) := by decide +kernel
theorem dX9_init_98 : decode cX9_init 98 = .ok (.invokespecial 58, 3) := by decide +kernel
theorem dX9_init_101 : decode cX9_init 101 = .ok (.putfield 61, 3) := by decide +kernel
theorem dX9_init_104 : decode cX9_init 104 = .ok (.aload_n 0, 1) := by decide +kernel
theorem dX9_init_105 : decode cX9_init 105 = .ok (.new 65, 3) := by decide +kernel
theorem dX9_init_108 : decode cX9_init 108 = .ok (.dup, 1) := by decide +kernel
theorem dX9_init_109 : decode cX9_init 109 = .ok (.aload_n 0, 1) := by decide +kernel
theorem dX9_init_110 : decode cX9_init 110 = .ok (.getfield 10, 3) := by decide +kernel
theorem dX9_init_113 : decode cX9_init 113 = .ok (.aload_n 0, 1) := by decide +kernel
theorem dX9_init_114 : decode cX9_init 114 = .ok (.getfield 31, 3) := by decide +kernel
theorem dX9_init_117 : decode cX9_init 117 = .ok (.aload_n 0, 1) := by decide +kernel
theorem dX9_init_118 : decode cX9_init 118 = .ok (.getfield 61, 3) := by decide +kernel
theorem dX9_init_121 : decode cX9_init 121 = .ok (.invokespecial 67, 3) := by decide +kernel
theorem dX9_init_124 : decode cX9_init 124 = .ok (.putfield 70, 3) := by decide +kernel
theorem dX9_init_127 : decode cX9_init 127 = .ok (.aload_n 0, 1) := by decide +kernel
theorem dX9_init_128 : decode cX9_init 128 = .ok (.new 74, 3) := by decide +kernel
theorem dX9_init_131 : decode cX9_init 131 = .ok (.dup, 1) := by decide +kernel
theorem dX9_init_132 : decode cX9_init 132 = .ok (.aload_n 0, 1) := by decide +kernel
theorem dX9_init_133 : decode cX9_init 133 = .ok (.getfield 10, 3) := by decide +kernel
theorem dX9_init_136 : decode cX9_init 136 = .ok (.invokespecial 76, 3) := by decide +kernel
theorem dX9_init_139 : decode cX9_init 139 = .ok (.putfield 77, 3) := by decide +kernel
theorem dX9_init_142 : decode cX9_init 142 = .ok (.return_, 1) := by decide +kernel
theorem dX9_feed_0 : decode cX9_feed 0 = .ok (.iload_n 1, 1) := by decide +kernel
theorem dX9_feed_1 : decode cX9_feed 1 = .ok (.ifCond .lt 10, 3) := by decide +kernel
theorem dX9_feed_4 : decode cX9_feed 4 = .ok (.iload_n 1, 1) := by decide +kernel
theorem dX9_feed_5 : decode cX9_feed 5 = .ok (.sipush 255, 3) := by decide +kernel
theorem dX9_feed_8 : decode cX9_feed 8 = .ok (.if_icmp .le 6, 3) := by decide +kernel
theorem dX9_feed_11 : decode cX9_feed 11 = .ok (.ldc 81, 2) := by decide +kernel
theorem dX9_feed_13 : decode cX9_feed 13 = .ok (.ireturn, 1) := by decide +kernel
theorem dX9_feed_14 : decode cX9_feed 14 = .ok (.aload_n 0, 1) := by decide +kernel
theorem dX9_feed_15 : decode cX9_feed 15 = .ok (.getfield 22, 3) := by decide +kernel
theorem dX9_feed_18 : decode cX9_feed 18 = .ok (.invokevirtual 82, 3) := by decide +kernel
theorem dX9_feed_21 : decode cX9_feed 21 = .ok (.ifCond .eq 8, 3) := by decide +kernel
theorem dX9_feed_24 : decode cX9_feed 24 = .ok (.ldc 86, 2) := by decide +kernel
theorem dX9_feed_26 : decode cX9_feed 26 = .ok (.goto 11, 3) := by decide +kernel
theorem dX9_feed_29 : decode cX9_feed 29 = .ok (.aload_n 0, 1) := by decide +kernel
theorem dX9_feed_30 : decode cX9_feed 30 = .ok (.getfield 22, 3) := by decide +kernel
theorem dX9_feed_33 : decode cX9_feed 33 = .ok (.iload_n 1, 1) := by decide +kernel
theorem dX9_feed_34 : decode cX9_feed 34 = .ok (.invokevirtual 87, 3) := by decide +kernel
theorem dX9_feed_37 : decode cX9_feed 37 = .ok (.ireturn, 1) := by decide +kernel
theorem dX9_land_0 : decode cX9_land 0 = .ok (.aload_n 0, 1) := by decide +kernel
theorem dX9_land_1 : decode cX9_land 1 = .ok (.getfield 22, 3) := by decide +kernel
theorem dX9_land_4 : decode cX9_land 4 = .ok (.aload_n 0, 1) := by decide +kernel
theorem dX9_land_5 : decode cX9_land 5 = .ok (.getfield 16, 3) := by decide +kernel
theorem dX9_land_8 : decode cX9_land 8 = .ok (.invokevirtual 91, 3) := by decide +kernel
theorem dX9_land_11 : decode cX9_land 11 = .ok (.istore_n 1, 1) := by decide +kernel
theorem dX9_land_12 : decode cX9_land 12 = .ok (.iload_n 1, 1) := by decide +kernel
theorem dX9_land_13 : decode cX9_land 13 = .ok (.ifCond .ne 43, 3) := by decide +kernel
theorem dX9_land_16 : decode cX9_land 16 = .ok (.aload_n 0, 1) := by decide +kernel
theorem dX9_land_17 : decode cX9_land 17 = .ok (.getfield 22, 3) := by decide +kernel
theorem dX9_land_20 : decode cX9_land 20 = .ok (.aload_n 0, 1) := by decide +kernel
theorem dX9_land_21 : decode cX9_land 21 = .ok (.getfield 10, 3) := by decide +kernel
theorem dX9_land_24 : decode cX9_land 24 = .ok (.invokevirtual 91, 3) := by decide +kernel
theorem dX9_land_27 : decode cX9_land 27 = .ok (.pop, 1) := by decide +kernel
theorem dX9_land_28 : decode cX9_land 28 = .ok (.aload_n 0, 1) := by decide +kernel
theorem dX9_land_29 : decode cX9_land 29 = .ok (.getfield 31, 3) := by decide +kernel
theorem dX9_land_32 : decode cX9_land 32 = .ok (.invokevirtual 95, 3) := by decide +kernel
theorem dX9_land_35 : decode cX9_land 35 = .ok (.aload_n 0, 1) := by decide +kernel
theorem dX9_land_36 : decode cX9_land 36 = .ok (.getfield 38, 3) := by decide +kernel
theorem dX9_land_39 : decode cX9_land 39 = .ok (.invokevirtual 98, 3) := by decide +kernel
theorem dX9_land_42 : decode cX9_land 42 = .ok (.aload_n 0, 1) := by decide +kernel
theorem dX9_land_43 : decode cX9_land 43 = .ok (.getfield 45, 3) := by decide +kernel
theorem dX9_land_46 : decode cX9_land 46 = .ok (.invokevirtual 101, 3) := by decide +kernel
theorem dX9_land_49 : decode cX9_land 49 = .ok (.aload_n 0, 1) := by decide +kernel
theorem dX9_land_50 : decode cX9_land 50 = .ok (.getfield 77, 3) := by decide +kernel
theorem dX9_land_53 : decode cX9_land 53 = .ok (.invokevirtual 102, 3) := by decide +kernel
theorem dX9_land_56 : decode cX9_land 56 = .ok (.aload_n 0, 1) := by decide +kernel
theorem dX9_land_57 : decode cX9_land 57 = .ok (.getfield 22, 3) := by decide +kernel
theorem dX9_land_60 : decode cX9_land 60 = .ok (.invokevirtual 105, 3) := by decide +kernel
theorem dX9_land_63 : decode cX9_land 63 = .ok (.iload_n 1, 1) := by decide +kernel
theorem dX9_land_64 : decode cX9_land 64 = .ok (.ifCond .ne 13, 3) := by decide +kernel
theorem dX9_land_67 : decode cX9_land 67 = .ok (.aload_n 0, 1) := by decide +kernel
theorem dX9_land_68 : decode cX9_land 68 = .ok (.getfield 10, 3) := by decide +kernel
theorem dX9_land_71 : decode cX9_land 71 = .ok (.getfield 106, 3) := by decide +kernel
theorem dX9_land_74 : decode cX9_land 74 = .ok (.goto 7, 3) := by decide +kernel
theorem dX9_land_77 : decode cX9_land 77 = .ok (.bipush (-10), 2) := by decide +kernel
theorem dX9_land_79 : decode cX9_land 79 = .ok (.iload_n 1, 1) := by decide +kernel
theorem dX9_land_80 : decode cX9_land 80 = .ok (.isub, 1) := by decide +kernel
theorem dX9_land_81 : decode cX9_land 81 = .ok (.ireturn, 1) := by decide +kernel
theorem dX9_fault_0 : decode cX9_fault 0 = .ok (.aload_n 0, 1) := by decide +kernel
theorem dX9_fault_1 : decode cX9_fault 1 = .ok (.getfield 22, 3) := by decide +kernel
theorem dX9_fault_4 : decode cX9_fault 4 = .ok (.getfield 110, 3) := by decide +kernel
theorem dX9_fault_7 : decode cX9_fault 7 = .ok (.ireturn, 1) := by decide +kernel
theorem dX9_told_0 : decode cX9_told 0 = .ok (.iload_n 1, 1) := by decide +kernel
theorem dX9_told_1 : decode cX9_told 1 = .ok (.tableswitch 190 0 12 #[67, 75, 83, 91, 99, 107, 115, 124, 133, 142, 151, 159, 167], 67) := by decide +kernel
theorem dX9_told_68 : decode cX9_told 68 = .ok (.aload_n 0, 1) := by decide +kernel
theorem dX9_told_69 : decode cX9_told 69 = .ok (.getfield 10, 3) := by decide +kernel
theorem dX9_told_72 : decode cX9_told 72 = .ok (.getfield 106, 3) := by decide +kernel
theorem dX9_told_75 : decode cX9_told 75 = .ok (.ireturn, 1) := by decide +kernel
theorem dX9_told_76 : decode cX9_told 76 = .ok (.aload_n 0, 1) := by decide +kernel
theorem dX9_told_77 : decode cX9_told 77 = .ok (.getfield 10, 3) := by decide +kernel
theorem dX9_told_80 : decode cX9_told 80 = .ok (.getfield 113, 3) := by decide +kernel
theorem dX9_told_83 : decode cX9_told 83 = .ok (.ireturn, 1) := by decide +kernel
theorem dX9_told_84 : decode cX9_told 84 = .ok (.aload_n 0, 1) := by decide +kernel
theorem dX9_told_85 : decode cX9_told 85 = .ok (.getfield 10, 3) := by decide +kernel
theorem dX9_told_88 : decode cX9_told 88 = .ok (.getfield 116, 3) := by decide +kernel
theorem dX9_told_91 : decode cX9_told 91 = .ok (.ireturn, 1) := by decide +kernel
theorem dX9_told_92 : decode cX9_told 92 = .ok (.aload_n 0, 1) := by decide +kernel
theorem dX9_told_93 : decode cX9_told 93 = .ok (.getfield 10, 3) := by decide +kernel
theorem dX9_told_96 : decode cX9_told 96 = .ok (.getfield 119, 3) := by decide +kernel
theorem dX9_told_99 : decode cX9_told 99 = .ok (.ireturn, 1) := by decide +kernel
theorem dX9_told_100 : decode cX9_told 100 = .ok (.aload_n 0, 1) := by decide +kernel
theorem dX9_told_101 : decode cX9_told 101 = .ok (.getfield 22, 3) := by decide +kernel
theorem dX9_told_104 : decode cX9_told 104 = .ok (.getfield 122, 3) := by decide +kernel
theorem dX9_told_107 : decode cX9_told 107 = .ok (.ireturn, 1) := by decide +kernel
theorem dX9_told_108 : decode cX9_told 108 = .ok (.aload_n 0, 1) := by decide +kernel
theorem dX9_told_109 : decode cX9_told 109 = .ok (.getfield 31, 3) := by decide +kernel
theorem dX9_told_112 : decode cX9_told 112 = .ok (.invokevirtual 125, 3) := by decide +kernel
theorem dX9_told_115 : decode cX9_told 115 = .ok (.ireturn, 1) := by decide +kernel
theorem dX9_told_116 : decode cX9_told 116 = .ok (.aload_n 0, 1) := by decide +kernel
theorem dX9_told_117 : decode cX9_told 117 = .ok (.getfield 31, 3) := by decide +kernel
theorem dX9_told_120 : decode cX9_told 120 = .ok (.iconst 0, 1) := by decide +kernel
theorem dX9_told_121 : decode cX9_told 121 = .ok (.invokevirtual 129, 3) := by decide +kernel
theorem dX9_told_124 : decode cX9_told 124 = .ok (.ireturn, 1) := by decide +kernel
theorem dX9_told_125 : decode cX9_told 125 = .ok (.aload_n 0, 1) := by decide +kernel
theorem dX9_told_126 : decode cX9_told 126 = .ok (.getfield 31, 3) := by decide +kernel
theorem dX9_told_129 : decode cX9_told 129 = .ok (.iconst 1, 1) := by decide +kernel
theorem dX9_told_130 : decode cX9_told 130 = .ok (.invokevirtual 129, 3) := by decide +kernel
theorem dX9_told_133 : decode cX9_told 133 = .ok (.ireturn, 1) := by decide +kernel
theorem dX9_told_134 : decode cX9_told 134 = .ok (.aload_n 0, 1) := by decide +kernel
theorem dX9_told_135 : decode cX9_told 135 = .ok (.getfield 31, 3) := by decide +kernel
theorem dX9_told_138 : decode cX9_told 138 = .ok (.iconst 2, 1) := by decide +kernel
theorem dX9_told_139 : decode cX9_told 139 = .ok (.invokevirtual 129, 3) := by decide +kernel
theorem dX9_told_142 : decode cX9_told 142 = .ok (.ireturn, 1) := by decide +kernel
theorem dX9_told_143 : decode cX9_told 143 = .ok (.aload_n 0, 1) := by decide +kernel
theorem dX9_told_144 : decode cX9_told 144 = .ok (.getfield 31, 3) := by decide +kernel
theorem dX9_told_147 : decode cX9_told 147 = .ok (.iconst 3, 1) := by decide +kernel
theorem dX9_told_148 : decode cX9_told 148 = .ok (.invokevirtual 129, 3) := by decide +kernel
theorem dX9_told_151 : decode cX9_told 151 = .ok (.ireturn, 1) := by decide +kernel
theorem dX9_told_152 : decode cX9_told 152 = .ok (.aload_n 0, 1) := by decide +kernel
theorem dX9_told_153 : decode cX9_told 153 = .ok (.getfield 77, 3) := by decide +kernel
theorem dX9_told_156 : decode cX9_told 156 = .ok (.getfield 132, 3) := by decide +kernel
theorem dX9_told_159 : decode cX9_told 159 = .ok (.ireturn, 1) := by decide +kernel
theorem dX9_told_160 : decode cX9_told 160 = .ok (.aload_n 0, 1) := by decide +kernel
theorem dX9_told_161 : decode cX9_told 161 = .ok (.getfield 38, 3) := by decide +kernel
theorem dX9_told_164 : decode cX9_told 164 = .ok (.getfield 135, 3) := by decide +kernel
theorem dX9_told_167 : decode cX9_told 167 = .ok (.ireturn, 1) := by decide +kernel
theorem dX9_told_168 : decode cX9_told 168 = .ok (.aload_n 0, 1) := by decide +kernel
theorem dX9_told_169 : decode cX9_told 169 = .ok (.getfield 10, 3) := by decide +kernel
theorem dX9_told_172 : decode cX9_told 172 = .ok (.aload_n 0, 1) := by decide +kernel
theorem dX9_told_173 : decode cX9_told 173 = .ok (.getfield 31, 3) := by decide +kernel
theorem dX9_told_176 : decode cX9_told 176 = .ok (.invokevirtual 125, 3) := by decide +kernel
theorem dX9_told_179 : decode cX9_told 179 = .ok (.invokevirtual 138, 3) := by decide +kernel
theorem dX9_told_182 : decode cX9_told 182 = .ok (.ifCond .eq 7, 3) := by decide +kernel
theorem dX9_told_185 : decode cX9_told 185 = .ok (.iconst 1, 1) := by decide +kernel
theorem dX9_told_186 : decode cX9_told 186 = .ok (.goto 4, 3) := by decide +kernel
theorem dX9_told_189 : decode cX9_told 189 = .ok (.iconst 0, 1) := by decide +kernel
theorem dX9_told_190 : decode cX9_told 190 = .ok (.ireturn, 1) := by decide +kernel
theorem dX9_told_191 : decode cX9_told 191 = .ok (.ldc 81, 2) := by decide +kernel
theorem dX9_told_193 : decode cX9_told 193 = .ok (.ireturn, 1) := by decide +kernel
theorem dX9_far_0 : decode cX9_far 0 = .ok (.aload_n 0, 1) := by decide +kernel
theorem dX9_far_1 : decode cX9_far 1 = .ok (.getfield 10, 3) := by decide +kernel
theorem dX9_far_4 : decode cX9_far 4 = .ok (.iload_n 1, 1) := by decide +kernel
theorem dX9_far_5 : decode cX9_far 5 = .ok (.invokevirtual 142, 3) := by decide +kernel
theorem dX9_far_8 : decode cX9_far 8 = .ok (.ifCond .eq 14, 3) := by decide +kernel
theorem dX9_far_11 : decode cX9_far 11 = .ok (.aload_n 0, 1) := by decide +kernel
theorem dX9_far_12 : decode cX9_far 12 = .ok (.getfield 10, 3) := by decide +kernel
theorem dX9_far_15 : decode cX9_far 15 = .ok (.iload_n 2, 1) := by decide +kernel
theorem dX9_far_16 : decode cX9_far 16 = .ok (.invokevirtual 142, 3) := by decide +kernel
theorem dX9_far_19 : decode cX9_far 19 = .ok (.ifCond .ne 6, 3) := by decide +kernel
theorem dX9_far_22 : decode cX9_far 22 = .ok (.ldc 145, 2) := by decide +kernel
theorem dX9_far_24 : decode cX9_far 24 = .ok (.ireturn, 1) := by decide +kernel
theorem dX9_far_25 : decode cX9_far 25 = .ok (.aload_n 0, 1) := by decide +kernel
theorem dX9_far_26 : decode cX9_far 26 = .ok (.getfield 10, 3) := by decide +kernel
theorem dX9_far_29 : decode cX9_far 29 = .ok (.iload_n 1, 1) := by decide +kernel
theorem dX9_far_30 : decode cX9_far 30 = .ok (.iload_n 2, 1) := by decide +kernel
theorem dX9_far_31 : decode cX9_far 31 = .ok (.invokevirtual 146, 3) := by decide +kernel
theorem dX9_far_34 : decode cX9_far 34 = .ok (.ireturn, 1) := by decide +kernel
theorem dX9_keeper_0 : decode cX9_keeper 0 = .ok (.aload_n 0, 1) := by decide +kernel
theorem dX9_keeper_1 : decode cX9_keeper 1 = .ok (.getfield 10, 3) := by decide +kernel
theorem dX9_keeper_4 : decode cX9_keeper 4 = .ok (.iload_n 1, 1) := by decide +kernel
theorem dX9_keeper_5 : decode cX9_keeper 5 = .ok (.invokevirtual 150, 3) := by decide +kernel
theorem dX9_keeper_8 : decode cX9_keeper 8 = .ok (.ifCond .ne 6, 3) := by decide +kernel
theorem dX9_keeper_11 : decode cX9_keeper 11 = .ok (.ldc 145, 2) := by decide +kernel
theorem dX9_keeper_13 : decode cX9_keeper 13 = .ok (.ireturn, 1) := by decide +kernel
theorem dX9_keeper_14 : decode cX9_keeper 14 = .ok (.iload_n 2, 1) := by decide +kernel
theorem dX9_keeper_15 : decode cX9_keeper 15 = .ok (.tableswitch 68 0 3 #[29, 38, 50, 59], 29) := by decide +kernel
theorem dX9_keeper_44 : decode cX9_keeper 44 = .ok (.aload_n 0, 1) := by decide +kernel
theorem dX9_keeper_45 : decode cX9_keeper 45 = .ok (.getfield 31, 3) := by decide +kernel
theorem dX9_keeper_48 : decode cX9_keeper 48 = .ok (.iload_n 1, 1) := by decide +kernel
theorem dX9_keeper_49 : decode cX9_keeper 49 = .ok (.invokevirtual 153, 3) := by decide +kernel
theorem dX9_keeper_52 : decode cX9_keeper 52 = .ok (.ireturn, 1) := by decide +kernel
theorem dX9_keeper_53 : decode cX9_keeper 53 = .ok (.aload_n 0, 1) := by decide +kernel
theorem dX9_keeper_54 : decode cX9_keeper 54 = .ok (.getfield 10, 3) := by decide +kernel
theorem dX9_keeper_57 : decode cX9_keeper 57 = .ok (.getfield 156, 3) := by decide +kernel
theorem dX9_keeper_60 : decode cX9_keeper 60 = .ok (.iload_n 1, 1) := by decide +kernel
theorem dX9_keeper_61 : decode cX9_keeper 61 = .ok (.invokestatic 160, 3) := by decide +kernel
theorem dX9_keeper_64 : decode cX9_keeper 64 = .ok (.ireturn, 1) := by decide +kernel
theorem dX9_keeper_65 : decode cX9_keeper 65 = .ok (.aload_n 0, 1) := by decide +kernel
theorem dX9_keeper_66 : decode cX9_keeper 66 = .ok (.getfield 31, 3) := by decide +kernel
theorem dX9_keeper_69 : decode cX9_keeper 69 = .ok (.iload_n 1, 1) := by decide +kernel
theorem dX9_keeper_70 : decode cX9_keeper 70 = .ok (.invokevirtual 164, 3) := by decide +kernel
theorem dX9_keeper_73 : decode cX9_keeper 73 = .ok (.ireturn, 1) := by decide +kernel
theorem dX9_keeper_74 : decode cX9_keeper 74 = .ok (.aload_n 0, 1) := by decide +kernel
theorem dX9_keeper_75 : decode cX9_keeper 75 = .ok (.getfield 31, 3) := by decide +kernel
theorem dX9_keeper_78 : decode cX9_keeper 78 = .ok (.iload_n 1, 1) := by decide +kernel
theorem dX9_keeper_79 : decode cX9_keeper 79 = .ok (.invokevirtual 167, 3) := by decide +kernel
theorem dX9_keeper_82 : decode cX9_keeper 82 = .ok (.ireturn, 1) := by decide +kernel
theorem dX9_keeper_83 : decode cX9_keeper 83 = .ok (.ldc 81, 2) := by decide +kernel
theorem dX9_keeper_85 : decode cX9_keeper 85 = .ok (.ireturn, 1) := by decide +kernel
theorem dX9_promise_0 : decode cX9_promise 0 = .ok (.aload_n 0, 1) := by decide +kernel
theorem dX9_promise_1 : decode cX9_promise 1 = .ok (.getfield 10, 3) := by decide +kernel
theorem dX9_promise_4 : decode cX9_promise 4 = .ok (.iload_n 1, 1) := by decide +kernel
theorem dX9_promise_5 : decode cX9_promise 5 = .ok (.invokevirtual 170, 3) := by decide +kernel
theorem dX9_promise_8 : decode cX9_promise 8 = .ok (.ifCond .ne 6, 3) := by decide +kernel
theorem dX9_promise_11 : decode cX9_promise 11 = .ok (.ldc 145, 2) := by decide +kernel
theorem dX9_promise_13 : decode cX9_promise 13 = .ok (.ireturn, 1) := by decide +kernel
theorem dX9_promise_14 : decode cX9_promise 14 = .ok (.iload_n 2, 1) := by decide +kernel
theorem dX9_promise_15 : decode cX9_promise 15 = .ok (.tableswitch 145 0 8 #[49, 58, 70, 82, 94, 106, 118, 127, 136], 49) := by decide +kernel
theorem dX9_promise_64 : decode cX9_promise 64 = .ok (.aload_n 0, 1) := by decide +kernel
theorem dX9_promise_65 : decode cX9_promise 65 = .ok (.getfield 31, 3) := by decide +kernel
theorem dX9_promise_68 : decode cX9_promise 68 = .ok (.iload_n 1, 1) := by decide +kernel
theorem dX9_promise_69 : decode cX9_promise 69 = .ok (.invokevirtual 173, 3) := by decide +kernel
theorem dX9_promise_72 : decode cX9_promise 72 = .ok (.ireturn, 1) := by decide +kernel
theorem dX9_promise_73 : decode cX9_promise 73 = .ok (.aload_n 0, 1) := by decide +kernel
theorem dX9_promise_74 : decode cX9_promise 74 = .ok (.getfield 10, 3) := by decide +kernel
theorem dX9_promise_77 : decode cX9_promise 77 = .ok (.getfield 176, 3) := by decide +kernel
theorem dX9_promise_80 : decode cX9_promise 80 = .ok (.iload_n 1, 1) := by decide +kernel
theorem dX9_promise_81 : decode cX9_promise 81 = .ok (.invokestatic 160, 3) := by decide +kernel
theorem dX9_promise_84 : decode cX9_promise 84 = .ok (.ireturn, 1) := by decide +kernel
theorem dX9_promise_85 : decode cX9_promise 85 = .ok (.aload_n 0, 1) := by decide +kernel
theorem dX9_promise_86 : decode cX9_promise 86 = .ok (.getfield 10, 3) := by decide +kernel
theorem dX9_promise_89 : decode cX9_promise 89 = .ok (.getfield 179, 3) := by decide +kernel
theorem dX9_promise_92 : decode cX9_promise 92 = .ok (.iload_n 1, 1) := by decide +kernel
theorem dX9_promise_93 : decode cX9_promise 93 = .ok (.invokestatic 160, 3) := by decide +kernel
theorem dX9_promise_96 : decode cX9_promise 96 = .ok (.ireturn, 1) := by decide +kernel
theorem dX9_promise_97 : decode cX9_promise 97 = .ok (.aload_n 0, 1) := by decide +kernel
theorem dX9_promise_98 : decode cX9_promise 98 = .ok (.getfield 10, 3) := by decide +kernel
theorem dX9_promise_101 : decode cX9_promise 101 = .ok (.getfield 182, 3) := by decide +kernel
theorem dX9_promise_104 : decode cX9_promise 104 = .ok (.iload_n 1, 1) := by decide +kernel
theorem dX9_promise_105 : decode cX9_promise 105 = .ok (.invokestatic 160, 3) := by decide +kernel
theorem dX9_promise_108 : decode cX9_promise 108 = .ok (.ireturn, 1) := by decide +kernel
theorem dX9_promise_109 : decode cX9_promise 109 = .ok (.aload_n 0, 1) := by decide +kernel
theorem dX9_promise_110 : decode cX9_promise 110 = .ok (.getfield 10, 3) := by decide +kernel
theorem dX9_promise_113 : decode cX9_promise 113 = .ok (.getfield 185, 3) := by decide +kernel
theorem dX9_promise_116 : decode cX9_promise 116 = .ok (.iload_n 1, 1) := by decide +kernel
theorem dX9_promise_117 : decode cX9_promise 117 = .ok (.invokestatic 160, 3) := by decide +kernel
theorem dX9_promise_120 : decode cX9_promise 120 = .ok (.ireturn, 1) := by decide +kernel
theorem dX9_promise_121 : decode cX9_promise 121 = .ok (.aload_n 0, 1) := by decide +kernel
theorem dX9_promise_122 : decode cX9_promise 122 = .ok (.getfield 10, 3) := by decide +kernel
theorem dX9_promise_125 : decode cX9_promise 125 = .ok (.getfield 188, 3) := by decide +kernel
theorem dX9_promise_128 : decode cX9_promise 128 = .ok (.iload_n 1, 1) := by decide +kernel
theorem dX9_promise_129 : decode cX9_promise 129 = .ok (.invokestatic 160, 3) := by decide +kernel
theorem dX9_promise_132 : decode cX9_promise 132 = .ok (.ireturn, 1) := by decide +kernel
theorem dX9_promise_133 : decode cX9_promise 133 = .ok (.aload_n 0, 1) := by decide +kernel
theorem dX9_promise_134 : decode cX9_promise 134 = .ok (.getfield 31, 3) := by decide +kernel
theorem dX9_promise_137 : decode cX9_promise 137 = .ok (.iload_n 1, 1) := by decide +kernel
theorem dX9_promise_138 : decode cX9_promise 138 = .ok (.invokevirtual 191, 3) := by decide +kernel
theorem dX9_promise_141 : decode cX9_promise 141 = .ok (.ireturn, 1) := by decide +kernel
theorem dX9_promise_142 : decode cX9_promise 142 = .ok (.aload_n 0, 1) := by decide +kernel
theorem dX9_promise_143 : decode cX9_promise 143 = .ok (.getfield 31, 3) := by decide +kernel
theorem dX9_promise_146 : decode cX9_promise 146 = .ok (.iload_n 1, 1) := by decide +kernel
theorem dX9_promise_147 : decode cX9_promise 147 = .ok (.invokevirtual 194, 3) := by decide +kernel
theorem dX9_promise_150 : decode cX9_promise 150 = .ok (.ireturn, 1) := by decide +kernel
theorem dX9_promise_151 : decode cX9_promise 151 = .ok (.aload_n 0, 1) := by decide +kernel
theorem dX9_promise_152 : decode cX9_promise 152 = .ok (.getfield 31, 3) := by decide +kernel
theorem dX9_promise_155 : decode cX9_promise 155 = .ok (.iload_n 1, 1) := by decide +kernel
theorem dX9_promise_156 : decode cX9_promise 156 = .ok (.invokevirtual 197, 3) := by decide +kernel
theorem dX9_promise_159 : decode cX9_promise 159 = .ok (.ireturn, 1) := by decide +kernel
theorem dX9_promise_160 : decode cX9_promise 160 = .ok (.ldc 81, 2) := by decide +kernel
theorem dX9_promise_162 : decode cX9_promise 162 = .ok (.ireturn, 1) := by decide +kernel
theorem dX9_fell_0 : decode cX9_fell 0 = .ok (.iload_n 1, 1) := by decide +kernel
theorem dX9_fell_1 : decode cX9_fell 1 = .ok (.ifCond .lt 8, 3) := by decide +kernel
theorem dX9_fell_4 : decode cX9_fell 4 = .ok (.iload_n 1, 1) := by decide +kernel
theorem dX9_fell_5 : decode cX9_fell 5 = .ok (.iconst 3, 1) := by decide +kernel
theorem dX9_fell_6 : decode cX9_fell 6 = .ok (.if_icmp .lt 8, 3) := by decide +kernel
theorem dX9_fell_9 : decode cX9_fell 9 = .ok (.ldc 145, 2) := by decide +kernel
theorem dX9_fell_11 : decode cX9_fell 11 = .ok (.goto 11, 3) := by decide +kernel
theorem dX9_fell_14 : decode cX9_fell 14 = .ok (.aload_n 0, 1) := by decide +kernel
theorem dX9_fell_15 : decode cX9_fell 15 = .ok (.getfield 31, 3) := by decide +kernel
theorem dX9_fell_18 : decode cX9_fell 18 = .ok (.iload_n 1, 1) := by decide +kernel
theorem dX9_fell_19 : decode cX9_fell 19 = .ok (.invokevirtual 200, 3) := by decide +kernel
theorem dX9_fell_22 : decode cX9_fell 22 = .ok (.ireturn, 1) := by decide +kernel
theorem dX9_go_0 : decode cX9_go 0 = .ok (.aload_n 0, 1) := by decide +kernel
theorem dX9_go_1 : decode cX9_go 1 = .ok (.getfield 10, 3) := by decide +kernel
theorem dX9_go_4 : decode cX9_go 4 = .ok (.iload_n 1, 1) := by decide +kernel
theorem dX9_go_5 : decode cX9_go 5 = .ok (.invokevirtual 150, 3) := by decide +kernel
theorem dX9_go_8 : decode cX9_go 8 = .ok (.ifCond .eq 14, 3) := by decide +kernel
theorem dX9_go_11 : decode cX9_go 11 = .ok (.aload_n 0, 1) := by decide +kernel
theorem dX9_go_12 : decode cX9_go 12 = .ok (.getfield 10, 3) := by decide +kernel
theorem dX9_go_15 : decode cX9_go 15 = .ok (.iload_n 2, 1) := by decide +kernel
theorem dX9_go_16 : decode cX9_go 16 = .ok (.invokevirtual 142, 3) := by decide +kernel
theorem dX9_go_19 : decode cX9_go 19 = .ok (.ifCond .ne 6, 3) := by decide +kernel
theorem dX9_go_22 : decode cX9_go 22 = .ok (.ldc 145, 2) := by decide +kernel
theorem dX9_go_24 : decode cX9_go 24 = .ok (.ireturn, 1) := by decide +kernel
theorem dX9_go_25 : decode cX9_go 25 = .ok (.aload_n 0, 1) := by decide +kernel
theorem dX9_go_26 : decode cX9_go 26 = .ok (.getfield 31, 3) := by decide +kernel
theorem dX9_go_29 : decode cX9_go 29 = .ok (.iload_n 1, 1) := by decide +kernel
theorem dX9_go_30 : decode cX9_go 30 = .ok (.iload_n 2, 1) := by decide +kernel
theorem dX9_go_31 : decode cX9_go 31 = .ok (.invokevirtual 203, 3) := by decide +kernel
theorem dX9_go_34 : decode cX9_go 34 = .ok (.ifCond .eq 14, 3) := by decide +kernel
theorem dX9_go_37 : decode cX9_go 37 = .ok (.aload_n 0, 1) := by decide +kernel
theorem dX9_go_38 : decode cX9_go 38 = .ok (.getfield 31, 3) := by decide +kernel
theorem dX9_go_41 : decode cX9_go 41 = .ok (.iload_n 1, 1) := by decide +kernel
theorem dX9_go_42 : decode cX9_go 42 = .ok (.invokevirtual 164, 3) := by decide +kernel
theorem dX9_go_45 : decode cX9_go 45 = .ok (.goto 5, 3) := by decide +kernel
theorem dX9_go_48 : decode cX9_go 48 = .ok (.ldc 207, 2) := by decide +kernel
