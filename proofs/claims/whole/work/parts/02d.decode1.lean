theorem dX9_go_50 : decode cX9_go 50 = .ok (.ireturn, 1) := by decide +kernel
theorem dX9_day_0 : decode cX9_day 0 = .ok (.aload_n 0, 1) := by decide +kernel
theorem dX9_day_1 : decode cX9_day 1 = .ok (.iload_n 1, 1) := by decide +kernel
theorem dX9_day_2 : decode cX9_day 2 = .ok (.invokevirtual 208, 3) := by decide +kernel
theorem dX9_day_5 : decode cX9_day 5 = .ok (.istore_n 2, 1) := by decide +kernel
theorem dX9_day_6 : decode cX9_day 6 = .ok (.iload_n 2, 1) := by decide +kernel
theorem dX9_day_7 : decode cX9_day 7 = .ok (.ifCond .eq 5, 3) := by decide +kernel
theorem dX9_day_10 : decode cX9_day 10 = .ok (.iload_n 2, 1) := by decide +kernel
theorem dX9_day_11 : decode cX9_day 11 = .ok (.ireturn, 1) := by decide +kernel
theorem dX9_day_12 : decode cX9_day 12 = .ok (.iconst 0, 1) := by decide +kernel
theorem dX9_day_13 : decode cX9_day 13 = .ok (.istore_n 3, 1) := by decide +kernel
theorem dX9_day_14 : decode cX9_day 14 = .ok (.iload_n 3, 1) := by decide +kernel
theorem dX9_day_15 : decode cX9_day 15 = .ok (.iload_n 1, 1) := by decide +kernel
theorem dX9_day_16 : decode cX9_day 16 = .ok (.if_icmp .ge 13, 3) := by decide +kernel
theorem dX9_day_19 : decode cX9_day 19 = .ok (.aload_n 0, 1) := by decide +kernel
theorem dX9_day_20 : decode cX9_day 20 = .ok (.invokevirtual 211, 3) := by decide +kernel
theorem dX9_day_23 : decode cX9_day 23 = .ok (.iinc 3 1, 3) := by decide +kernel
theorem dX9_day_26 : decode cX9_day 26 = .ok (.goto (-12), 3) := by decide +kernel
theorem dX9_day_29 : decode cX9_day 29 = .ok (.aload_n 0, 1) := by decide +kernel
theorem dX9_day_30 : decode cX9_day 30 = .ok (.getfield 31, 3) := by decide +kernel
theorem dX9_day_33 : decode cX9_day 33 = .ok (.invokevirtual 125, 3) := by decide +kernel
theorem dX9_day_36 : decode cX9_day 36 = .ok (.ireturn, 1) := by decide +kernel
theorem dX9_keep_0 : decode cX9_keep 0 = .ok (.aload_n 0, 1) := by decide +kernel
theorem dX9_keep_1 : decode cX9_keep 1 = .ok (.getfield 10, 3) := by decide +kernel
theorem dX9_keep_4 : decode cX9_keep 4 = .ok (.iload_n 1, 1) := by decide +kernel
theorem dX9_keep_5 : decode cX9_keep 5 = .ok (.invokevirtual 170, 3) := by decide +kernel
theorem dX9_keep_8 : decode cX9_keep 8 = .ok (.ifCond .ne 6, 3) := by decide +kernel
theorem dX9_keep_11 : decode cX9_keep 11 = .ok (.ldc 145, 2) := by decide +kernel
theorem dX9_keep_13 : decode cX9_keep 13 = .ok (.ireturn, 1) := by decide +kernel
theorem dX9_keep_14 : decode cX9_keep 14 = .ok (.aload_n 0, 1) := by decide +kernel
theorem dX9_keep_15 : decode cX9_keep 15 = .ok (.getfield 31, 3) := by decide +kernel
theorem dX9_keep_18 : decode cX9_keep 18 = .ok (.iload_n 1, 1) := by decide +kernel
theorem dX9_keep_19 : decode cX9_keep 19 = .ok (.invokevirtual 214, 3) := by decide +kernel
theorem dX9_keep_22 : decode cX9_keep 22 = .ok (.ifCond .ne 6, 3) := by decide +kernel
theorem dX9_keep_25 : decode cX9_keep 25 = .ok (.ldc 207, 2) := by decide +kernel
theorem dX9_keep_27 : decode cX9_keep 27 = .ok (.ireturn, 1) := by decide +kernel
theorem dX9_keep_28 : decode cX9_keep 28 = .ok (.aload_n 0, 1) := by decide +kernel
theorem dX9_keep_29 : decode cX9_keep 29 = .ok (.getfield 31, 3) := by decide +kernel
theorem dX9_keep_32 : decode cX9_keep 32 = .ok (.iload_n 1, 1) := by decide +kernel
theorem dX9_keep_33 : decode cX9_keep 33 = .ok (.iconst 1, 1) := by decide +kernel
theorem dX9_keep_34 : decode cX9_keep 34 = .ok (.aload_n 0, 1) := by decide +kernel
theorem dX9_keep_35 : decode cX9_keep 35 = .ok (.getfield 31, 3) := by decide +kernel
theorem dX9_keep_38 : decode cX9_keep 38 = .ok (.invokevirtual 125, 3) := by decide +kernel
theorem dX9_keep_41 : decode cX9_keep 41 = .ok (.invokevirtual 217, 3) := by decide +kernel
theorem dX9_keep_44 : decode cX9_keep 44 = .ok (.aload_n 0, 1) := by decide +kernel
theorem dX9_keep_45 : decode cX9_keep 45 = .ok (.getfield 10, 3) := by decide +kernel
theorem dX9_keep_48 : decode cX9_keep 48 = .ok (.getfield 185, 3) := by decide +kernel
theorem dX9_keep_51 : decode cX9_keep 51 = .ok (.iload_n 1, 1) := by decide +kernel
theorem dX9_keep_52 : decode cX9_keep 52 = .ok (.invokestatic 160, 3) := by decide +kernel
theorem dX9_keep_55 : decode cX9_keep 55 = .ok (.ireturn, 1) := by decide +kernel
theorem dX9_takeDown_0 : decode cX9_takeDown 0 = .ok (.aload_n 0, 1) := by decide +kernel
theorem dX9_takeDown_1 : decode cX9_takeDown 1 = .ok (.getfield 10, 3) := by decide +kernel
theorem dX9_takeDown_4 : decode cX9_takeDown 4 = .ok (.iload_n 1, 1) := by decide +kernel
theorem dX9_takeDown_5 : decode cX9_takeDown 5 = .ok (.invokevirtual 170, 3) := by decide +kernel
theorem dX9_takeDown_8 : decode cX9_takeDown 8 = .ok (.ifCond .ne 6, 3) := by decide +kernel
theorem dX9_takeDown_11 : decode cX9_takeDown 11 = .ok (.ldc 145, 2) := by decide +kernel
theorem dX9_takeDown_13 : decode cX9_takeDown 13 = .ok (.ireturn, 1) := by decide +kernel
theorem dX9_takeDown_14 : decode cX9_takeDown 14 = .ok (.aload_n 0, 1) := by decide +kernel
theorem dX9_takeDown_15 : decode cX9_takeDown 15 = .ok (.getfield 31, 3) := by decide +kernel
theorem dX9_takeDown_18 : decode cX9_takeDown 18 = .ok (.iload_n 1, 1) := by decide +kernel
theorem dX9_takeDown_19 : decode cX9_takeDown 19 = .ok (.invokevirtual 221, 3) := by decide +kernel
theorem dX9_takeDown_22 : decode cX9_takeDown 22 = .ok (.ifCond .eq 14, 3) := by decide +kernel
theorem dX9_takeDown_25 : decode cX9_takeDown 25 = .ok (.aload_n 0, 1) := by decide +kernel
theorem dX9_takeDown_26 : decode cX9_takeDown 26 = .ok (.getfield 31, 3) := by decide +kernel
theorem dX9_takeDown_29 : decode cX9_takeDown 29 = .ok (.iload_n 1, 1) := by decide +kernel
theorem dX9_takeDown_30 : decode cX9_takeDown 30 = .ok (.invokevirtual 224, 3) := by decide +kernel
theorem dX9_takeDown_33 : decode cX9_takeDown 33 = .ok (.ifCond .eq 6, 3) := by decide +kernel
theorem dX9_takeDown_36 : decode cX9_takeDown 36 = .ok (.ldc 207, 2) := by decide +kernel
theorem dX9_takeDown_38 : decode cX9_takeDown 38 = .ok (.ireturn, 1) := by decide +kernel
theorem dX9_takeDown_39 : decode cX9_takeDown 39 = .ok (.aload_n 0, 1) := by decide +kernel
theorem dX9_takeDown_40 : decode cX9_takeDown 40 = .ok (.getfield 10, 3) := by decide +kernel
theorem dX9_takeDown_43 : decode cX9_takeDown 43 = .ok (.getfield 185, 3) := by decide +kernel
theorem dX9_takeDown_46 : decode cX9_takeDown 46 = .ok (.iload_n 1, 1) := by decide +kernel
theorem dX9_takeDown_47 : decode cX9_takeDown 47 = .ok (.invokestatic 160, 3) := by decide +kernel
theorem dX9_takeDown_50 : decode cX9_takeDown 50 = .ok (.iconst 2, 1) := by decide +kernel
theorem dX9_takeDown_51 : decode cX9_takeDown 51 = .ok (.idiv, 1) := by decide +kernel
theorem dX9_takeDown_52 : decode cX9_takeDown 52 = .ok (.istore_n 2, 1) := by decide +kernel
theorem dX9_takeDown_53 : decode cX9_takeDown 53 = .ok (.aload_n 0, 1) := by decide +kernel
theorem dX9_takeDown_54 : decode cX9_takeDown 54 = .ok (.getfield 31, 3) := by decide +kernel
theorem dX9_takeDown_57 : decode cX9_takeDown 57 = .ok (.iload_n 1, 1) := by decide +kernel
theorem dX9_takeDown_58 : decode cX9_takeDown 58 = .ok (.iconst 3, 1) := by decide +kernel
theorem dX9_takeDown_59 : decode cX9_takeDown 59 = .ok (.iload_n 2, 1) := by decide +kernel
theorem dX9_takeDown_60 : decode cX9_takeDown 60 = .ok (.invokevirtual 227, 3) := by decide +kernel
theorem dX9_takeDown_63 : decode cX9_takeDown 63 = .ok (.iload_n 2, 1) := by decide +kernel
theorem dX9_takeDown_64 : decode cX9_takeDown 64 = .ok (.ireturn, 1) := by decide +kernel
theorem dX9_swap_0 : decode cX9_swap 0 = .ok (.aload_n 0, 1) := by decide +kernel
theorem dX9_swap_1 : decode cX9_swap 1 = .ok (.getfield 10, 3) := by decide +kernel
theorem dX9_swap_4 : decode cX9_swap 4 = .ok (.iload_n 1, 1) := by decide +kernel
theorem dX9_swap_5 : decode cX9_swap 5 = .ok (.invokevirtual 170, 3) := by decide +kernel
theorem dX9_swap_8 : decode cX9_swap 8 = .ok (.ifCond .eq 19, 3) := by decide +kernel
theorem dX9_swap_11 : decode cX9_swap 11 = .ok (.aload_n 0, 1) := by decide +kernel
theorem dX9_swap_12 : decode cX9_swap 12 = .ok (.getfield 10, 3) := by decide +kernel
theorem dX9_swap_15 : decode cX9_swap 15 = .ok (.iload_n 2, 1) := by decide +kernel
theorem dX9_swap_16 : decode cX9_swap 16 = .ok (.invokevirtual 170, 3) := by decide +kernel
theorem dX9_swap_19 : decode cX9_swap 19 = .ok (.ifCond .eq 8, 3) := by decide +kernel
theorem dX9_swap_22 : decode cX9_swap 22 = .ok (.iload_n 1, 1) := by decide +kernel
theorem dX9_swap_23 : decode cX9_swap 23 = .ok (.iload_n 2, 1) := by decide +kernel
theorem dX9_swap_24 : decode cX9_swap 24 = .ok (.if_icmp .ne 6, 3) := by decide +kernel
theorem dX9_swap_27 : decode cX9_swap 27 = .ok (.ldc 145, 2) := by decide +kernel
theorem dX9_swap_29 : decode cX9_swap 29 = .ok (.ireturn, 1) := by decide +kernel
theorem dX9_swap_30 : decode cX9_swap 30 = .ok (.aload_n 0, 1) := by decide +kernel
theorem dX9_swap_31 : decode cX9_swap 31 = .ok (.getfield 31, 3) := by decide +kernel
theorem dX9_swap_34 : decode cX9_swap 34 = .ok (.iload_n 1, 1) := by decide +kernel
theorem dX9_swap_35 : decode cX9_swap 35 = .ok (.invokevirtual 221, 3) := by decide +kernel
theorem dX9_swap_38 : decode cX9_swap 38 = .ok (.ifCond .eq 39, 3) := by decide +kernel
theorem dX9_swap_41 : decode cX9_swap 41 = .ok (.aload_n 0, 1) := by decide +kernel
theorem dX9_swap_42 : decode cX9_swap 42 = .ok (.getfield 31, 3) := by decide +kernel
theorem dX9_swap_45 : decode cX9_swap 45 = .ok (.iload_n 2, 1) := by decide +kernel
theorem dX9_swap_46 : decode cX9_swap 46 = .ok (.invokevirtual 221, 3) := by decide +kernel
theorem dX9_swap_49 : decode cX9_swap 49 = .ok (.ifCond .eq 28, 3) := by decide +kernel
theorem dX9_swap_52 : decode cX9_swap 52 = .ok (.aload_n 0, 1) := by decide +kernel
theorem dX9_swap_53 : decode cX9_swap 53 = .ok (.getfield 10, 3) := by decide +kernel
theorem dX9_swap_56 : decode cX9_swap 56 = .ok (.getfield 185, 3) := by decide +kernel
theorem dX9_swap_59 : decode cX9_swap 59 = .ok (.iload_n 1, 1) := by decide +kernel
theorem dX9_swap_60 : decode cX9_swap 60 = .ok (.invokestatic 160, 3) := by decide +kernel
theorem dX9_swap_63 : decode cX9_swap 63 = .ok (.aload_n 0, 1) := by decide +kernel
theorem dX9_swap_64 : decode cX9_swap 64 = .ok (.getfield 10, 3) := by decide +kernel
theorem dX9_swap_67 : decode cX9_swap 67 = .ok (.getfield 185, 3) := by decide +kernel
theorem dX9_swap_70 : decode cX9_swap 70 = .ok (.iload_n 2, 1) := by decide +kernel
theorem dX9_swap_71 : decode cX9_swap 71 = .ok (.invokestatic 160, 3) := by decide +kernel
theorem dX9_swap_74 : decode cX9_swap 74 = .ok (.if_icmp .eq 6, 3) := by decide +kernel
theorem dX9_swap_77 : decode cX9_swap 77 = .ok (.ldc 207, 2) := by decide +kernel
theorem dX9_swap_79 : decode cX9_swap 79 = .ok (.ireturn, 1) := by decide +kernel
theorem dX9_swap_80 : decode cX9_swap 80 = .ok (.aload_n 0, 1) := by decide +kernel
theorem dX9_swap_81 : decode cX9_swap 81 = .ok (.getfield 31, 3) := by decide +kernel
theorem dX9_swap_84 : decode cX9_swap 84 = .ok (.iload_n 1, 1) := by decide +kernel
theorem dX9_swap_85 : decode cX9_swap 85 = .ok (.iload_n 2, 1) := by decide +kernel
theorem dX9_swap_86 : decode cX9_swap 86 = .ok (.invokevirtual 230, 3) := by decide +kernel
theorem dX9_swap_89 : decode cX9_swap 89 = .ok (.iconst 1, 1) := by decide +kernel
theorem dX9_swap_90 : decode cX9_swap 90 = .ok (.ireturn, 1) := by decide +kernel
theorem dX9_drift_0 : decode cX9_drift 0 = .ok (.aload_n 0, 1) := by decide +kernel
theorem dX9_drift_1 : decode cX9_drift 1 = .ok (.iload_n 1, 1) := by decide +kernel
theorem dX9_drift_2 : decode cX9_drift 2 = .ok (.invokevirtual 208, 3) := by decide +kernel
theorem dX9_drift_5 : decode cX9_drift 5 = .ok (.istore_n 2, 1) := by decide +kernel
theorem dX9_drift_6 : decode cX9_drift 6 = .ok (.iload_n 2, 1) := by decide +kernel
theorem dX9_drift_7 : decode cX9_drift 7 = .ok (.ifCond .eq 5, 3) := by decide +kernel
theorem dX9_drift_10 : decode cX9_drift 10 = .ok (.iload_n 2, 1) := by decide +kernel
theorem dX9_drift_11 : decode cX9_drift 11 = .ok (.ireturn, 1) := by decide +kernel
theorem dX9_drift_12 : decode cX9_drift 12 = .ok (.iconst 0, 1) := by decide +kernel
theorem dX9_drift_13 : decode cX9_drift 13 = .ok (.istore_n 3, 1) := by decide +kernel
theorem dX9_drift_14 : decode cX9_drift 14 = .ok (.iload_n 3, 1) := by decide +kernel
theorem dX9_drift_15 : decode cX9_drift 15 = .ok (.iload_n 1, 1) := by decide +kernel
theorem dX9_drift_16 : decode cX9_drift 16 = .ok (.if_icmp .ge 40, 3) := by decide +kernel
theorem dX9_drift_19 : decode cX9_drift 19 = .ok (.iconst 0, 1) := by decide +kernel
theorem dX9_drift_20 : decode cX9_drift 20 = .ok (.istore 4, 2) := by decide +kernel
theorem dX9_drift_22 : decode cX9_drift 22 = .ok (.iload 4, 2) := by decide +kernel
theorem dX9_drift_24 : decode cX9_drift 24 = .ok (.aload_n 0, 1) := by decide +kernel
theorem dX9_drift_25 : decode cX9_drift 25 = .ok (.getfield 10, 3) := by decide +kernel
theorem dX9_drift_28 : decode cX9_drift 28 = .ok (.getfield 116, 3) := by decide +kernel
theorem dX9_drift_31 : decode cX9_drift 31 = .ok (.if_icmp .ge 15, 3) := by decide +kernel
theorem dX9_drift_34 : decode cX9_drift 34 = .ok (.aload_n 0, 1) := by decide +kernel
theorem dX9_drift_35 : decode cX9_drift 35 = .ok (.iload 4, 2) := by decide +kernel
theorem dX9_drift_37 : decode cX9_drift 37 = .ok (.invokevirtual 234, 3) := by decide +kernel
theorem dX9_drift_40 : decode cX9_drift 40 = .ok (.iinc 4 1, 3) := by decide +kernel
theorem dX9_drift_43 : decode cX9_drift 43 = .ok (.goto (-21), 3) := by decide +kernel
theorem dX9_drift_46 : decode cX9_drift 46 = .ok (.aload_n 0, 1) := by decide +kernel
theorem dX9_drift_47 : decode cX9_drift 47 = .ok (.invokevirtual 211, 3) := by decide +kernel
theorem dX9_drift_50 : decode cX9_drift 50 = .ok (.iinc 3 1, 3) := by decide +kernel
theorem dX9_drift_53 : decode cX9_drift 53 = .ok (.goto (-39), 3) := by decide +kernel
theorem dX9_drift_56 : decode cX9_drift 56 = .ok (.aload_n 0, 1) := by decide +kernel
theorem dX9_drift_57 : decode cX9_drift 57 = .ok (.getfield 31, 3) := by decide +kernel
theorem dX9_drift_60 : decode cX9_drift 60 = .ok (.invokevirtual 125, 3) := by decide +kernel
theorem dX9_drift_63 : decode cX9_drift 63 = .ok (.ireturn, 1) := by decide +kernel
theorem dX9_undo_0 : decode cX9_undo 0 = .ok (.iload_n 1, 1) := by decide +kernel
theorem dX9_undo_1 : decode cX9_undo 1 = .ok (.iconst 1, 1) := by decide +kernel
theorem dX9_undo_2 : decode cX9_undo 2 = .ok (.if_icmp .lt 9, 3) := by decide +kernel
theorem dX9_undo_5 : decode cX9_undo 5 = .ok (.iload_n 1, 1) := by decide +kernel
theorem dX9_undo_6 : decode cX9_undo 6 = .ok (.bipush 30, 2) := by decide +kernel
theorem dX9_undo_8 : decode cX9_undo 8 = .ok (.if_icmp .le 6, 3) := by decide +kernel
theorem dX9_undo_11 : decode cX9_undo 11 = .ok (.ldc 81, 2) := by decide +kernel
theorem dX9_undo_13 : decode cX9_undo 13 = .ok (.ireturn, 1) := by decide +kernel
theorem dX9_undo_14 : decode cX9_undo 14 = .ok (.aload_n 0, 1) := by decide +kernel
theorem dX9_undo_15 : decode cX9_undo 15 = .ok (.getfield 38, 3) := by decide +kernel
theorem dX9_undo_18 : decode cX9_undo 18 = .ok (.iload_n 1, 1) := by decide +kernel
theorem dX9_undo_19 : decode cX9_undo 19 = .ok (.aload_n 0, 1) := by decide +kernel
theorem dX9_undo_20 : decode cX9_undo 20 = .ok (.getfield 31, 3) := by decide +kernel
theorem dX9_undo_23 : decode cX9_undo 23 = .ok (.invokevirtual 238, 3) := by decide +kernel
theorem dX9_undo_26 : decode cX9_undo 26 = .ok (.ifCond .eq 13, 3) := by decide +kernel
theorem dX9_undo_29 : decode cX9_undo 29 = .ok (.aload_n 0, 1) := by decide +kernel
theorem dX9_undo_30 : decode cX9_undo 30 = .ok (.getfield 31, 3) := by decide +kernel
theorem dX9_undo_33 : decode cX9_undo 33 = .ok (.invokevirtual 125, 3) := by decide +kernel
theorem dX9_undo_36 : decode cX9_undo 36 = .ok (.goto 5, 3) := by decide +kernel
theorem dX9_undo_39 : decode cX9_undo 39 = .ok (.ldc 207, 2) := by decide +kernel
theorem dX9_undo_41 : decode cX9_undo 41 = .ok (.ireturn, 1) := by decide +kernel
theorem dX9_plan_0 : decode cX9_plan 0 = .ok (.aload_n 0, 1) := by decide +kernel
theorem dX9_plan_1 : decode cX9_plan 1 = .ok (.iload_n 1, 1) := by decide +kernel
theorem dX9_plan_2 : decode cX9_plan 2 = .ok (.invokevirtual 242, 3) := by decide +kernel
theorem dX9_plan_5 : decode cX9_plan 5 = .ok (.istore_n 3, 1) := by decide +kernel
theorem dX9_plan_6 : decode cX9_plan 6 = .ok (.iload_n 3, 1) := by decide +kernel
theorem dX9_plan_7 : decode cX9_plan 7 = .ok (.ifCond .eq 5, 3) := by decide +kernel
theorem dX9_plan_10 : decode cX9_plan 10 = .ok (.iload_n 3, 1) := by decide +kernel
theorem dX9_plan_11 : decode cX9_plan 11 = .ok (.ireturn, 1) := by decide +kernel
theorem dX9_plan_12 : decode cX9_plan 12 = .ok (.aload_n 0, 1) := by decide +kernel
theorem dX9_plan_13 : decode cX9_plan 13 = .ok (.getfield 61, 3) := by decide +kernel
theorem dX9_plan_16 : decode cX9_plan 16 = .ok (.iload_n 1, 1) := by decide +kernel
theorem dX9_plan_17 : decode cX9_plan 17 = .ok (.aload_n 0, 1) := by decide +kernel
theorem dX9_plan_18 : decode cX9_plan 18 = .ok (.getfield 31, 3) := by decide +kernel
theorem dX9_plan_21 : decode cX9_plan 21 = .ok (.iload_n 1, 1) := by decide +kernel
theorem dX9_plan_22 : decode cX9_plan 22 = .ok (.invokevirtual 245, 3) := by decide +kernel
theorem dX9_plan_25 : decode cX9_plan 25 = .ok (.iconst 0, 1) := by decide +kernel
theorem dX9_plan_26 : decode cX9_plan 26 = .ok (.invokevirtual 248, 3) := by decide +kernel
theorem dX9_plan_29 : decode cX9_plan 29 = .ok (.ifCond .ne 5, 3) := by decide +kernel
theorem dX9_plan_32 : decode cX9_plan 32 = .ok (.iconst (-1), 1) := by decide +kernel
theorem dX9_plan_33 : decode cX9_plan 33 = .ok (.ireturn, 1) := by decide +kernel
theorem dX9_plan_34 : decode cX9_plan 34 = .ok (.iload_n 2, 1) := by decide +kernel
theorem dX9_plan_35 : decode cX9_plan 35 = .ok (.iconst (-1), 1) := by decide +kernel
theorem dX9_plan_36 : decode cX9_plan 36 = .ok (.if_icmp .ne 13, 3) := by decide +kernel
theorem dX9_plan_39 : decode cX9_plan 39 = .ok (.aload_n 0, 1) := by decide +kernel
theorem dX9_plan_40 : decode cX9_plan 40 = .ok (.getfield 61, 3) := by decide +kernel
theorem dX9_plan_43 : decode cX9_plan 43 = .ok (.getfield 252, 3) := by decide +kernel
theorem dX9_plan_46 : decode cX9_plan 46 = .ok (.goto 11, 3) := by decide +kernel
theorem dX9_plan_49 : decode cX9_plan 49 = .ok (.aload_n 0, 1) := by decide +kernel
theorem dX9_plan_50 : decode cX9_plan 50 = .ok (.getfield 61, 3) := by decide +kernel
theorem dX9_plan_53 : decode cX9_plan 53 = .ok (.iload_n 2, 1) := by decide +kernel
theorem dX9_plan_54 : decode cX9_plan 54 = .ok (.invokevirtual 255, 3) := by decide +kernel
theorem dX9_plan_57 : decode cX9_plan 57 = .ok (.ireturn, 1) := by decide +kernel
theorem dX9_clash_0 : decode cX9_clash 0 = .ok (.aload_n 0, 1) := by decide +kernel
theorem dX9_clash_1 : decode cX9_clash 1 = .ok (.getfield 10, 3) := by decide +kernel
theorem dX9_clash_4 : decode cX9_clash 4 = .ok (.iload_n 1, 1) := by decide +kernel
theorem dX9_clash_5 : decode cX9_clash 5 = .ok (.invokevirtual 150, 3) := by decide +kernel
theorem dX9_clash_8 : decode cX9_clash 8 = .ok (.ifCond .ne 6, 3) := by decide +kernel
theorem dX9_clash_11 : decode cX9_clash 11 = .ok (.ldc 145, 2) := by decide +kernel
theorem dX9_clash_13 : decode cX9_clash 13 = .ok (.ireturn, 1) := by decide +kernel
theorem dX9_clash_14 : decode cX9_clash 14 = .ok (.iload_n 2, 1) := by decide +kernel
theorem dX9_clash_15 : decode cX9_clash 15 = .ok (.ifCond .lt 8, 3) := by decide +kernel
theorem dX9_clash_18 : decode cX9_clash 18 = .ok (.iload_n 2, 1) := by decide +kernel
theorem dX9_clash_19 : decode cX9_clash 19 = .ok (.iconst 1, 1) := by decide +kernel
theorem dX9_clash_20 : decode cX9_clash 20 = .ok (.if_icmp .le 6, 3) := by decide +kernel
theorem dX9_clash_23 : decode cX9_clash 23 = .ok (.ldc 81, 2) := by decide +kernel
theorem dX9_clash_25 : decode cX9_clash 25 = .ok (.ireturn, 1) := by decide +kernel
theorem dX9_clash_26 : decode cX9_clash 26 = .ok (.aload_n 0, 1) := by decide +kernel
theorem dX9_clash_27 : decode cX9_clash 27 = .ok (.getfield 31, 3) := by decide +kernel
theorem dX9_clash_30 : decode cX9_clash 30 = .ok (.iload_n 1, 1) := by decide +kernel
theorem dX9_clash_31 : decode cX9_clash 31 = .ok (.invokevirtual 258, 3) := by decide +kernel
theorem dX9_clash_34 : decode cX9_clash 34 = .ok (.ifCond .eq 6, 3) := by decide +kernel
theorem dX9_clash_37 : decode cX9_clash 37 = .ok (.ldc 207, 2) := by decide +kernel
theorem dX9_clash_39 : decode cX9_clash 39 = .ok (.ireturn, 1) := by decide +kernel
theorem dX9_clash_40 : decode cX9_clash 40 = .ok (.aload_n 0, 1) := by decide +kernel
theorem dX9_clash_41 : decode cX9_clash 41 = .ok (.getfield 61, 3) := by decide +kernel
theorem dX9_clash_44 : decode cX9_clash 44 = .ok (.iload_n 1, 1) := by decide +kernel
theorem dX9_clash_45 : decode cX9_clash 45 = .ok (.invokevirtual 261, 3) := by decide +kernel
theorem dX9_clash_48 : decode cX9_clash 48 = .ok (.istore_n 3, 1) := by decide +kernel
theorem dX9_clash_49 : decode cX9_clash 49 = .ok (.iload_n 3, 1) := by decide +kernel
theorem dX9_clash_50 : decode cX9_clash 50 = .ok (.iconst (-1), 1) := by decide +kernel
theorem dX9_clash_51 : decode cX9_clash 51 = .ok (.if_icmp .ne 5, 3) := by decide +kernel
theorem dX9_clash_54 : decode cX9_clash 54 = .ok (.iconst (-1), 1) := by decide +kernel
theorem dX9_clash_55 : decode cX9_clash 55 = .ok (.ireturn, 1) := by decide +kernel
theorem dX9_clash_56 : decode cX9_clash 56 = .ok (.iload_n 2, 1) := by decide +kernel
theorem dX9_clash_57 : decode cX9_clash 57 = .ok (.ifCond .ne 10, 3) := by decide +kernel
theorem dX9_clash_60 : decode cX9_clash 60 = .ok (.iload_n 3, 1) := by decide +kernel
theorem dX9_clash_61 : decode cX9_clash 61 = .ok (.bipush 7, 2) := by decide +kernel
theorem dX9_clash_63 : decode cX9_clash 63 = .ok (.idiv, 1) := by decide +kernel
theorem dX9_clash_64 : decode cX9_clash 64 = .ok (.goto 7, 3) := by decide +kernel
theorem dX9_clash_67 : decode cX9_clash 67 = .ok (.iload_n 3, 1) := by decide +kernel
theorem dX9_clash_68 : decode cX9_clash 68 = .ok (.bipush 7, 2) := by decide +kernel
theorem dX9_clash_70 : decode cX9_clash 70 = .ok (.irem, 1) := by decide +kernel
theorem dX9_clash_71 : decode cX9_clash 71 = .ok (.ireturn, 1) := by decide +kernel
theorem dX9_still_0 : decode cX9_still 0 = .ok (.aload_n 0, 1) := by decide +kernel
theorem dX9_still_1 : decode cX9_still 1 = .ok (.getfield 10, 3) := by decide +kernel
theorem dX9_still_4 : decode cX9_still 4 = .ok (.iload_n 1, 1) := by decide +kernel
theorem dX9_still_5 : decode cX9_still 5 = .ok (.invokevirtual 150, 3) := by decide +kernel
theorem dX9_still_8 : decode cX9_still 8 = .ok (.ifCond .eq 14, 3) := by decide +kernel
theorem dX9_still_11 : decode cX9_still 11 = .ok (.aload_n 0, 1) := by decide +kernel
theorem dX9_still_12 : decode cX9_still 12 = .ok (.getfield 10, 3) := by decide +kernel
theorem dX9_still_15 : decode cX9_still 15 = .ok (.iload_n 2, 1) := by decide +kernel
theorem dX9_still_16 : decode cX9_still 16 = .ok (.invokevirtual 142, 3) := by decide +kernel
theorem dX9_still_19 : decode cX9_still 19 = .ok (.ifCond .ne 6, 3) := by decide +kernel
theorem dX9_still_22 : decode cX9_still 22 = .ok (.ldc 145, 2) := by decide +kernel
theorem dX9_still_24 : decode cX9_still 24 = .ok (.ireturn, 1) := by decide +kernel
theorem dX9_still_25 : decode cX9_still 25 = .ok (.iload_n 3, 1) := by decide +kernel
theorem dX9_still_26 : decode cX9_still 26 = .ok (.ifCond .lt 9, 3) := by decide +kernel
theorem dX9_still_29 : decode cX9_still 29 = .ok (.iload_n 3, 1) := by decide +kernel
theorem dX9_still_30 : decode cX9_still 30 = .ok (.bipush 9, 2) := by decide +kernel
theorem dX9_still_32 : decode cX9_still 32 = .ok (.if_icmp .le 6, 3) := by decide +kernel
theorem dX9_still_35 : decode cX9_still 35 = .ok (.ldc 81, 2) := by decide +kernel
theorem dX9_still_37 : decode cX9_still 37 = .ok (.ireturn, 1) := by decide +kernel
theorem dX9_still_38 : decode cX9_still 38 = .ok (.aload_n 0, 1) := by decide +kernel
theorem dX9_still_39 : decode cX9_still 39 = .ok (.getfield 31, 3) := by decide +kernel
theorem dX9_still_42 : decode cX9_still 42 = .ok (.iload_n 1, 1) := by decide +kernel
theorem dX9_still_43 : decode cX9_still 43 = .ok (.invokevirtual 258, 3) := by decide +kernel
theorem dX9_still_46 : decode cX9_still 46 = .ok (.ifCond .eq 6, 3) := by decide +kernel
theorem dX9_still_49 : decode cX9_still 49 = .ok (.ldc 207, 2) := by decide +kernel
theorem dX9_still_51 : decode cX9_still 51 = .ok (.ireturn, 1) := by decide +kernel
theorem dX9_still_52 : decode cX9_still 52 = .ok (.iconst 0, 1) := by decide +kernel
theorem dX9_still_53 : decode cX9_still 53 = .ok (.istore 4, 2) := by decide +kernel
theorem dX9_still_55 : decode cX9_still 55 = .ok (.iconst 1, 1) := by decide +kernel
theorem dX9_still_56 : decode cX9_still 56 = .ok (.istore 5, 2) := by decide +kernel
theorem dX9_still_58 : decode cX9_still 58 = .ok (.iload 5, 2) := by decide +kernel
theorem dX9_still_60 : decode cX9_still 60 = .ok (.bipush 30, 2) := by decide +kernel
theorem dX9_still_62 : decode cX9_still 62 = .ok (.if_icmp .gt 67, 3) := by decide +kernel
theorem dX9_still_65 : decode cX9_still 65 = .ok (.aload_n 0, 1) := by decide +kernel
theorem dX9_still_66 : decode cX9_still 66 = .ok (.getfield 61, 3) := by decide +kernel
theorem dX9_still_69 : decode cX9_still 69 = .ok (.iload_n 2, 1) := by decide +kernel
theorem dX9_still_70 : decode cX9_still 70 = .ok (.aload_n 0, 1) := by decide +kernel
theorem dX9_still_71 : decode cX9_still 71 = .ok (.getfield 10, 3) := by decide +kernel
theorem dX9_still_74 : decode cX9_still 74 = .ok (.aload_n 0, 1) := by decide +kernel
theorem dX9_still_75 : decode cX9_still 75 = .ok (.getfield 31, 3) := by decide +kernel
theorem dX9_still_78 : decode cX9_still 78 = .ok (.invokevirtual 125, 3) := by decide +kernel
theorem dX9_still_81 : decode cX9_still 81 = .ok (.iload 5, 2) := by decide +kernel
theorem dX9_still_83 : decode cX9_still 83 = .ok (.invokevirtual 264, 3) := by decide +kernel
theorem dX9_still_86 : decode cX9_still 86 = .ok (.iload_n 3, 1) := by decide +kernel
theorem dX9_still_87 : decode cX9_still 87 = .ok (.invokevirtual 267, 3) := by decide +kernel
theorem dX9_still_90 : decode cX9_still 90 = .ok (.aload_n 0, 1) := by decide +kernel
theorem dX9_still_91 : decode cX9_still 91 = .ok (.getfield 61, 3) := by decide +kernel
theorem dX9_still_94 : decode cX9_still 94 = .ok (.iload_n 1, 1) := by decide +kernel
theorem dX9_still_95 : decode cX9_still 95 = .ok (.aload_n 0, 1) := by decide +kernel
theorem dX9_still_96 : decode cX9_still 96 = .ok (.getfield 31, 3) := by decide +kernel
theorem dX9_still_99 : decode cX9_still 99 = .ok (.iload_n 1, 1) := by decide +kernel
theorem dX9_still_100 : decode cX9_still 100 = .ok (.invokevirtual 245, 3) := by decide +kernel
theorem dX9_still_103 : decode cX9_still 103 = .ok (.sipush 128, 3) := by decide +kernel
theorem dX9_still_106 : decode cX9_still 106 = .ok (.ior, 1) := by decide +kernel
theorem dX9_still_107 : decode cX9_still 107 = .ok (.iconst 1, 1) := by decide +kernel
theorem dX9_still_108 : decode cX9_still 108 = .ok (.invokevirtual 248, 3) := by decide +kernel
theorem dX9_still_111 : decode cX9_still 111 = .ok (.ifCond .eq 12, 3) := by decide +kernel
theorem dX9_still_114 : decode cX9_still 114 = .ok (.iload 4, 2) := by decide +kernel
theorem dX9_still_116 : decode cX9_still 116 = .ok (.iconst 1, 1) := by decide +kernel
theorem dX9_still_117 : decode cX9_still 117 = .ok (.iload 5, 2) := by decide +kernel
theorem dX9_still_119 : decode cX9_still 119 = .ok (.ishl, 1) := by decide +kernel
theorem dX9_still_120 : decode cX9_still 120 = .ok (.ior, 1) := by decide +kernel
theorem dX9_still_121 : decode cX9_still 121 = .ok (.istore 4, 2) := by decide +kernel
theorem dX9_still_123 : decode cX9_still 123 = .ok (.iinc 5 1, 3) := by decide +kernel
theorem dX9_still_126 : decode cX9_still 126 = .ok (.goto (-68), 3) := by decide +kernel
theorem dX9_still_129 : decode cX9_still 129 = .ok (.iload 4, 2) := by decide +kernel
theorem dX9_still_131 : decode cX9_still 131 = .ok (.ireturn, 1) := by decide +kernel
theorem dX9_hands_0 : decode cX9_hands 0 = .ok (.iload_n 1, 1) := by decide +kernel
theorem dX9_hands_1 : decode cX9_hands 1 = .ok (.iconst (-1), 1) := by decide +kernel
theorem dX9_hands_2 : decode cX9_hands 2 = .ok (.if_icmp .eq 17, 3) := by decide +kernel
theorem dX9_hands_5 : decode cX9_hands 5 = .ok (.aload_n 0, 1) := by decide +kernel
theorem dX9_hands_6 : decode cX9_hands 6 = .ok (.getfield 10, 3) := by decide +kernel
theorem dX9_hands_9 : decode cX9_hands 9 = .ok (.iload_n 1, 1) := by decide +kernel
theorem dX9_hands_10 : decode cX9_hands 10 = .ok (.invokevirtual 170, 3) := by decide +kernel
theorem dX9_hands_13 : decode cX9_hands 13 = .ok (.ifCond .ne 6, 3) := by decide +kernel
theorem dX9_hands_16 : decode cX9_hands 16 = .ok (.ldc 145, 2) := by decide +kernel
theorem dX9_hands_18 : decode cX9_hands 18 = .ok (.ireturn, 1) := by decide +kernel
theorem dX9_hands_19 : decode cX9_hands 19 = .ok (.iconst 0, 1) := by decide +kernel
theorem dX9_hands_20 : decode cX9_hands 20 = .ok (.istore_n 2, 1) := by decide +kernel
theorem dX9_hands_21 : decode cX9_hands 21 = .ok (.iload_n 2, 1) := by decide +kernel
theorem dX9_hands_22 : decode cX9_hands 22 = .ok (.aload_n 0, 1) := by decide +kernel
theorem dX9_hands_23 : decode cX9_hands 23 = .ok (.getfield 10, 3) := by decide +kernel
theorem dX9_hands_26 : decode cX9_hands 26 = .ok (.getfield 116, 3) := by decide +kernel
theorem dX9_hands_29 : decode cX9_hands 29 = .ok (.if_icmp .ge 23, 3) := by decide +kernel
theorem dX9_hands_32 : decode cX9_hands 32 = .ok (.aload_n 0, 1) := by decide +kernel
theorem dX9_hands_33 : decode cX9_hands 33 = .ok (.getfield 31, 3) := by decide +kernel
theorem dX9_hands_36 : decode cX9_hands 36 = .ok (.iload_n 2, 1) := by decide +kernel
theorem dX9_hands_37 : decode cX9_hands 37 = .ok (.invokevirtual 258, 3) := by decide +kernel
theorem dX9_hands_40 : decode cX9_hands 40 = .ok (.ifCond .eq 6, 3) := by decide +kernel
theorem dX9_hands_43 : decode cX9_hands 43 = .ok (.ldc 207, 2) := by decide +kernel
theorem dX9_hands_45 : decode cX9_hands 45 = .ok (.ireturn, 1) := by decide +kernel
theorem dX9_hands_46 : decode cX9_hands 46 = .ok (.iinc 2 1, 3) := by decide +kernel
theorem dX9_hands_49 : decode cX9_hands 49 = .ok (.goto (-28), 3) := by decide +kernel
theorem dX9_hands_52 : decode cX9_hands 52 = .ok (.aload_n 0, 1) := by decide +kernel
theorem dX9_hands_53 : decode cX9_hands 53 = .ok (.getfield 70, 3) := by decide +kernel
theorem dX9_hands_56 : decode cX9_hands 56 = .ok (.invokevirtual 270, 3) := by decide +kernel
theorem dX9_hands_59 : decode cX9_hands 59 = .ok (.aload_n 0, 1) := by decide +kernel
theorem dX9_hands_60 : decode cX9_hands 60 = .ok (.getfield 70, 3) := by decide +kernel
theorem dX9_hands_63 : decode cX9_hands 63 = .ok (.invokevirtual 273, 3) := by decide +kernel
theorem dX9_hands_66 : decode cX9_hands 66 = .ok (.istore_n 2, 1) := by decide +kernel
theorem dX9_hands_67 : decode cX9_hands 67 = .ok (.iload_n 2, 1) := by decide +kernel
theorem dX9_hands_68 : decode cX9_hands 68 = .ok (.iconst (-1), 1) := by decide +kernel
theorem dX9_hands_69 : decode cX9_hands 69 = .ok (.if_icmp .eq 8, 3) := by decide +kernel
theorem dX9_hands_72 : decode cX9_hands 72 = .ok (.iload_n 1, 1) := by decide +kernel
theorem dX9_hands_73 : decode cX9_hands 73 = .ok (.iconst (-1), 1) := by decide +kernel
theorem dX9_hands_74 : decode cX9_hands 74 = .ok (.if_icmp .ne 5, 3) := by decide +kernel
theorem dX9_hands_77 : decode cX9_hands 77 = .ok (.iload_n 2, 1) := by decide +kernel
theorem dX9_hands_78 : decode cX9_hands 78 = .ok (.ireturn, 1) := by decide +kernel
theorem dX9_hands_79 : decode cX9_hands 79 = .ok (.aload_n 0, 1) := by decide +kernel
theorem dX9_hands_80 : decode cX9_hands 80 = .ok (.getfield 70, 3) := by decide +kernel
theorem dX9_hands_83 : decode cX9_hands 83 = .ok (.getfield 276, 3) := by decide +kernel
theorem dX9_hands_86 : decode cX9_hands 86 = .ok (.iload_n 1, 1) := by decide +kernel
theorem dX9_hands_87 : decode cX9_hands 87 = .ok (.invokestatic 160, 3) := by decide +kernel
theorem dX9_hands_90 : decode cX9_hands 90 = .ok (.ireturn, 1) := by decide +kernel
theorem dX9_calendar_0 : decode cX9_calendar 0 = .ok (.aload_n 0, 1) := by decide +kernel
theorem dX9_calendar_1 : decode cX9_calendar 1 = .ok (.getfield 10, 3) := by decide +kernel
theorem dX9_calendar_4 : decode cX9_calendar 4 = .ok (.iload_n 1, 1) := by decide +kernel
theorem dX9_calendar_5 : decode cX9_calendar 5 = .ok (.invokevirtual 150, 3) := by decide +kernel
theorem dX9_calendar_8 : decode cX9_calendar 8 = .ok (.ifCond .ne 6, 3) := by decide +kernel
theorem dX9_calendar_11 : decode cX9_calendar 11 = .ok (.ldc 145, 2) := by decide +kernel
theorem dX9_calendar_13 : decode cX9_calendar 13 = .ok (.ireturn, 1) := by decide +kernel
theorem dX9_calendar_14 : decode cX9_calendar 14 = .ok (.iload_n 2, 1) := by decide +kernel
theorem dX9_calendar_15 : decode cX9_calendar 15 = .ok (.ifCond .lt 10, 3) := by decide +kernel
theorem dX9_calendar_18 : decode cX9_calendar 18 = .ok (.iload_n 2, 1) := by decide +kernel
theorem dX9_calendar_19 : decode cX9_calendar 19 = .ok (.sipush 9999, 3) := by decide +kernel
theorem dX9_calendar_22 : decode cX9_calendar 22 = .ok (.if_icmp .le 8, 3) := by decide +kernel
theorem dX9_calendar_25 : decode cX9_calendar 25 = .ok (.ldc 81, 2) := by decide +kernel
theorem dX9_calendar_27 : decode cX9_calendar 27 = .ok (.goto 12, 3) := by decide +kernel
theorem dX9_calendar_30 : decode cX9_calendar 30 = .ok (.aload_n 0, 1) := by decide +kernel
theorem dX9_calendar_31 : decode cX9_calendar 31 = .ok (.getfield 31, 3) := by decide +kernel
theorem dX9_calendar_34 : decode cX9_calendar 34 = .ok (.iload_n 1, 1) := by decide +kernel
theorem dX9_calendar_35 : decode cX9_calendar 35 = .ok (.iload_n 2, 1) := by decide +kernel
theorem dX9_calendar_36 : decode cX9_calendar 36 = .ok (.invokevirtual 279, 3) := by decide +kernel
theorem dX9_calendar_39 : decode cX9_calendar 39 = .ok (.ireturn, 1) := by decide +kernel
theorem dX9_busiest_0 : decode cX9_busiest 0 = .ok (.iload_n 1, 1) := by decide +kernel
theorem dX9_busiest_1 : decode cX9_busiest 1 = .ok (.ifCond .lt 8, 3) := by decide +kernel
theorem dX9_busiest_4 : decode cX9_busiest 4 = .ok (.iload_n 1, 1) := by decide +kernel
theorem dX9_busiest_5 : decode cX9_busiest 5 = .ok (.iconst 1, 1) := by decide +kernel
theorem dX9_busiest_6 : decode cX9_busiest 6 = .ok (.if_icmp .le 6, 3) := by decide +kernel
theorem dX9_busiest_9 : decode cX9_busiest 9 = .ok (.ldc 81, 2) := by decide +kernel
theorem dX9_busiest_11 : decode cX9_busiest 11 = .ok (.ireturn, 1) := by decide +kernel
theorem dX9_busiest_12 : decode cX9_busiest 12 = .ok (.aload_n 0, 1) := by decide +kernel
theorem dX9_busiest_13 : decode cX9_busiest 13 = .ok (.getfield 10, 3) := by decide +kernel
theorem dX9_busiest_16 : decode cX9_busiest 16 = .ok (.getfield 106, 3) := by decide +kernel
theorem dX9_busiest_19 : decode cX9_busiest 19 = .ok (.ifCond .ne 6, 3) := by decide +kernel
theorem dX9_busiest_22 : decode cX9_busiest 22 = .ok (.ldc 207, 2) := by decide +kernel
theorem dX9_busiest_24 : decode cX9_busiest 24 = .ok (.ireturn, 1) := by decide +kernel
theorem dX9_busiest_25 : decode cX9_busiest 25 = .ok (.iconst 0, 1) := by decide +kernel
theorem dX9_busiest_26 : decode cX9_busiest 26 = .ok (.istore_n 2, 1) := by decide +kernel
theorem dX9_busiest_27 : decode cX9_busiest 27 = .ok (.aload_n 0, 1) := by decide +kernel
theorem dX9_busiest_28 : decode cX9_busiest 28 = .ok (.getfield 31, 3) := by decide +kernel
theorem dX9_busiest_31 : decode cX9_busiest 31 = .ok (.invokevirtual 125, 3) := by decide +kernel
theorem dX9_busiest_34 : decode cX9_busiest 34 = .ok (.istore_n 3, 1) := by decide +kernel
theorem dX9_busiest_35 : decode cX9_busiest 35 = .ok (.iconst 0, 1) := by decide +kernel
theorem dX9_busiest_36 : decode cX9_busiest 36 = .ok (.istore 4, 2) := by decide +kernel
theorem dX9_busiest_38 : decode cX9_busiest 38 = .ok (.iload 4, 2) := by decide +kernel
theorem dX9_busiest_40 : decode cX9_busiest 40 = .ok (.sipush 200, 3) := by decide +kernel
theorem dX9_busiest_43 : decode cX9_busiest 43 = .ok (.if_icmp .ge 45, 3) := by decide +kernel
theorem dX9_busiest_46 : decode cX9_busiest 46 = .ok (.aload_n 0, 1) := by decide +kernel
theorem dX9_busiest_47 : decode cX9_busiest 47 = .ok (.aload_n 0, 1) := by decide +kernel
theorem dX9_busiest_48 : decode cX9_busiest 48 = .ok (.getfield 31, 3) := by decide +kernel
theorem dX9_busiest_51 : decode cX9_busiest 51 = .ok (.invokevirtual 125, 3) := by decide +kernel
theorem dX9_busiest_54 : decode cX9_busiest 54 = .ok (.iload 4, 2) := by decide +kernel
theorem dX9_busiest_56 : decode cX9_busiest 56 = .ok (.iadd, 1) := by decide +kernel
theorem dX9_busiest_57 : decode cX9_busiest 57 = .ok (.invokevirtual 282, 3) := by decide +kernel
theorem dX9_busiest_60 : decode cX9_busiest 60 = .ok (.istore 5, 2) := by decide +kernel
theorem dX9_busiest_62 : decode cX9_busiest 62 = .ok (.iload 5, 2) := by decide +kernel
theorem dX9_busiest_64 : decode cX9_busiest 64 = .ok (.iload_n 2, 1) := by decide +kernel
theorem dX9_busiest_65 : decode cX9_busiest 65 = .ok (.if_icmp .le 17, 3) := by decide +kernel
theorem dX9_busiest_68 : decode cX9_busiest 68 = .ok (.iload 5, 2) := by decide +kernel
theorem dX9_busiest_70 : decode cX9_busiest 70 = .ok (.istore_n 2, 1) := by decide +kernel
theorem dX9_busiest_71 : decode cX9_busiest 71 = .ok (.aload_n 0, 1) := by decide +kernel
theorem dX9_busiest_72 : decode cX9_busiest 72 = .ok (.getfield 31, 3) := by decide +kernel
theorem dX9_busiest_75 : decode cX9_busiest 75 = .ok (.invokevirtual 125, 3) := by decide +kernel
theorem dX9_busiest_78 : decode cX9_busiest 78 = .ok (.iload 4, 2) := by decide +kernel
theorem dX9_busiest_80 : decode cX9_busiest 80 = .ok (.iadd, 1) := by decide +kernel
theorem dX9_busiest_81 : decode cX9_busiest 81 = .ok (.istore_n 3, 1) := by decide +kernel
theorem dX9_busiest_82 : decode cX9_busiest 82 = .ok (.iinc 4 1, 3) := by decide +kernel
theorem dX9_busiest_85 : decode cX9_busiest 85 = .ok (.goto (-47), 3) := by decide +kernel
theorem dX9_busiest_88 : decode cX9_busiest 88 = .ok (.iload_n 1, 1) := by decide +kernel
theorem dX9_busiest_89 : decode cX9_busiest 89 = .ok (.ifCond .ne 7, 3) := by decide +kernel
theorem dX9_busiest_92 : decode cX9_busiest 92 = .ok (.iload_n 3, 1) := by decide +kernel
theorem dX9_busiest_93 : decode cX9_busiest 93 = .ok (.goto 4, 3) := by decide +kernel
theorem dX9_busiest_96 : decode cX9_busiest 96 = .ok (.iload_n 2, 1) := by decide +kernel
theorem dX9_busiest_97 : decode cX9_busiest 97 = .ok (.ireturn, 1) := by decide +kernel
theorem dX9_lives_0 : decode cX9_lives 0 = .ok (.aload_n 0, 1) := by decide +kernel
theorem dX9_lives_1 : decode cX9_lives 1 = .ok (.getfield 10, 3) := by decide +kernel
theorem dX9_lives_4 : decode cX9_lives 4 = .ok (.iload_n 1, 1) := by decide +kernel
theorem dX9_lives_5 : decode cX9_lives 5 = .ok (.invokevirtual 170, 3) := by decide +kernel
theorem dX9_lives_8 : decode cX9_lives 8 = .ok (.ifCond .ne 6, 3) := by decide +kernel
theorem dX9_lives_11 : decode cX9_lives 11 = .ok (.ldc 145, 2) := by decide +kernel
theorem dX9_lives_13 : decode cX9_lives 13 = .ok (.ireturn, 1) := by decide +kernel
theorem dX9_lives_14 : decode cX9_lives 14 = .ok (.iload_n 2, 1) := by decide +kernel
theorem dX9_lives_15 : decode cX9_lives 15 = .ok (.ifCond .lt 10, 3) := by decide +kernel
theorem dX9_lives_18 : decode cX9_lives 18 = .ok (.iload_n 2, 1) := by decide +kernel
theorem dX9_lives_19 : decode cX9_lives 19 = .ok (.sipush 1000, 3) := by decide +kernel
theorem dX9_lives_22 : decode cX9_lives 22 = .ok (.if_icmp .le 6, 3) := by decide +kernel
theorem dX9_lives_25 : decode cX9_lives 25 = .ok (.ldc 81, 2) := by decide +kernel
theorem dX9_lives_27 : decode cX9_lives 27 = .ok (.ireturn, 1) := by decide +kernel
theorem dX9_lives_28 : decode cX9_lives 28 = .ok (.aload_n 0, 1) := by decide +kernel
theorem dX9_lives_29 : decode cX9_lives 29 = .ok (.getfield 31, 3) := by decide +kernel
theorem dX9_lives_32 : decode cX9_lives 32 = .ok (.iload_n 1, 1) := by decide +kernel
theorem dX9_lives_33 : decode cX9_lives 33 = .ok (.invokevirtual 194, 3) := by decide +kernel
theorem dX9_lives_36 : decode cX9_lives 36 = .ok (.istore_n 3, 1) := by decide +kernel
theorem dX9_lives_37 : decode cX9_lives 37 = .ok (.aload_n 0, 1) := by decide +kernel
theorem dX9_lives_38 : decode cX9_lives 38 = .ok (.getfield 31, 3) := by decide +kernel
theorem dX9_lives_41 : decode cX9_lives 41 = .ok (.iload_n 1, 1) := by decide +kernel
theorem dX9_lives_42 : decode cX9_lives 42 = .ok (.invokevirtual 221, 3) := by decide +kernel
theorem dX9_lives_45 : decode cX9_lives 45 = .ok (.ifCond .eq 8, 3) := by decide +kernel
theorem dX9_lives_48 : decode cX9_lives 48 = .ok (.iload_n 3, 1) := by decide +kernel
theorem dX9_lives_49 : decode cX9_lives 49 = .ok (.iconst (-1), 1) := by decide +kernel
theorem dX9_lives_50 : decode cX9_lives 50 = .ok (.if_icmp .ne 5, 3) := by decide +kernel
theorem dX9_lives_53 : decode cX9_lives 53 = .ok (.iconst (-1), 1) := by decide +kernel
theorem dX9_lives_54 : decode cX9_lives 54 = .ok (.ireturn, 1) := by decide +kernel
theorem dX9_lives_55 : decode cX9_lives 55 = .ok (.ldc2_w 285, 3) := by decide +kernel
theorem dX9_lives_58 : decode cX9_lives 58 = .ok (.lstore 4, 2) := by decide +kernel
theorem dX9_lives_60 : decode cX9_lives 60 = .ok (.aload_n 0, 1) := by decide +kernel
theorem dX9_lives_61 : decode cX9_lives 61 = .ok (.getfield 31, 3) := by decide +kernel
theorem dX9_lives_64 : decode cX9_lives 64 = .ok (.invokevirtual 125, 3) := by decide +kernel
theorem dX9_lives_67 : decode cX9_lives 67 = .ok (.istore 6, 2) := by decide +kernel
theorem dX9_lives_69 : decode cX9_lives 69 = .ok (.iload 6, 2) := by decide +kernel
theorem dX9_lives_71 : decode cX9_lives 71 = .ok (.iload_n 3, 1) := by decide +kernel
theorem dX9_lives_72 : decode cX9_lives 72 = .ok (.if_icmp .ge 24, 3) := by decide +kernel
theorem dX9_lives_75 : decode cX9_lives 75 = .ok (.lload 4, 2) := by decide +kernel
theorem dX9_lives_77 : decode cX9_lives 77 = .ok (.sipush 1000, 3) := by decide +kernel
theorem dX9_lives_80 : decode cX9_lives 80 = .ok (.iload_n 2, 1) := by decide +kernel
theorem dX9_lives_81 : decode cX9_lives 81 = .ok (.isub, 1) := by decide +kernel
theorem dX9_lives_82 : decode cX9_lives 82 = .ok (.i2l, 1) := by decide +kernel
theorem dX9_lives_83 : decode cX9_lives 83 = .ok (.lmul, 1) := by decide +kernel
theorem dX9_lives_84 : decode cX9_lives 84 = .ok (.ldc2_w 287, 3) := by decide +kernel
theorem dX9_lives_87 : decode cX9_lives 87 = .ok (.ldiv, 1) := by decide +kernel
theorem dX9_lives_88 : decode cX9_lives 88 = .ok (.lstore 4, 2) := by decide +kernel
theorem dX9_lives_90 : decode cX9_lives 90 = .ok (.iinc 6 1, 3) := by decide +kernel
theorem dX9_lives_93 : decode cX9_lives 93 = .ok (.goto (-24), 3) := by decide +kernel
theorem dX9_lives_96 : decode cX9_lives 96 = .ok (.lload 4, 2) := by decide +kernel
theorem dX9_lives_98 : decode cX9_lives 98 = .ok (.l2i, 1) := by decide +kernel
theorem dX9_lives_99 : decode cX9_lives 99 = .ok (.ireturn, 1) := by decide +kernel
theorem dX9_share_0 : decode cX9_share 0 = .ok (.aload_n 0, 1) := by decide +kernel
theorem dX9_share_1 : decode cX9_share 1 = .ok (.getfield 10, 3) := by decide +kernel
theorem dX9_share_4 : decode cX9_share 4 = .ok (.iload_n 1, 1) := by decide +kernel
theorem dX9_share_5 : decode cX9_share 5 = .ok (.invokevirtual 150, 3) := by decide +kernel
theorem dX9_share_8 : decode cX9_share 8 = .ok (.ifCond .ne 6, 3) := by decide +kernel
theorem dX9_share_11 : decode cX9_share 11 = .ok (.ldc 145, 2) := by decide +kernel
theorem dX9_share_13 : decode cX9_share 13 = .ok (.ireturn, 1) := by decide +kernel
theorem dX9_share_14 : decode cX9_share 14 = .ok (.aload_n 0, 1) := by decide +kernel
theorem dX9_share_15 : decode cX9_share 15 = .ok (.getfield 10, 3) := by decide +kernel
theorem dX9_share_18 : decode cX9_share 18 = .ok (.getfield 156, 3) := by decide +kernel
theorem dX9_share_21 : decode cX9_share 21 = .ok (.iload_n 1, 1) := by decide +kernel
theorem dX9_share_22 : decode cX9_share 22 = .ok (.invokestatic 160, 3) := by decide +kernel
theorem dX9_share_25 : decode cX9_share 25 = .ok (.istore_n 2, 1) := by decide +kernel
theorem dX9_share_26 : decode cX9_share 26 = .ok (.aload_n 0, 1) := by decide +kernel
theorem dX9_share_27 : decode cX9_share 27 = .ok (.getfield 31, 3) := by decide +kernel
theorem dX9_share_30 : decode cX9_share 30 = .ok (.iload_n 2, 1) := by decide +kernel
theorem dX9_share_31 : decode cX9_share 31 = .ok (.invokevirtual 200, 3) := by decide +kernel
theorem dX9_share_34 : decode cX9_share 34 = .ok (.istore_n 3, 1) := by decide +kernel
theorem dX9_share_35 : decode cX9_share 35 = .ok (.iconst 0, 1) := by decide +kernel
theorem dX9_share_36 : decode cX9_share 36 = .ok (.istore 4, 2) := by decide +kernel
theorem dX9_share_38 : decode cX9_share 38 = .ok (.iconst 0, 1) := by decide +kernel
theorem dX9_share_39 : decode cX9_share 39 = .ok (.istore 5, 2) := by decide +kernel
theorem dX9_share_41 : decode cX9_share 41 = .ok (.iload 5, 2) := by decide +kernel
theorem dX9_share_43 : decode cX9_share 43 = .ok (.aload_n 0, 1) := by decide +kernel
theorem dX9_share_44 : decode cX9_share 44 = .ok (.getfield 10, 3) := by decide +kernel
theorem dX9_share_47 : decode cX9_share 47 = .ok (.getfield 116, 3) := by decide +kernel
theorem dX9_share_50 : decode cX9_share 50 = .ok (.if_icmp .ge 43, 3) := by decide +kernel
theorem dX9_share_53 : decode cX9_share 53 = .ok (.iload 4, 2) := by decide +kernel
theorem dX9_share_55 : decode cX9_share 55 = .ok (.aload_n 0, 1) := by decide +kernel
theorem dX9_share_56 : decode cX9_share 56 = .ok (.getfield 10, 3) := by decide +kernel
theorem dX9_share_59 : decode cX9_share 59 = .ok (.getfield 156, 3) := by decide +kernel
theorem dX9_share_62 : decode cX9_share 62 = .ok (.iload 5, 2) := by decide +kernel
theorem dX9_share_64 : decode cX9_share 64 = .ok (.invokestatic 160, 3) := by decide +kernel
theorem dX9_share_67 : decode cX9_share 67 = .ok (.iload_n 2, 1) := by decide +kernel
theorem dX9_share_68 : decode cX9_share 68 = .ok (.if_icmp .ne 15, 3) := by decide +kernel
theorem dX9_share_71 : decode cX9_share 71 = .ok (.aload_n 0, 1) := by decide +kernel
theorem dX9_share_72 : decode cX9_share 72 = .ok (.getfield 31, 3) := by decide +kernel
theorem dX9_share_75 : decode cX9_share 75 = .ok (.iload 5, 2) := by decide +kernel
theorem dX9_share_77 : decode cX9_share 77 = .ok (.invokevirtual 289, 3) := by decide +kernel
theorem dX9_share_80 : decode cX9_share 80 = .ok (.goto 4, 3) := by decide +kernel
theorem dX9_share_83 : decode cX9_share 83 = .ok (.iconst 0, 1) := by decide +kernel
theorem dX9_share_84 : decode cX9_share 84 = .ok (.iadd, 1) := by decide +kernel
theorem dX9_share_85 : decode cX9_share 85 = .ok (.istore 4, 2) := by decide +kernel
theorem dX9_share_87 : decode cX9_share 87 = .ok (.iinc 5 1, 3) := by decide +kernel
theorem dX9_share_90 : decode cX9_share 90 = .ok (.goto (-49), 3) := by decide +kernel
theorem dX9_share_93 : decode cX9_share 93 = .ok (.iload 4, 2) := by decide +kernel
theorem dX9_share_95 : decode cX9_share 95 = .ok (.ifCond .gt 18, 3) := by decide +kernel
theorem dX9_share_98 : decode cX9_share 98 = .ok (.aload_n 0, 1) := by decide +kernel
theorem dX9_share_99 : decode cX9_share 99 = .ok (.iload_n 2, 1) := by decide +kernel
theorem dX9_share_100 : decode cX9_share 100 = .ok (.invokevirtual 292, 3) := by decide +kernel
theorem dX9_share_103 : decode cX9_share 103 = .ok (.iload_n 1, 1) := by decide +kernel
theorem dX9_share_104 : decode cX9_share 104 = .ok (.if_icmp .ne 7, 3) := by decide +kernel
theorem dX9_share_107 : decode cX9_share 107 = .ok (.iload_n 3, 1) := by decide +kernel
theorem dX9_share_108 : decode cX9_share 108 = .ok (.goto 4, 3) := by decide +kernel
theorem dX9_share_111 : decode cX9_share 111 = .ok (.iconst 0, 1) := by decide +kernel
theorem dX9_share_112 : decode cX9_share 112 = .ok (.ireturn, 1) := by decide +kernel
theorem dX9_share_113 : decode cX9_share 113 = .ok (.iload_n 3, 1) := by decide +kernel
theorem dX9_share_114 : decode cX9_share 114 = .ok (.istore 5, 2) := by decide +kernel
theorem dX9_share_116 : decode cX9_share 116 = .ok (.iconst 0, 1) := by decide +kernel
theorem dX9_share_117 : decode cX9_share 117 = .ok (.istore 6, 2) := by decide +kernel
theorem dX9_share_119 : decode cX9_share 119 = .ok (.iload_n 3, 1) := by decide +kernel
theorem dX9_share_120 : decode cX9_share 120 = .ok (.aload_n 0, 1) := by decide +kernel
theorem dX9_share_121 : decode cX9_share 121 = .ok (.getfield 31, 3) := by decide +kernel
theorem dX9_share_124 : decode cX9_share 124 = .ok (.iload_n 1, 1) := by decide +kernel
theorem dX9_share_125 : decode cX9_share 125 = .ok (.invokevirtual 289, 3) := by decide +kernel
theorem dX9_share_128 : decode cX9_share 128 = .ok (.imul, 1) := by decide +kernel
theorem dX9_share_129 : decode cX9_share 129 = .ok (.iload 4, 2) := by decide +kernel
theorem dX9_share_131 : decode cX9_share 131 = .ok (.irem, 1) := by decide +kernel
theorem dX9_share_132 : decode cX9_share 132 = .ok (.istore 7, 2) := by decide +kernel
theorem dX9_share_134 : decode cX9_share 134 = .ok (.iconst 0, 1) := by decide +kernel
theorem dX9_share_135 : decode cX9_share 135 = .ok (.istore 8, 2) := by decide +kernel
theorem dX9_share_137 : decode cX9_share 137 = .ok (.iload 8, 2) := by decide +kernel
theorem dX9_share_139 : decode cX9_share 139 = .ok (.aload_n 0, 1) := by decide +kernel
theorem dX9_share_140 : decode cX9_share 140 = .ok (.getfield 10, 3) := by decide +kernel
theorem dX9_share_143 : decode cX9_share 143 = .ok (.getfield 116, 3) := by decide +kernel
theorem dX9_share_146 : decode cX9_share 146 = .ok (.if_icmp .ge 90, 3) := by decide +kernel
theorem dX9_share_149 : decode cX9_share 149 = .ok (.aload_n 0, 1) := by decide +kernel
theorem dX9_share_150 : decode cX9_share 150 = .ok (.getfield 10, 3) := by decide +kernel
theorem dX9_share_153 : decode cX9_share 153 = .ok (.getfield 156, 3) := by decide +kernel
theorem dX9_share_156 : decode cX9_share 156 = .ok (.iload 8, 2) := by decide +kernel
theorem dX9_share_158 : decode cX9_share 158 = .ok (.invokestatic 160, 3) := by decide +kernel
theorem dX9_share_161 : decode cX9_share 161 = .ok (.iload_n 2, 1) := by decide +kernel
theorem dX9_share_162 : decode cX9_share 162 = .ok (.if_icmp .ne 68, 3) := by decide +kernel
theorem dX9_share_165 : decode cX9_share 165 = .ok (.iload 5, 2) := by decide +kernel
theorem dX9_share_167 : decode cX9_share 167 = .ok (.iload_n 3, 1) := by decide +kernel
theorem dX9_share_168 : decode cX9_share 168 = .ok (.aload_n 0, 1) := by decide +kernel
theorem dX9_share_169 : decode cX9_share 169 = .ok (.getfield 31, 3) := by decide +kernel
theorem dX9_share_172 : decode cX9_share 172 = .ok (.iload 8, 2) := by decide +kernel
theorem dX9_share_174 : decode cX9_share 174 = .ok (.invokevirtual 289, 3) := by decide +kernel
theorem dX9_share_177 : decode cX9_share 177 = .ok (.imul, 1) := by decide +kernel
theorem dX9_share_178 : decode cX9_share 178 = .ok (.iload 4, 2) := by decide +kernel
theorem dX9_share_180 : decode cX9_share 180 = .ok (.idiv, 1) := by decide +kernel
theorem dX9_share_181 : decode cX9_share 181 = .ok (.isub, 1) := by decide +kernel
theorem dX9_share_182 : decode cX9_share 182 = .ok (.istore 5, 2) := by decide +kernel
theorem dX9_share_184 : decode cX9_share 184 = .ok (.iload_n 3, 1) := by decide +kernel
theorem dX9_share_185 : decode cX9_share 185 = .ok (.aload_n 0, 1) := by decide +kernel
theorem dX9_share_186 : decode cX9_share 186 = .ok (.getfield 31, 3) := by decide +kernel
theorem dX9_share_189 : decode cX9_share 189 = .ok (.iload 8, 2) := by decide +kernel
theorem dX9_share_191 : decode cX9_share 191 = .ok (.invokevirtual 289, 3) := by decide +kernel
theorem dX9_share_194 : decode cX9_share 194 = .ok (.imul, 1) := by decide +kernel
theorem dX9_share_195 : decode cX9_share 195 = .ok (.iload 4, 2) := by decide +kernel
theorem dX9_share_197 : decode cX9_share 197 = .ok (.irem, 1) := by decide +kernel
theorem dX9_share_198 : decode cX9_share 198 = .ok (.istore 9, 2) := by decide +kernel
theorem dX9_share_200 : decode cX9_share 200 = .ok (.iload 6, 2) := by decide +kernel
theorem dX9_share_202 : decode cX9_share 202 = .ok (.iload 9, 2) := by decide +kernel
theorem dX9_share_204 : decode cX9_share 204 = .ok (.iload 7, 2) := by decide +kernel
theorem dX9_share_206 : decode cX9_share 206 = .ok (.if_icmp .gt 16, 3) := by decide +kernel
theorem dX9_share_209 : decode cX9_share 209 = .ok (.iload 9, 2) := by decide +kernel
theorem dX9_share_211 : decode cX9_share 211 = .ok (.iload 7, 2) := by decide +kernel
theorem dX9_share_213 : decode cX9_share 213 = .ok (.if_icmp .ne 13, 3) := by decide +kernel
theorem dX9_share_216 : decode cX9_share 216 = .ok (.iload 8, 2) := by decide +kernel
theorem dX9_share_218 : decode cX9_share 218 = .ok (.iload_n 1, 1) := by decide +kernel
theorem dX9_share_219 : decode cX9_share 219 = .ok (.if_icmp .ge 7, 3) := by decide +kernel
theorem dX9_share_222 : decode cX9_share 222 = .ok (.iconst 1, 1) := by decide +kernel
theorem dX9_share_223 : decode cX9_share 223 = .ok (.goto 4, 3) := by decide +kernel
theorem dX9_share_226 : decode cX9_share 226 = .ok (.iconst 0, 1) := by decide +kernel
theorem dX9_share_227 : decode cX9_share 227 = .ok (.iadd, 1) := by decide +kernel
theorem dX9_share_228 : decode cX9_share 228 = .ok (.istore 6, 2) := by decide +kernel
theorem dX9_share_230 : decode cX9_share 230 = .ok (.iinc 8 1, 3) := by decide +kernel
theorem dX9_share_233 : decode cX9_share 233 = .ok (.goto (-96), 3) := by decide +kernel
theorem dX9_share_236 : decode cX9_share 236 = .ok (.iload_n 3, 1) := by decide +kernel
theorem dX9_share_237 : decode cX9_share 237 = .ok (.aload_n 0, 1) := by decide +kernel
theorem dX9_share_238 : decode cX9_share 238 = .ok (.getfield 31, 3) := by decide +kernel
theorem dX9_share_241 : decode cX9_share 241 = .ok (.iload_n 1, 1) := by decide +kernel
theorem dX9_share_242 : decode cX9_share 242 = .ok (.invokevirtual 289, 3) := by decide +kernel
theorem dX9_share_245 : decode cX9_share 245 = .ok (.imul, 1) := by decide +kernel
theorem dX9_share_246 : decode cX9_share 246 = .ok (.iload 4, 2) := by decide +kernel
theorem dX9_share_248 : decode cX9_share 248 = .ok (.idiv, 1) := by decide +kernel
theorem dX9_share_249 : decode cX9_share 249 = .ok (.iload 6, 2) := by decide +kernel
theorem dX9_share_251 : decode cX9_share 251 = .ok (.iload 5, 2) := by decide +kernel
theorem dX9_share_253 : decode cX9_share 253 = .ok (.if_icmp .ge 7, 3) := by decide +kernel
theorem dX9_share_256 : decode cX9_share 256 = .ok (.iconst 1, 1) := by decide +kernel
theorem dX9_share_257 : decode cX9_share 257 = .ok (.goto 4, 3) := by decide +kernel
theorem dX9_share_260 : decode cX9_share 260 = .ok (.iconst 0, 1) := by decide +kernel
theorem dX9_share_261 : decode cX9_share 261 = .ok (.iadd, 1) := by decide +kernel
theorem dX9_share_262 : decode cX9_share 262 = .ok (.ireturn, 1) := by decide +kernel
theorem dX9_let_0 : decode cX9_let 0 = .ok (.aload_n 0, 1) := by decide +kernel
theorem dX9_let_1 : decode cX9_let 1 = .ok (.getfield 10, 3) := by decide +kernel
theorem dX9_let_4 : decode cX9_let 4 = .ok (.iload_n 1, 1) := by decide +kernel
theorem dX9_let_5 : decode cX9_let 5 = .ok (.invokevirtual 150, 3) := by decide +kernel
theorem dX9_let_8 : decode cX9_let 8 = .ok (.ifCond .ne 6, 3) := by decide +kernel
theorem dX9_let_11 : decode cX9_let 11 = .ok (.ldc 145, 2) := by decide +kernel
theorem dX9_let_13 : decode cX9_let 13 = .ok (.ireturn, 1) := by decide +kernel
theorem dX9_let_14 : decode cX9_let 14 = .ok (.iload_n 2, 1) := by decide +kernel
theorem dX9_let_15 : decode cX9_let 15 = .ok (.ifCond .lt 18, 3) := by decide +kernel
theorem dX9_let_18 : decode cX9_let 18 = .ok (.iload_n 2, 1) := by decide +kernel
theorem dX9_let_19 : decode cX9_let 19 = .ok (.bipush 99, 2) := by decide +kernel
theorem dX9_let_21 : decode cX9_let 21 = .ok (.if_icmp .gt 12, 3) := by decide +kernel
theorem dX9_let_24 : decode cX9_let 24 = .ok (.iload_n 3, 1) := by decide +kernel
theorem dX9_let_25 : decode cX9_let 25 = .ok (.ifCond .lt 8, 3) := by decide +kernel
theorem dX9_let_28 : decode cX9_let 28 = .ok (.iload_n 3, 1) := by decide +kernel
theorem dX9_let_29 : decode cX9_let 29 = .ok (.iconst 2, 1) := by decide +kernel
theorem dX9_let_30 : decode cX9_let 30 = .ok (.if_icmp .le 6, 3) := by decide +kernel
theorem dX9_let_33 : decode cX9_let 33 = .ok (.ldc 81, 2) := by decide +kernel
theorem dX9_let_35 : decode cX9_let 35 = .ok (.ireturn, 1) := by decide +kernel
theorem dX9_let_36 : decode cX9_let 36 = .ok (.aload_n 0, 1) := by decide +kernel
theorem dX9_let_37 : decode cX9_let 37 = .ok (.getfield 31, 3) := by decide +kernel
theorem dX9_let_40 : decode cX9_let 40 = .ok (.iload_n 1, 1) := by decide +kernel
theorem dX9_let_41 : decode cX9_let 41 = .ok (.invokevirtual 167, 3) := by decide +kernel
theorem dX9_let_44 : decode cX9_let 44 = .ok (.istore 4, 2) := by decide +kernel
theorem dX9_let_46 : decode cX9_let 46 = .ok (.iconst 0, 1) := by decide +kernel
theorem dX9_let_47 : decode cX9_let 47 = .ok (.istore 5, 2) := by decide +kernel
theorem dX9_let_49 : decode cX9_let 49 = .ok (.iconst (-1), 1) := by decide +kernel
theorem dX9_let_50 : decode cX9_let 50 = .ok (.istore 6, 2) := by decide +kernel
theorem dX9_let_52 : decode cX9_let 52 = .ok (.iload 4, 2) := by decide +kernel
theorem dX9_let_54 : decode cX9_let 54 = .ok (.istore 7, 2) := by decide +kernel
theorem dX9_let_56 : decode cX9_let 56 = .ok (.iconst 0, 1) := by decide +kernel
theorem dX9_let_57 : decode cX9_let 57 = .ok (.istore 8, 2) := by decide +kernel
theorem dX9_let_59 : decode cX9_let 59 = .ok (.iload 8, 2) := by decide +kernel
theorem dX9_let_61 : decode cX9_let 61 = .ok (.sipush 128, 3) := by decide +kernel
theorem dX9_let_64 : decode cX9_let 64 = .ok (.if_icmp .ge 56, 3) := by decide +kernel
theorem dX9_let_67 : decode cX9_let 67 = .ok (.iload 8, 2) := by decide +kernel
theorem dX9_let_69 : decode cX9_let 69 = .ok (.iload 4, 2) := by decide +kernel
theorem dX9_let_71 : decode cX9_let 71 = .ok (.iconst (-1), 1) := by decide +kernel
theorem dX9_let_72 : decode cX9_let 72 = .ok (.ixor, 1) := by decide +kernel
theorem dX9_let_73 : decode cX9_let 73 = .ok (.iand, 1) := by decide +kernel
theorem dX9_let_74 : decode cX9_let 74 = .ok (.ifCond .ne 40, 3) := by decide +kernel
theorem dX9_let_77 : decode cX9_let 77 = .ok (.aload_n 0, 1) := by decide +kernel
theorem dX9_let_78 : decode cX9_let 78 = .ok (.getfield 10, 3) := by decide +kernel
theorem dX9_let_81 : decode cX9_let 81 = .ok (.iload 8, 2) := by decide +kernel
theorem dX9_let_83 : decode cX9_let 83 = .ok (.invokevirtual 295, 3) := by decide +kernel
theorem dX9_let_86 : decode cX9_let 86 = .ok (.iload_n 2, 1) := by decide +kernel
theorem dX9_let_87 : decode cX9_let 87 = .ok (.if_icmp .ne 27, 3) := by decide +kernel
theorem dX9_let_90 : decode cX9_let 90 = .ok (.iload 5, 2) := by decide +kernel
theorem dX9_let_92 : decode cX9_let 92 = .ok (.ifCond .ne 8, 3) := by decide +kernel
theorem dX9_let_95 : decode cX9_let 95 = .ok (.iload 8, 2) := by decide +kernel
theorem dX9_let_97 : decode cX9_let 97 = .ok (.goto 5, 3) := by decide +kernel
theorem dX9_let_100 : decode cX9_let 100 = .ok (.iload 6, 2) := by decide +kernel
theorem dX9_let_102 : decode cX9_let 102 = .ok (.istore 6, 2) := by decide +kernel
theorem dX9_let_104 : decode cX9_let 104 = .ok (.iload 7, 2) := by decide +kernel
theorem dX9_let_106 : decode cX9_let 106 = .ok (.iload 8, 2) := by decide +kernel
theorem dX9_let_108 : decode cX9_let 108 = .ok (.iand, 1) := by decide +kernel
theorem dX9_let_109 : decode cX9_let 109 = .ok (.istore 7, 2) := by decide +kernel
theorem dX9_let_111 : decode cX9_let 111 = .ok (.iinc 5 1, 3) := by decide +kernel
theorem dX9_let_114 : decode cX9_let 114 = .ok (.iinc 8 1, 3) := by decide +kernel
theorem dX9_let_117 : decode cX9_let 117 = .ok (.goto (-58), 3) := by decide +kernel
theorem dX9_let_120 : decode cX9_let 120 = .ok (.iload_n 3, 1) := by decide +kernel
theorem dX9_let_121 : decode cX9_let 121 = .ok (.ifCond .ne 6, 3) := by decide +kernel
theorem dX9_let_124 : decode cX9_let 124 = .ok (.iload 5, 2) := by decide +kernel
theorem dX9_let_126 : decode cX9_let 126 = .ok (.ireturn, 1) := by decide +kernel
theorem dX9_let_127 : decode cX9_let 127 = .ok (.iload_n 3, 1) := by decide +kernel
theorem dX9_let_128 : decode cX9_let 128 = .ok (.iconst 1, 1) := by decide +kernel
theorem dX9_let_129 : decode cX9_let 129 = .ok (.if_icmp .ne 8, 3) := by decide +kernel
theorem dX9_let_132 : decode cX9_let 132 = .ok (.iload 6, 2) := by decide +kernel
theorem dX9_let_134 : decode cX9_let 134 = .ok (.goto 14, 3) := by decide +kernel
theorem dX9_let_137 : decode cX9_let 137 = .ok (.iload 5, 2) := by decide +kernel
theorem dX9_let_139 : decode cX9_let 139 = .ok (.ifCond .ne 7, 3) := by decide +kernel
theorem dX9_let_142 : decode cX9_let 142 = .ok (.iconst 0, 1) := by decide +kernel
theorem dX9_let_143 : decode cX9_let 143 = .ok (.goto 5, 3) := by decide +kernel
theorem dX9_let_146 : decode cX9_let 146 = .ok (.iload 7, 2) := by decide +kernel
theorem dX9_let_148 : decode cX9_let 148 = .ok (.ireturn, 1) := by decide +kernel
theorem dX9_write_0 : decode cX9_write 0 = .ok (.aload_n 0, 1) := by decide +kernel
theorem dX9_write_1 : decode cX9_write 1 = .ok (.getfield 10, 3) := by decide +kernel
theorem dX9_write_4 : decode cX9_write 4 = .ok (.iload_n 1, 1) := by decide +kernel
theorem dX9_write_5 : decode cX9_write 5 = .ok (.invokevirtual 170, 3) := by decide +kernel
theorem dX9_write_8 : decode cX9_write 8 = .ok (.ifCond .ne 6, 3) := by decide +kernel
theorem dX9_write_11 : decode cX9_write 11 = .ok (.ldc 145, 2) := by decide +kernel
theorem dX9_write_13 : decode cX9_write 13 = .ok (.ireturn, 1) := by decide +kernel
theorem dX9_write_14 : decode cX9_write 14 = .ok (.iload_n 2, 1) := by decide +kernel
theorem dX9_write_15 : decode cX9_write 15 = .ok (.ifCond .lt 10, 3) := by decide +kernel
theorem dX9_write_18 : decode cX9_write 18 = .ok (.iload_n 2, 1) := by decide +kernel
theorem dX9_write_19 : decode cX9_write 19 = .ok (.sipush 9999, 3) := by decide +kernel
theorem dX9_write_22 : decode cX9_write 22 = .ok (.if_icmp .le 6, 3) := by decide +kernel
theorem dX9_write_25 : decode cX9_write 25 = .ok (.ldc 81, 2) := by decide +kernel
theorem dX9_write_27 : decode cX9_write 27 = .ok (.ireturn, 1) := by decide +kernel
theorem dX9_write_28 : decode cX9_write 28 = .ok (.aload_n 0, 1) := by decide +kernel
theorem dX9_write_29 : decode cX9_write 29 = .ok (.getfield 77, 3) := by decide +kernel
theorem dX9_write_32 : decode cX9_write 32 = .ok (.getfield 132, 3) := by decide +kernel
theorem dX9_write_35 : decode cX9_write 35 = .ok (.bipush 20, 2) := by decide +kernel
theorem dX9_write_37 : decode cX9_write 37 = .ok (.if_icmp .lt 8, 3) := by decide +kernel
theorem dX9_write_40 : decode cX9_write 40 = .ok (.ldc 86, 2) := by decide +kernel
theorem dX9_write_42 : decode cX9_write 42 = .ok (.goto 12, 3) := by decide +kernel
theorem dX9_write_45 : decode cX9_write 45 = .ok (.aload_n 0, 1) := by decide +kernel
theorem dX9_write_46 : decode cX9_write 46 = .ok (.getfield 77, 3) := by decide +kernel
theorem dX9_write_49 : decode cX9_write 49 = .ok (.iload_n 1, 1) := by decide +kernel
theorem dX9_write_50 : decode cX9_write 50 = .ok (.iload_n 2, 1) := by decide +kernel
theorem dX9_write_51 : decode cX9_write 51 = .ok (.invokevirtual 298, 3) := by decide +kernel
theorem dX9_write_54 : decode cX9_write 54 = .ok (.ireturn, 1) := by decide +kernel
theorem dX9_judge_0 : decode cX9_judge 0 = .ok (.aload_n 0, 1) := by decide +kernel
theorem dX9_judge_1 : decode cX9_judge 1 = .ok (.getfield 77, 3) := by decide +kernel
theorem dX9_judge_4 : decode cX9_judge 4 = .ok (.aload_n 0, 1) := by decide +kernel
theorem dX9_judge_5 : decode cX9_judge 5 = .ok (.getfield 31, 3) := by decide +kernel
theorem dX9_judge_8 : decode cX9_judge 8 = .ok (.invokevirtual 300, 3) := by decide +kernel
theorem dX9_judge_11 : decode cX9_judge 11 = .ok (.ireturn, 1) := by decide +kernel
theorem dX9_tear_0 : decode cX9_tear 0 = .ok (.aload_n 0, 1) := by decide +kernel
theorem dX9_tear_1 : decode cX9_tear 1 = .ok (.getfield 77, 3) := by decide +kernel
theorem dX9_tear_4 : decode cX9_tear 4 = .ok (.getfield 132, 3) := by decide +kernel
theorem dX9_tear_7 : decode cX9_tear 7 = .ok (.istore_n 1, 1) := by decide +kernel
theorem dX9_tear_8 : decode cX9_tear 8 = .ok (.aload_n 0, 1) := by decide +kernel
theorem dX9_tear_9 : decode cX9_tear 9 = .ok (.getfield 77, 3) := by decide +kernel
theorem dX9_tear_12 : decode cX9_tear 12 = .ok (.invokevirtual 102, 3) := by decide +kernel
theorem dX9_tear_15 : decode cX9_tear 15 = .ok (.iload_n 1, 1) := by decide +kernel
theorem dX9_tear_16 : decode cX9_tear 16 = .ok (.ireturn, 1) := by decide +kernel
theorem dX9_seed_0 : decode cX9_seed 0 = .ok (.iload_n 1, 1) := by decide +kernel
theorem dX9_seed_1 : decode cX9_seed 1 = .ok (.ifCond .ge 6, 3) := by decide +kernel
theorem dX9_seed_4 : decode cX9_seed 4 = .ok (.ldc 81, 2) := by decide +kernel
theorem dX9_seed_6 : decode cX9_seed 6 = .ok (.ireturn, 1) := by decide +kernel
theorem dX9_seed_7 : decode cX9_seed 7 = .ok (.aload_n 0, 1) := by decide +kernel
theorem dX9_seed_8 : decode cX9_seed 8 = .ok (.getfield 52, 3) := by decide +kernel
theorem dX9_seed_11 : decode cX9_seed 11 = .ok (.getfield 304, 3) := by decide +kernel
theorem dX9_seed_14 : decode cX9_seed 14 = .ok (.istore_n 2, 1) := by decide +kernel
theorem dX9_seed_15 : decode cX9_seed 15 = .ok (.aload_n 0, 1) := by decide +kernel
theorem dX9_seed_16 : decode cX9_seed 16 = .ok (.getfield 52, 3) := by decide +kernel
theorem dX9_seed_19 : decode cX9_seed 19 = .ok (.iload_n 1, 1) := by decide +kernel
theorem dX9_seed_20 : decode cX9_seed 20 = .ok (.putfield 304, 3) := by decide +kernel
theorem dX9_seed_23 : decode cX9_seed 23 = .ok (.iload_n 2, 1) := by decide +kernel
theorem dX9_seed_24 : decode cX9_seed 24 = .ok (.ireturn, 1) := by decide +kernel
theorem dX9_image_0 : decode cX9_image 0 = .ok (.iload_n 1, 1) := by decide +kernel
theorem dX9_image_1 : decode cX9_image 1 = .ok (.ifCond .lt 8, 3) := by decide +kernel
theorem dX9_image_4 : decode cX9_image 4 = .ok (.iload_n 1, 1) := by decide +kernel
theorem dX9_image_5 : decode cX9_image 5 = .ok (.iconst 2, 1) := by decide +kernel
theorem dX9_image_6 : decode cX9_image 6 = .ok (.if_icmp .lt 6, 3) := by decide +kernel
theorem dX9_image_9 : decode cX9_image 9 = .ok (.ldc 145, 2) := by decide +kernel
theorem dX9_image_11 : decode cX9_image 11 = .ok (.ireturn, 1) := by decide +kernel
theorem dX9_image_12 : decode cX9_image 12 = .ok (.aload_n 0, 1) := by decide +kernel
theorem dX9_image_13 : decode cX9_image 13 = .ok (.getfield 45, 3) := by decide +kernel
theorem dX9_image_16 : decode cX9_image 16 = .ok (.iload_n 1, 1) := by decide +kernel
theorem dX9_image_17 : decode cX9_image 17 = .ok (.aload_n 0, 1) := by decide +kernel
theorem dX9_image_18 : decode cX9_image 18 = .ok (.getfield 31, 3) := by decide +kernel
theorem dX9_image_21 : decode cX9_image 21 = .ok (.aload_n 0, 1) := by decide +kernel
theorem dX9_image_22 : decode cX9_image 22 = .ok (.getfield 52, 3) := by decide +kernel
theorem dX9_image_25 : decode cX9_image 25 = .ok (.invokevirtual 307, 3) := by decide +kernel
theorem dX9_image_28 : decode cX9_image 28 = .ok (.aload_n 0, 1) := by decide +kernel
theorem dX9_image_29 : decode cX9_image 29 = .ok (.getfield 38, 3) := by decide +kernel
theorem dX9_image_32 : decode cX9_image 32 = .ok (.invokevirtual 98, 3) := by decide +kernel
theorem dX9_image_35 : decode cX9_image 35 = .ok (.iconst 1, 1) := by decide +kernel
theorem dX9_image_36 : decode cX9_image 36 = .ok (.ireturn, 1) := by decide +kernel
theorem dX9_goBack_0 : decode cX9_goBack 0 = .ok (.iload_n 1, 1) := by decide +kernel
theorem dX9_goBack_1 : decode cX9_goBack 1 = .ok (.ifCond .lt 8, 3) := by decide +kernel
theorem dX9_goBack_4 : decode cX9_goBack 4 = .ok (.iload_n 1, 1) := by decide +kernel
theorem dX9_goBack_5 : decode cX9_goBack 5 = .ok (.iconst 2, 1) := by decide +kernel
theorem dX9_goBack_6 : decode cX9_goBack 6 = .ok (.if_icmp .lt 6, 3) := by decide +kernel
theorem dX9_goBack_9 : decode cX9_goBack 9 = .ok (.ldc 145, 2) := by decide +kernel
theorem dX9_goBack_11 : decode cX9_goBack 11 = .ok (.ireturn, 1) := by decide +kernel
theorem dX9_goBack_12 : decode cX9_goBack 12 = .ok (.aload_n 0, 1) := by decide +kernel
theorem dX9_goBack_13 : decode cX9_goBack 13 = .ok (.getfield 45, 3) := by decide +kernel
theorem dX9_goBack_16 : decode cX9_goBack 16 = .ok (.iload_n 1, 1) := by decide +kernel
theorem dX9_goBack_17 : decode cX9_goBack 17 = .ok (.aload_n 0, 1) := by decide +kernel
theorem dX9_goBack_18 : decode cX9_goBack 18 = .ok (.getfield 31, 3) := by decide +kernel
theorem dX9_goBack_21 : decode cX9_goBack 21 = .ok (.aload_n 0, 1) := by decide +kernel
theorem dX9_goBack_22 : decode cX9_goBack 22 = .ok (.getfield 52, 3) := by decide +kernel
theorem dX9_goBack_25 : decode cX9_goBack 25 = .ok (.invokevirtual 311, 3) := by decide +kernel
theorem dX9_goBack_28 : decode cX9_goBack 28 = .ok (.ifCond .ne 6, 3) := by decide +kernel
theorem dX9_goBack_31 : decode cX9_goBack 31 = .ok (.ldc 207, 2) := by decide +kernel
theorem dX9_goBack_33 : decode cX9_goBack 33 = .ok (.ireturn, 1) := by decide +kernel
theorem dX9_goBack_34 : decode cX9_goBack 34 = .ok (.aload_n 0, 1) := by decide +kernel
theorem dX9_goBack_35 : decode cX9_goBack 35 = .ok (.getfield 38, 3) := by decide +kernel
theorem dX9_goBack_38 : decode cX9_goBack 38 = .ok (.invokevirtual 98, 3) := by decide +kernel
theorem dX9_goBack_41 : decode cX9_goBack 41 = .ok (.iconst 1, 1) := by decide +kernel
theorem dX9_goBack_42 : decode cX9_goBack 42 = .ok (.ireturn, 1) := by decide +kernel
theorem dX9_refusalOfDays_0 : decode cX9_refusalOfDays 0 = .ok (.iload_n 1, 1) := by decide +kernel
theorem dX9_refusalOfDays_1 : decode cX9_refusalOfDays 1 = .ok (.iconst 1, 1) := by decide +kernel
theorem dX9_refusalOfDays_2 : decode cX9_refusalOfDays 2 = .ok (.if_icmp .lt 9, 3) := by decide +kernel
theorem dX9_refusalOfDays_5 : decode cX9_refusalOfDays 5 = .ok (.iload_n 1, 1) := by decide +kernel
theorem dX9_refusalOfDays_6 : decode cX9_refusalOfDays 6 = .ok (.bipush 99, 2) := by decide +kernel
theorem dX9_refusalOfDays_8 : decode cX9_refusalOfDays 8 = .ok (.if_icmp .le 6, 3) := by decide +kernel
theorem dX9_refusalOfDays_11 : decode cX9_refusalOfDays 11 = .ok (.ldc 81, 2) := by decide +kernel
theorem dX9_refusalOfDays_13 : decode cX9_refusalOfDays 13 = .ok (.ireturn, 1) := by decide +kernel
theorem dX9_refusalOfDays_14 : decode cX9_refusalOfDays 14 = .ok (.aload_n 0, 1) := by decide +kernel
theorem dX9_refusalOfDays_15 : decode cX9_refusalOfDays 15 = .ok (.getfield 10, 3) := by decide +kernel
theorem dX9_refusalOfDays_18 : decode cX9_refusalOfDays 18 = .ok (.getfield 106, 3) := by decide +kernel
theorem dX9_refusalOfDays_21 : decode cX9_refusalOfDays 21 = .ok (.ifCond .ne 6, 3) := by decide +kernel
theorem dX9_refusalOfDays_24 : decode cX9_refusalOfDays 24 = .ok (.ldc 207, 2) := by decide +kernel
theorem dX9_refusalOfDays_26 : decode cX9_refusalOfDays 26 = .ok (.ireturn, 1) := by decide +kernel
theorem dX9_refusalOfDays_27 : decode cX9_refusalOfDays 27 = .ok (.aload_n 0, 1) := by decide +kernel
theorem dX9_refusalOfDays_28 : decode cX9_refusalOfDays 28 = .ok (.getfield 31, 3) := by decide +kernel
theorem dX9_refusalOfDays_31 : decode cX9_refusalOfDays 31 = .ok (.invokevirtual 125, 3) := by decide +kernel
theorem dX9_refusalOfDays_34 : decode cX9_refusalOfDays 34 = .ok (.sipush 9000, 3) := by decide +kernel
theorem dX9_refusalOfDays_37 : decode cX9_refusalOfDays 37 = .ok (.if_icmp .le 8, 3) := by decide +kernel
theorem dX9_refusalOfDays_40 : decode cX9_refusalOfDays 40 = .ok (.ldc 86, 2) := by decide +kernel
theorem dX9_refusalOfDays_42 : decode cX9_refusalOfDays 42 = .ok (.goto 4, 3) := by decide +kernel
theorem dX9_refusalOfDays_45 : decode cX9_refusalOfDays 45 = .ok (.iconst 0, 1) := by decide +kernel
theorem dX9_refusalOfDays_46 : decode cX9_refusalOfDays 46 = .ok (.ireturn, 1) := by decide +kernel
theorem dX9_refusalOfTrying_0 : decode cX9_refusalOfTrying 0 = .ok (.aload_n 0, 1) := by decide +kernel
theorem dX9_refusalOfTrying_1 : decode cX9_refusalOfTrying 1 = .ok (.getfield 10, 3) := by decide +kernel
theorem dX9_refusalOfTrying_4 : decode cX9_refusalOfTrying 4 = .ok (.iload_n 1, 1) := by decide +kernel
theorem dX9_refusalOfTrying_5 : decode cX9_refusalOfTrying 5 = .ok (.invokevirtual 150, 3) := by decide +kernel
theorem dX9_refusalOfTrying_8 : decode cX9_refusalOfTrying 8 = .ok (.ifCond .ne 6, 3) := by decide +kernel
theorem dX9_refusalOfTrying_11 : decode cX9_refusalOfTrying 11 = .ok (.ldc 145, 2) := by decide +kernel
theorem dX9_refusalOfTrying_13 : decode cX9_refusalOfTrying 13 = .ok (.ireturn, 1) := by decide +kernel
theorem dX9_refusalOfTrying_14 : decode cX9_refusalOfTrying 14 = .ok (.aload_n 0, 1) := by decide +kernel
theorem dX9_refusalOfTrying_15 : decode cX9_refusalOfTrying 15 = .ok (.getfield 31, 3) := by decide +kernel
theorem dX9_refusalOfTrying_18 : decode cX9_refusalOfTrying 18 = .ok (.iload_n 1, 1) := by decide +kernel
theorem dX9_refusalOfTrying_19 : decode cX9_refusalOfTrying 19 = .ok (.invokevirtual 258, 3) := by decide +kernel
theorem dX9_refusalOfTrying_22 : decode cX9_refusalOfTrying 22 = .ok (.ifCond .eq 8, 3) := by decide +kernel
theorem dX9_refusalOfTrying_25 : decode cX9_refusalOfTrying 25 = .ok (.ldc 207, 2) := by decide +kernel
theorem dX9_refusalOfTrying_27 : decode cX9_refusalOfTrying 27 = .ok (.goto 4, 3) := by decide +kernel
theorem dX9_refusalOfTrying_30 : decode cX9_refusalOfTrying 30 = .ok (.iconst 0, 1) := by decide +kernel
theorem dX9_refusalOfTrying_31 : decode cX9_refusalOfTrying 31 = .ok (.ireturn, 1) := by decide +kernel
theorem dX9_endDay_0 : decode cX9_endDay 0 = .ok (.aload_n 0, 1) := by decide +kernel
theorem dX9_endDay_1 : decode cX9_endDay 1 = .ok (.getfield 38, 3) := by decide +kernel
theorem dX9_endDay_4 : decode cX9_endDay 4 = .ok (.aload_n 0, 1) := by decide +kernel
theorem dX9_endDay_5 : decode cX9_endDay 5 = .ok (.getfield 31, 3) := by decide +kernel
theorem dX9_endDay_8 : decode cX9_endDay 8 = .ok (.invokevirtual 315, 3) := by decide +kernel
theorem dX9_endDay_11 : decode cX9_endDay 11 = .ok (.aload_n 0, 1) := by decide +kernel
theorem dX9_endDay_12 : decode cX9_endDay 12 = .ok (.getfield 31, 3) := by decide +kernel
theorem dX9_endDay_15 : decode cX9_endDay 15 = .ok (.invokevirtual 318, 3) := by decide +kernel
theorem dX9_endDay_18 : decode cX9_endDay 18 = .ok (.return_, 1) := by decide +kernel
theorem dX9_drawFor_0 : decode cX9_drawFor 0 = .ok (.aload_n 0, 1) := by decide +kernel
theorem dX9_drawFor_1 : decode cX9_drawFor 1 = .ok (.getfield 31, 3) := by decide +kernel
theorem dX9_drawFor_4 : decode cX9_drawFor 4 = .ok (.iload_n 1, 1) := by decide +kernel
theorem dX9_drawFor_5 : decode cX9_drawFor 5 = .ok (.invokevirtual 258, 3) := by decide +kernel
theorem dX9_drawFor_8 : decode cX9_drawFor 8 = .ok (.ifCond .eq 4, 3) := by decide +kernel
theorem dX9_drawFor_11 : decode cX9_drawFor 11 = .ok (.return_, 1) := by decide +kernel
theorem dX9_drawFor_12 : decode cX9_drawFor 12 = .ok (.iconst 0, 1) := by decide +kernel
theorem dX9_drawFor_13 : decode cX9_drawFor 13 = .ok (.istore_n 2, 1) := by decide +kernel
theorem dX9_drawFor_14 : decode cX9_drawFor 14 = .ok (.iload_n 2, 1) := by decide +kernel
theorem dX9_drawFor_15 : decode cX9_drawFor 15 = .ok (.aload_n 0, 1) := by decide +kernel
theorem dX9_drawFor_16 : decode cX9_drawFor 16 = .ok (.getfield 10, 3) := by decide +kernel
theorem dX9_drawFor_19 : decode cX9_drawFor 19 = .ok (.getfield 119, 3) := by decide +kernel
theorem dX9_drawFor_22 : decode cX9_drawFor 22 = .ok (.if_icmp .ge 48, 3) := by decide +kernel
theorem dX9_drawFor_25 : decode cX9_drawFor 25 = .ok (.aload_n 0, 1) := by decide +kernel
theorem dX9_drawFor_26 : decode cX9_drawFor 26 = .ok (.getfield 31, 3) := by decide +kernel
theorem dX9_drawFor_29 : decode cX9_drawFor 29 = .ok (.iload_n 2, 1) := by decide +kernel
theorem dX9_drawFor_30 : decode cX9_drawFor 30 = .ok (.invokevirtual 173, 3) := by decide +kernel
theorem dX9_drawFor_33 : decode cX9_drawFor 33 = .ok (.iload_n 1, 1) := by decide +kernel
theorem dX9_drawFor_34 : decode cX9_drawFor 34 = .ok (.if_icmp .ne 30, 3) := by decide +kernel
theorem dX9_drawFor_37 : decode cX9_drawFor 37 = .ok (.aload_n 0, 1) := by decide +kernel
theorem dX9_drawFor_38 : decode cX9_drawFor 38 = .ok (.getfield 31, 3) := by decide +kernel
theorem dX9_drawFor_41 : decode cX9_drawFor 41 = .ok (.iload_n 2, 1) := by decide +kernel
theorem dX9_drawFor_42 : decode cX9_drawFor 42 = .ok (.invokevirtual 214, 3) := by decide +kernel
theorem dX9_drawFor_45 : decode cX9_drawFor 45 = .ok (.ifCond .eq 19, 3) := by decide +kernel
theorem dX9_drawFor_48 : decode cX9_drawFor 48 = .ok (.aload_n 0, 1) := by decide +kernel
theorem dX9_drawFor_49 : decode cX9_drawFor 49 = .ok (.getfield 31, 3) := by decide +kernel
theorem dX9_drawFor_52 : decode cX9_drawFor 52 = .ok (.iload_n 2, 1) := by decide +kernel
theorem dX9_drawFor_53 : decode cX9_drawFor 53 = .ok (.iconst 1, 1) := by decide +kernel
theorem dX9_drawFor_54 : decode cX9_drawFor 54 = .ok (.aload_n 0, 1) := by decide +kernel
theorem dX9_drawFor_55 : decode cX9_drawFor 55 = .ok (.getfield 31, 3) := by decide +kernel
theorem dX9_drawFor_58 : decode cX9_drawFor 58 = .ok (.invokevirtual 125, 3) := by decide +kernel
theorem dX9_drawFor_61 : decode cX9_drawFor 61 = .ok (.invokevirtual 217, 3) := by decide +kernel
theorem dX9_drawFor_64 : decode cX9_drawFor 64 = .ok (.iinc 2 1, 3) := by decide +kernel
theorem dX9_drawFor_67 : decode cX9_drawFor 67 = .ok (.goto (-53), 3) := by decide +kernel
theorem dX9_drawFor_70 : decode cX9_drawFor 70 = .ok (.aload_n 0, 1) := by decide +kernel
theorem dX9_drawFor_71 : decode cX9_drawFor 71 = .ok (.getfield 52, 3) := by decide +kernel
theorem dX9_drawFor_74 : decode cX9_drawFor 74 = .ok (.iconst 2, 1) := by decide +kernel
theorem dX9_drawFor_75 : decode cX9_drawFor 75 = .ok (.aload_n 0, 1) := by decide +kernel
theorem dX9_drawFor_76 : decode cX9_drawFor 76 = .ok (.getfield 10, 3) := by decide +kernel
theorem dX9_drawFor_79 : decode cX9_drawFor 79 = .ok (.getfield 106, 3) := by decide +kernel
theorem dX9_drawFor_82 : decode cX9_drawFor 82 = .ok (.imul, 1) := by decide +kernel
theorem dX9_drawFor_83 : decode cX9_drawFor 83 = .ok (.invokevirtual 321, 3) := by decide +kernel
theorem dX9_drawFor_86 : decode cX9_drawFor 86 = .ok (.istore_n 2, 1) := by decide +kernel
theorem dX9_drawFor_87 : decode cX9_drawFor 87 = .ok (.aload_n 0, 1) := by decide +kernel
theorem dX9_drawFor_88 : decode cX9_drawFor 88 = .ok (.getfield 10, 3) := by decide +kernel
theorem dX9_drawFor_91 : decode cX9_drawFor 91 = .ok (.iload_n 2, 1) := by decide +kernel
theorem dX9_drawFor_92 : decode cX9_drawFor 92 = .ok (.invokevirtual 142, 3) := by decide +kernel
theorem dX9_drawFor_95 : decode cX9_drawFor 95 = .ok (.ifCond .eq 13, 3) := by decide +kernel
theorem dX9_drawFor_98 : decode cX9_drawFor 98 = .ok (.aload_n 0, 1) := by decide +kernel
theorem dX9_drawFor_99 : decode cX9_drawFor 99 = .ok (.getfield 31, 3) := by decide +kernel
theorem dX9_drawFor_102 : decode cX9_drawFor 102 = .ok (.iload_n 1, 1) := by decide +kernel
theorem dX9_drawFor_103 : decode cX9_drawFor 103 = .ok (.iload_n 2, 1) := by decide +kernel
theorem dX9_drawFor_104 : decode cX9_drawFor 104 = .ok (.invokevirtual 203, 3) := by decide +kernel
theorem dX9_drawFor_107 : decode cX9_drawFor 107 = .ok (.pop, 1) := by decide +kernel
theorem dX9_drawFor_108 : decode cX9_drawFor 108 = .ok (.return_, 1) := by decide +kernel
theorem dX9_dueOfAll_0 : decode cX9_dueOfAll 0 = .ok (.iconst 0, 1) := by decide +kernel
theorem dX9_dueOfAll_1 : decode cX9_dueOfAll 1 = .ok (.istore_n 2, 1) := by decide +kernel
theorem dX9_dueOfAll_2 : decode cX9_dueOfAll 2 = .ok (.iconst 0, 1) := by decide +kernel
theorem dX9_dueOfAll_3 : decode cX9_dueOfAll 3 = .ok (.istore_n 3, 1) := by decide +kernel
theorem dX9_dueOfAll_4 : decode cX9_dueOfAll 4 = .ok (.iload_n 3, 1) := by decide +kernel
theorem dX9_dueOfAll_5 : decode cX9_dueOfAll 5 = .ok (.aload_n 0, 1) := by decide +kernel
theorem dX9_dueOfAll_6 : decode cX9_dueOfAll 6 = .ok (.getfield 10, 3) := by decide +kernel
theorem dX9_dueOfAll_9 : decode cX9_dueOfAll 9 = .ok (.getfield 116, 3) := by decide +kernel
theorem dX9_dueOfAll_12 : decode cX9_dueOfAll 12 = .ok (.if_icmp .ge 21, 3) := by decide +kernel
theorem dX9_dueOfAll_15 : decode cX9_dueOfAll 15 = .ok (.iload_n 2, 1) := by decide +kernel
theorem dX9_dueOfAll_16 : decode cX9_dueOfAll 16 = .ok (.aload_n 0, 1) := by decide +kernel
theorem dX9_dueOfAll_17 : decode cX9_dueOfAll 17 = .ok (.getfield 31, 3) := by decide +kernel
theorem dX9_dueOfAll_20 : decode cX9_dueOfAll 20 = .ok (.iload_n 3, 1) := by decide +kernel
theorem dX9_dueOfAll_21 : decode cX9_dueOfAll 21 = .ok (.iload_n 1, 1) := by decide +kernel
theorem dX9_dueOfAll_22 : decode cX9_dueOfAll 22 = .ok (.invokevirtual 279, 3) := by decide +kernel
theorem dX9_dueOfAll_25 : decode cX9_dueOfAll 25 = .ok (.iadd, 1) := by decide +kernel
theorem dX9_dueOfAll_26 : decode cX9_dueOfAll 26 = .ok (.istore_n 2, 1) := by decide +kernel
theorem dX9_dueOfAll_27 : decode cX9_dueOfAll 27 = .ok (.iinc 3 1, 3) := by decide +kernel
theorem dX9_dueOfAll_30 : decode cX9_dueOfAll 30 = .ok (.goto (-26), 3) := by decide +kernel
theorem dX9_dueOfAll_33 : decode cX9_dueOfAll 33 = .ok (.iload_n 2, 1) := by decide +kernel
theorem dX9_dueOfAll_34 : decode cX9_dueOfAll 34 = .ok (.ireturn, 1) := by decide +kernel
theorem dX9_firstOfFamily_0 : decode cX9_firstOfFamily 0 = .ok (.iconst 0, 1) := by decide +kernel
theorem dX9_firstOfFamily_1 : decode cX9_firstOfFamily 1 = .ok (.istore_n 2, 1) := by decide +kernel
theorem dX9_firstOfFamily_2 : decode cX9_firstOfFamily 2 = .ok (.iload_n 2, 1) := by decide +kernel
theorem dX9_firstOfFamily_3 : decode cX9_firstOfFamily 3 = .ok (.aload_n 0, 1) := by decide +kernel
theorem dX9_firstOfFamily_4 : decode cX9_firstOfFamily 4 = .ok (.getfield 10, 3) := by decide +kernel
theorem dX9_firstOfFamily_7 : decode cX9_firstOfFamily 7 = .ok (.getfield 116, 3) := by decide +kernel
theorem dX9_firstOfFamily_10 : decode cX9_firstOfFamily 10 = .ok (.if_icmp .ge 26, 3) := by decide +kernel
theorem dX9_firstOfFamily_13 : decode cX9_firstOfFamily 13 = .ok (.aload_n 0, 1) := by decide +kernel
theorem dX9_firstOfFamily_14 : decode cX9_firstOfFamily 14 = .ok (.getfield 10, 3) := by decide +kernel
theorem dX9_firstOfFamily_17 : decode cX9_firstOfFamily 17 = .ok (.getfield 156, 3) := by decide +kernel
theorem dX9_firstOfFamily_20 : decode cX9_firstOfFamily 20 = .ok (.iload_n 2, 1) := by decide +kernel
theorem dX9_firstOfFamily_21 : decode cX9_firstOfFamily 21 = .ok (.invokestatic 160, 3) := by decide +kernel
theorem dX9_firstOfFamily_24 : decode cX9_firstOfFamily 24 = .ok (.iload_n 1, 1) := by decide +kernel
theorem dX9_firstOfFamily_25 : decode cX9_firstOfFamily 25 = .ok (.if_icmp .ne 5, 3) := by decide +kernel
theorem dX9_firstOfFamily_28 : decode cX9_firstOfFamily 28 = .ok (.iload_n 2, 1) := by decide +kernel
theorem dX9_firstOfFamily_29 : decode cX9_firstOfFamily 29 = .ok (.ireturn, 1) := by decide +kernel
theorem dX9_firstOfFamily_30 : decode cX9_firstOfFamily 30 = .ok (.iinc 2 1, 3) := by decide +kernel
theorem dX9_firstOfFamily_33 : decode cX9_firstOfFamily 33 = .ok (.goto (-31), 3) := by decide +kernel
theorem dX9_firstOfFamily_36 : decode cX9_firstOfFamily 36 = .ok (.iconst (-1), 1) := by decide +kernel
theorem dX9_firstOfFamily_37 : decode cX9_firstOfFamily 37 = .ok (.ireturn, 1) := by decide +kernel
theorem dX9_at_0 : decode cX9_at 0 = .ok (.aload_n 0, 1) := by decide +kernel
theorem dX9_at_1 : decode cX9_at 1 = .ok (.ifnull 13, 3) := by decide +kernel
theorem dX9_at_4 : decode cX9_at 4 = .ok (.iload_n 1, 1) := by decide +kernel
theorem dX9_at_5 : decode cX9_at 5 = .ok (.ifCond .lt 9, 3) := by decide +kernel
theorem dX9_at_8 : decode cX9_at 8 = .ok (.iload_n 1, 1) := by decide +kernel
theorem dX9_at_9 : decode cX9_at 9 = .ok (.aload_n 0, 1) := by decide +kernel
theorem dX9_at_10 : decode cX9_at 10 = .ok (.arraylength, 1) := by decide +kernel
theorem dX9_at_11 : decode cX9_at 11 = .ok (.if_icmp .lt 7, 3) := by decide +kernel
theorem dX9_at_14 : decode cX9_at 14 = .ok (.iconst 0, 1) := by decide +kernel
theorem dX9_at_15 : decode cX9_at 15 = .ok (.goto 6, 3) := by decide +kernel
theorem dX9_at_18 : decode cX9_at 18 = .ok (.aload_n 0, 1) := by decide +kernel
theorem dX9_at_19 : decode cX9_at 19 = .ok (.iload_n 1, 1) := by decide +kernel
theorem dX9_at_20 : decode cX9_at 20 = .ok (.iaload, 1) := by decide +kernel
theorem dX9_at_21 : decode cX9_at 21 = .ok (.ireturn, 1) := by decide +kernel
theorem dX9_put_0 : decode cX9_put 0 = .ok (.aload_n 0, 1) := by decide +kernel
theorem dX9_put_1 : decode cX9_put 1 = .ok (.ifnull 17, 3) := by decide +kernel
theorem dX9_put_4 : decode cX9_put 4 = .ok (.iload_n 1, 1) := by decide +kernel
theorem dX9_put_5 : decode cX9_put 5 = .ok (.ifCond .lt 13, 3) := by decide +kernel
theorem dX9_put_8 : decode cX9_put 8 = .ok (.iload_n 1, 1) := by decide +kernel
theorem dX9_put_9 : decode cX9_put 9 = .ok (.aload_n 0, 1) := by decide +kernel
theorem dX9_put_10 : decode cX9_put 10 = .ok (.arraylength, 1) := by decide +kernel
theorem dX9_put_11 : decode cX9_put 11 = .ok (.if_icmp .ge 7, 3) := by decide +kernel
theorem dX9_put_14 : decode cX9_put 14 = .ok (.aload_n 0, 1) := by decide +kernel
theorem dX9_put_15 : decode cX9_put 15 = .ok (.iload_n 1, 1) := by decide +kernel
theorem dX9_put_16 : decode cX9_put 16 = .ok (.iload_n 2, 1) := by decide +kernel
theorem dX9_put_17 : decode cX9_put 17 = .ok (.iastore, 1) := by decide +kernel
theorem dX9_put_18 : decode cX9_put 18 = .ok (.return_, 1) := by decide +kernel
theorem dX9_rowAt_0 : decode cX9_rowAt 0 = .ok (.aload_n 0, 1) := by decide +kernel
theorem dX9_rowAt_1 : decode cX9_rowAt 1 = .ok (.ifnull 13, 3) := by decide +kernel
theorem dX9_rowAt_4 : decode cX9_rowAt 4 = .ok (.iload_n 1, 1) := by decide +kernel
theorem dX9_rowAt_5 : decode cX9_rowAt 5 = .ok (.ifCond .lt 9, 3) := by decide +kernel
theorem dX9_rowAt_8 : decode cX9_rowAt 8 = .ok (.iload_n 1, 1) := by decide +kernel
theorem dX9_rowAt_9 : decode cX9_rowAt 9 = .ok (.aload_n 0, 1) := by decide +kernel
theorem dX9_rowAt_10 : decode cX9_rowAt 10 = .ok (.arraylength, 1) := by decide +kernel
theorem dX9_rowAt_11 : decode cX9_rowAt 11 = .ok (.if_icmp .lt 7, 3) := by decide +kernel
theorem dX9_rowAt_14 : decode cX9_rowAt 14 = .ok (.aconst_null, 1) := by decide +kernel
theorem dX9_rowAt_15 : decode cX9_rowAt 15 = .ok (.goto 6, 3) := by decide +kernel
theorem dX9_rowAt_18 : decode cX9_rowAt 18 = .ok (.aload_n 0, 1) := by decide +kernel
theorem dX9_rowAt_19 : decode cX9_rowAt 19 = .ok (.iload_n 1, 1) := by decide +kernel
theorem dX9_rowAt_20 : decode cX9_rowAt 20 = .ok (.aaload, 1) := by decide +kernel
theorem dX9_rowAt_21 : decode cX9_rowAt 21 = .ok (.areturn, 1) := by decide +kernel
theorem dX9_copy_0 : decode cX9_copy 0 = .ok (.aload_n 0, 1) := by decide +kernel
theorem dX9_copy_1 : decode cX9_copy 1 = .ok (.ifnull 7, 3) := by decide +kernel
theorem dX9_copy_4 : decode cX9_copy 4 = .ok (.aload_n 1, 1) := by decide +kernel
theorem dX9_copy_5 : decode cX9_copy 5 = .ok (.ifnonnull 4, 3) := by decide +kernel
theorem dX9_copy_8 : decode cX9_copy 8 = .ok (.return_, 1) := by decide +kernel
theorem dX9_copy_9 : decode cX9_copy 9 = .ok (.iconst 0, 1) := by decide +kernel
theorem dX9_copy_10 : decode cX9_copy 10 = .ok (.istore_n 2, 1) := by decide +kernel
theorem dX9_copy_11 : decode cX9_copy 11 = .ok (.iload_n 2, 1) := by decide +kernel
theorem dX9_copy_12 : decode cX9_copy 12 = .ok (.aload_n 0, 1) := by decide +kernel
theorem dX9_copy_13 : decode cX9_copy 13 = .ok (.arraylength, 1) := by decide +kernel
theorem dX9_copy_14 : decode cX9_copy 14 = .ok (.if_icmp .ge 21, 3) := by decide +kernel
theorem dX9_copy_17 : decode cX9_copy 17 = .ok (.iload_n 2, 1) := by decide +kernel
theorem dX9_copy_18 : decode cX9_copy 18 = .ok (.aload_n 1, 1) := by decide +kernel
theorem dX9_copy_19 : decode cX9_copy 19 = .ok (.arraylength, 1) := by decide +kernel
theorem dX9_copy_20 : decode cX9_copy 20 = .ok (.if_icmp .ge 15, 3) := by decide +kernel
theorem dX9_copy_23 : decode cX9_copy 23 = .ok (.aload_n 1, 1) := by decide +kernel
theorem dX9_copy_24 : decode cX9_copy 24 = .ok (.iload_n 2, 1) := by decide +kernel
theorem dX9_copy_25 : decode cX9_copy 25 = .ok (.aload_n 0, 1) := by decide +kernel
theorem dX9_copy_26 : decode cX9_copy 26 = .ok (.iload_n 2, 1) := by decide +kernel
theorem dX9_copy_27 : decode cX9_copy 27 = .ok (.iaload, 1) := by decide +kernel
theorem dX9_copy_28 : decode cX9_copy 28 = .ok (.iastore, 1) := by decide +kernel
theorem dX9_copy_29 : decode cX9_copy 29 = .ok (.iinc 2 1, 3) := by decide +kernel
theorem dX9_copy_32 : decode cX9_copy 32 = .ok (.goto (-21), 3) := by decide +kernel
theorem dX9_copy_35 : decode cX9_copy 35 = .ok (.return_, 1) := by decide +kernel
theorem dX9_has_0 : decode cX9_has 0 = .ok (.iload_n 1, 1) := by decide +kernel
theorem dX9_has_1 : decode cX9_has 1 = .ok (.ifCond .lt 21, 3) := by decide +kernel
theorem dX9_has_4 : decode cX9_has 4 = .ok (.iload_n 1, 1) := by decide +kernel
theorem dX9_has_5 : decode cX9_has 5 = .ok (.bipush 31, 2) := by decide +kernel
theorem dX9_has_7 : decode cX9_has 7 = .ok (.if_icmp .ge 15, 3) := by decide +kernel
theorem dX9_has_10 : decode cX9_has 10 = .ok (.iload_n 0, 1) := by decide +kernel
theorem dX9_has_11 : decode cX9_has 11 = .ok (.iload_n 1, 1) := by decide +kernel
theorem dX9_has_12 : decode cX9_has 12 = .ok (.ishr, 1) := by decide +kernel
theorem dX9_has_13 : decode cX9_has 13 = .ok (.iconst 1, 1) := by decide +kernel
theorem dX9_has_14 : decode cX9_has 14 = .ok (.iand, 1) := by decide +kernel
theorem dX9_has_15 : decode cX9_has 15 = .ok (.ifCond .eq 7, 3) := by decide +kernel
theorem dX9_has_18 : decode cX9_has 18 = .ok (.iconst 1, 1) := by decide +kernel
theorem dX9_has_19 : decode cX9_has 19 = .ok (.goto 4, 3) := by decide +kernel
theorem dX9_has_22 : decode cX9_has 22 = .ok (.iconst 0, 1) := by decide +kernel
theorem dX9_has_23 : decode cX9_has 23 = .ok (.ireturn, 1) := by decide +kernel
theorem dX10_init_0 : decode cX10_init 0 = .ok (.aload_n 0, 1) := by decide +kernel
theorem dX10_init_1 : decode cX10_init 1 = .ok (.invokespecial 1, 3) := by decide +kernel
theorem dX10_init_4 : decode cX10_init 4 = .ok (.aload_n 0, 1) := by decide +kernel
theorem dX10_init_5 : decode cX10_init 5 = .ok (.sipush 1360, 3) := by decide +kernel
theorem dX10_init_8 : decode cX10_init 8 = .ok (.newarray .int, 2) := by decide +kernel
theorem dX10_init_10 : decode cX10_init 10 = .ok (.putfield 7, 3) := by decide +kernel
theorem dX10_init_13 : decode cX10_init 13 = .ok (.aload_n 0, 1) := by decide +kernel
theorem dX10_init_14 : decode cX10_init 14 = .ok (.iconst 2, 1) := by decide +kernel
theorem dX10_init_15 : decode cX10_init 15 = .ok (.newarray .boolean, 2) := by decide +kernel
theorem dX10_init_17 : decode cX10_init 17 = .ok (.putfield 13, 3) := by decide +kernel
theorem dX10_init_20 : decode cX10_init 20 = .ok (.aload_n 0, 1) := by decide +kernel
theorem dX10_init_21 : decode cX10_init 21 = .ok (.bipush 50, 2) := by decide +kernel
theorem dX10_init_23 : decode cX10_init 23 = .ok (.newarray .int, 2) := by decide +kernel
theorem dX10_init_25 : decode cX10_init 25 = .ok (.putfield 17, 3) := by decide +kernel
theorem dX10_init_28 : decode cX10_init 28 = .ok (.aload_n 0, 1) := by decide +kernel
theorem dX10_init_29 : decode cX10_init 29 = .ok (.bipush 25, 2) := by decide +kernel
theorem dX10_init_31 : decode cX10_init 31 = .ok (.newarray .int, 2) := by decide +kernel
theorem dX10_init_33 : decode cX10_init 33 = .ok (.putfield 20, 3) := by decide +kernel
theorem dX10_init_36 : decode cX10_init 36 = .ok (.aload_n 0, 1) := by decide +kernel
theorem dX10_init_37 : decode cX10_init 37 = .ok (.bipush 6, 2) := by decide +kernel
theorem dX10_init_39 : decode cX10_init 39 = .ok (.newarray .int, 2) := by decide +kernel
theorem dX10_init_41 : decode cX10_init 41 = .ok (.putfield 23, 3) := by decide +kernel
theorem dX10_init_44 : decode cX10_init 44 = .ok (.aload_n 0, 1) := by decide +kernel
theorem dX10_init_45 : decode cX10_init 45 = .ok (.bipush 6, 2) := by decide +kernel
theorem dX10_init_47 : decode cX10_init 47 = .ok (.newarray .int, 2) := by decide +kernel
theorem dX10_init_49 : decode cX10_init 49 = .ok (.putfield 26, 3) := by decide +kernel
theorem dX10_init_52 : decode cX10_init 52 = .ok (.aload_n 0, 1) := by decide +kernel
theorem dX10_init_53 : decode cX10_init 53 = .ok (.bipush 14, 2) := by decide +kernel
theorem dX10_init_55 : decode cX10_init 55 = .ok (.newarray .int, 2) := by decide +kernel
theorem dX10_init_57 : decode cX10_init 57 = .ok (.putfield 29, 3) := by decide +kernel
theorem dX10_init_60 : decode cX10_init 60 = .ok (.aload_n 0, 1) := by decide +kernel
theorem dX10_init_61 : decode cX10_init 61 = .ok (.bipush 14, 2) := by decide +kernel
theorem dX10_init_63 : decode cX10_init 63 = .ok (.newarray .int, 2) := by decide +kernel
theorem dX10_init_65 : decode cX10_init 65 = .ok (.putfield 32, 3) := by decide +kernel
theorem dX10_init_68 : decode cX10_init 68 = .ok (.aload_n 0, 1) := by decide +kernel
theorem dX10_init_69 : decode cX10_init 69 = .ok (.bipush 14, 2) := by decide +kernel
theorem dX10_init_71 : decode cX10_init 71 = .ok (.newarray .int, 2) := by decide +kernel
theorem dX10_init_73 : decode cX10_init 73 = .ok (.putfield 35, 3) := by decide +kernel
theorem dX10_init_76 : decode cX10_init 76 = .ok (.aload_n 0, 1) := by decide +kernel
theorem dX10_init_77 : decode cX10_init 77 = .ok (.bipush 14, 2) := by decide +kernel
theorem dX10_init_79 : decode cX10_init 79 = .ok (.newarray .int, 2) := by decide +kernel
theorem dX10_init_81 : decode cX10_init 81 = .ok (.putfield 38, 3) := by decide +kernel
theorem dX10_init_84 : decode cX10_init 84 = .ok (.aload_n 0, 1) := by decide +kernel
theorem dX10_init_85 : decode cX10_init 85 = .ok (.bipush 14, 2) := by decide +kernel
theorem dX10_init_87 : decode cX10_init 87 = .ok (.newarray .int, 2) := by decide +kernel
theorem dX10_init_89 : decode cX10_init 89 = .ok (.putfield 41, 3) := by decide +kernel
theorem dX10_init_92 : decode cX10_init 92 = .ok (.aload_n 0, 1) := by decide +kernel
theorem dX10_init_93 : decode cX10_init 93 = .ok (.bipush 14, 2) := by decide +kernel
theorem dX10_init_95 : decode cX10_init 95 = .ok (.newarray .int, 2) := by decide +kernel
theorem dX10_init_97 : decode cX10_init 97 = .ok (.putfield 44, 3) := by decide +kernel
theorem dX10_init_100 : decode cX10_init 100 = .ok (.aload_n 0, 1) := by decide +kernel
theorem dX10_init_101 : decode cX10_init 101 = .ok (.bipush 6, 2) := by decide +kernel
theorem dX10_init_103 : decode cX10_init 103 = .ok (.newarray .int, 2) := by decide +kernel
theorem dX10_init_105 : decode cX10_init 105 = .ok (.putfield 47, 3) := by decide +kernel
theorem dX10_init_108 : decode cX10_init 108 = .ok (.aload_n 0, 1) := by decide +kernel
theorem dX10_init_109 : decode cX10_init 109 = .ok (.sipush 250, 3) := by decide +kernel
theorem dX10_init_112 : decode cX10_init 112 = .ok (.newarray .int, 2) := by decide +kernel
theorem dX10_init_114 : decode cX10_init 114 = .ok (.putfield 50, 3) := by decide +kernel
theorem dX10_init_117 : decode cX10_init 117 = .ok (.aload_n 0, 1) := by decide +kernel
theorem dX10_init_118 : decode cX10_init 118 = .ok (.iconst (-1), 1) := by decide +kernel
theorem dX10_init_119 : decode cX10_init 119 = .ok (.putfield 53, 3) := by decide +kernel
theorem dX10_init_122 : decode cX10_init 122 = .ok (.aload_n 0, 1) := by decide +kernel
theorem dX10_init_123 : decode cX10_init 123 = .ok (.bipush 8, 2) := by decide +kernel
theorem dX10_init_125 : decode cX10_init 125 = .ok (.newarray .int, 2) := by decide +kernel
theorem dX10_init_127 : decode cX10_init 127 = .ok (.putfield 57, 3) := by decide +kernel
theorem dX10_init_130 : decode cX10_init 130 = .ok (.aload_n 0, 1) := by decide +kernel
theorem dX10_init_131 : decode cX10_init 131 = .ok (.bipush 9, 2) := by decide +kernel
theorem dX10_init_133 : decode cX10_init 133 = .ok (.newarray .int, 2) := by decide +kernel
theorem dX10_init_135 : decode cX10_init 135 = .ok (.putfield 60, 3) := by decide +kernel
theorem dX10_init_138 : decode cX10_init 138 = .ok (.aload_n 0, 1) := by decide +kernel
theorem dX10_init_139 : decode cX10_init 139 = .ok (.bipush 9, 2) := by decide +kernel
theorem dX10_init_141 : decode cX10_init 141 = .ok (.newarray .int, 2) := by decide +kernel
theorem dX10_init_143 : decode cX10_init 143 = .ok (.putfield 63, 3) := by decide +kernel
theorem dX10_init_146 : decode cX10_init 146 = .ok (.aload_n 0, 1) := by decide +kernel
theorem dX10_init_147 : decode cX10_init 147 = .ok (.bipush 9, 2) := by decide +kernel
theorem dX10_init_149 : decode cX10_init 149 = .ok (.newarray .int, 2) := by decide +kernel
theorem dX10_init_151 : decode cX10_init 151 = .ok (.putfield 66, 3) := by decide +kernel
theorem dX10_init_154 : decode cX10_init 154 = .ok (.aload_n 0, 1) := by decide +kernel
theorem dX10_init_155 : decode cX10_init 155 = .ok (.bipush 9, 2) := by decide +kernel
theorem dX10_init_157 : decode cX10_init 157 = .ok (.newarray .int, 2) := by decide +kernel
theorem dX10_init_159 : decode cX10_init 159 = .ok (.putfield 69, 3) := by decide +kernel
theorem dX10_init_162 : decode cX10_init 162 = .ok (.aload_n 0, 1) := by decide +kernel
theorem dX10_init_163 : decode cX10_init 163 = .ok (.sipush 384, 3) := by decide +kernel
theorem dX10_init_166 : decode cX10_init 166 = .ok (.newarray .int, 2) := by decide +kernel
theorem dX10_init_168 : decode cX10_init 168 = .ok (.putfield 72, 3) := by decide +kernel
theorem dX10_init_171 : decode cX10_init 171 = .ok (.aload_n 0, 1) := by decide +kernel
theorem dX10_init_172 : decode cX10_init 172 = .ok (.iconst 3, 1) := by decide +kernel
theorem dX10_init_173 : decode cX10_init 173 = .ok (.newarray .int, 2) := by decide +kernel
theorem dX10_init_175 : decode cX10_init 175 = .ok (.putfield 75, 3) := by decide +kernel
theorem dX10_init_178 : decode cX10_init 178 = .ok (.aload_n 0, 1) := by decide +kernel
theorem dX10_init_179 : decode cX10_init 179 = .ok (.iconst 3, 1) := by decide +kernel
theorem dX10_init_180 : decode cX10_init 180 = .ok (.newarray .int, 2) := by decide +kernel
theorem dX10_init_182 : decode cX10_init 182 = .ok (.putfield 78, 3) := by decide +kernel
theorem dX10_init_185 : decode cX10_init 185 = .ok (.aload_n 0, 1) := by decide +kernel
theorem dX10_init_186 : decode cX10_init 186 = .ok (.bipush 20, 2) := by decide +kernel
theorem dX10_init_188 : decode cX10_init 188 = .ok (.newarray .int, 2) := by decide +kernel
theorem dX10_init_190 : decode cX10_init 190 = .ok (.putfield 81, 3) := by decide +kernel
theorem dX10_init_193 : decode cX10_init 193 = .ok (.aload_n 0, 1) := by decide +kernel
theorem dX10_init_194 : decode cX10_init 194 = .ok (.bipush 20, 2) := by decide +kernel
theorem dX10_init_196 : decode cX10_init 196 = .ok (.newarray .int, 2) := by decide +kernel
theorem dX10_init_198 : decode cX10_init 198 = .ok (.putfield 84, 3) := by decide +kernel
theorem dX10_init_201 : decode cX10_init 201 = .ok (.return_, 1) := by decide +kernel
theorem dX10_in_0 : decode cX10_in 0 = .ok (.lload_n 0, 1) := by decide +kernel
theorem dX10_in_1 : decode cX10_in 1 = .ok (.lload_n 2, 1) := by decide +kernel
theorem dX10_in_2 : decode cX10_in 2 = .ok (.lcmp, 1) := by decide +kernel
theorem dX10_in_3 : decode cX10_in 3 = .ok (.ifCond .lt 14, 3) := by decide +kernel
theorem dX10_in_6 : decode cX10_in 6 = .ok (.lload_n 0, 1) := by decide +kernel
theorem dX10_in_7 : decode cX10_in 7 = .ok (.lload 4, 2) := by decide +kernel
theorem dX10_in_9 : decode cX10_in 9 = .ok (.lcmp, 1) := by decide +kernel
theorem dX10_in_10 : decode cX10_in 10 = .ok (.ifCond .gt 7, 3) := by decide +kernel
theorem dX10_in_13 : decode cX10_in 13 = .ok (.iconst 1, 1) := by decide +kernel
theorem dX10_in_14 : decode cX10_in 14 = .ok (.goto 4, 3) := by decide +kernel
theorem dX10_in_17 : decode cX10_in 17 = .ok (.iconst 0, 1) := by decide +kernel
theorem dX10_in_18 : decode cX10_in 18 = .ok (.ireturn, 1) := by decide +kernel
theorem dX10_one_0 : decode cX10_one 0 = .ok (.iload_n 0, 1) := by decide +kernel
theorem dX10_one_1 : decode cX10_one 1 = .ok (.ifCond .eq 7, 3) := by decide +kernel
theorem dX10_one_4 : decode cX10_one 4 = .ok (.iconst 1, 1) := by decide +kernel
theorem dX10_one_5 : decode cX10_one 5 = .ok (.goto 4, 3) := by decide +kernel
theorem dX10_one_8 : decode cX10_one 8 = .ok (.iconst 0, 1) := by decide +kernel
theorem dX10_one_9 : decode cX10_one 9 = .ok (.ireturn, 1) := by decide +kernel
theorem dX10_has_0 : decode cX10_has 0 = .ok (.iload_n 0, 1) := by decide +kernel
theorem dX10_has_1 : decode cX10_has 1 = .ok (.iload_n 1, 1) := by decide +kernel
theorem dX10_has_2 : decode cX10_has 2 = .ok (.ishr, 1) := by decide +kernel
theorem dX10_has_3 : decode cX10_has 3 = .ok (.iconst 1, 1) := by decide +kernel
theorem dX10_has_4 : decode cX10_has 4 = .ok (.iand, 1) := by decide +kernel
theorem dX10_has_5 : decode cX10_has 5 = .ok (.iconst 1, 1) := by decide +kernel
theorem dX10_has_6 : decode cX10_has 6 = .ok (.if_icmp .ne 7, 3) := by decide +kernel
theorem dX10_has_9 : decode cX10_has 9 = .ok (.iconst 1, 1) := by decide +kernel
theorem dX10_has_10 : decode cX10_has 10 = .ok (.goto 4, 3) := by decide +kernel
theorem dX10_has_13 : decode cX10_has 13 = .ok (.iconst 0, 1) := by decide +kernel
theorem dX10_has_14 : decode cX10_has 14 = .ok (.ireturn, 1) := by decide +kernel
theorem dX10_feed_0 : decode cX10_feed 0 = .ok (.iload_n 1, 1) := by decide +kernel
theorem dX10_feed_1 : decode cX10_feed 1 = .ok (.i2l, 1) := by decide +kernel
theorem dX10_feed_2 : decode cX10_feed 2 = .ok (.lconst 0, 1) := by decide +kernel
theorem dX10_feed_3 : decode cX10_feed 3 = .ok (.ldc2_w 87, 3) := by decide +kernel
theorem dX10_feed_6 : decode cX10_feed 6 = .ok (.invokestatic 89, 3) := by decide +kernel
theorem dX10_feed_9 : decode cX10_feed 9 = .ok (.ifCond .ne 6, 3) := by decide +kernel
theorem dX10_feed_12 : decode cX10_feed 12 = .ok (.ldc 93, 2) := by decide +kernel
theorem dX10_feed_14 : decode cX10_feed 14 = .ok (.ireturn, 1) := by decide +kernel
theorem dX10_feed_15 : decode cX10_feed 15 = .ok (.aload_n 0, 1) := by decide +kernel
theorem dX10_feed_16 : decode cX10_feed 16 = .ok (.getfield 94, 3) := by decide +kernel
theorem dX10_feed_19 : decode cX10_feed 19 = .ok (.sipush 250, 3) := by decide +kernel
theorem dX10_feed_22 : decode cX10_feed 22 = .ok (.if_icmp .ne 6, 3) := by decide +kernel
theorem dX10_feed_25 : decode cX10_feed 25 = .ok (.ldc 97, 2) := by decide +kernel
theorem dX10_feed_27 : decode cX10_feed 27 = .ok (.ireturn, 1) := by decide +kernel
theorem dX10_feed_28 : decode cX10_feed 28 = .ok (.aload_n 0, 1) := by decide +kernel
theorem dX10_feed_29 : decode cX10_feed 29 = .ok (.getfield 50, 3) := by decide +kernel
theorem dX10_feed_32 : decode cX10_feed 32 = .ok (.aload_n 0, 1) := by decide +kernel
theorem dX10_feed_33 : decode cX10_feed 33 = .ok (.getfield 94, 3) := by decide +kernel
theorem dX10_feed_36 : decode cX10_feed 36 = .ok (.iload_n 1, 1) := by decide +kernel
theorem dX10_feed_37 : decode cX10_feed 37 = .ok (.iastore, 1) := by decide +kernel
theorem dX10_feed_38 : decode cX10_feed 38 = .ok (.aload_n 0, 1) := by decide +kernel
theorem dX10_feed_39 : decode cX10_feed 39 = .ok (.dup, 1) := by decide +kernel
theorem dX10_feed_40 : decode cX10_feed 40 = .ok (.getfield 94, 3) := by decide +kernel
theorem dX10_feed_43 : decode cX10_feed 43 = .ok (.iconst 1, 1) := by decide +kernel
theorem dX10_feed_44 : decode cX10_feed 44 = .ok (.iadd, 1) := by decide +kernel
theorem dX10_feed_45 : decode cX10_feed 45 = .ok (.putfield 94, 3) := by decide +kernel
theorem dX10_feed_48 : decode cX10_feed 48 = .ok (.aload_n 0, 1) := by decide +kernel
theorem dX10_feed_49 : decode cX10_feed 49 = .ok (.getfield 94, 3) := by decide +kernel
theorem dX10_feed_52 : decode cX10_feed 52 = .ok (.ireturn, 1) := by decide +kernel
theorem dX10_here_0 : decode cX10_here 0 = .ok (.aload_n 0, 1) := by decide +kernel
theorem dX10_here_1 : decode cX10_here 1 = .ok (.getfield 98, 3) := by decide +kernel
theorem dX10_here_4 : decode cX10_here 4 = .ok (.aload_n 0, 1) := by decide +kernel
theorem dX10_here_5 : decode cX10_here 5 = .ok (.getfield 94, 3) := by decide +kernel
theorem dX10_here_8 : decode cX10_here 8 = .ok (.if_icmp .ge 30, 3) := by decide +kernel
theorem dX10_here_11 : decode cX10_here 11 = .ok (.aload_n 0, 1) := by decide +kernel
theorem dX10_here_12 : decode cX10_here 12 = .ok (.getfield 50, 3) := by decide +kernel
theorem dX10_here_15 : decode cX10_here 15 = .ok (.aload_n 0, 1) := by decide +kernel
theorem dX10_here_16 : decode cX10_here 16 = .ok (.getfield 98, 3) := by decide +kernel
theorem dX10_here_19 : decode cX10_here 19 = .ok (.iaload, 1) := by decide +kernel
theorem dX10_here_20 : decode cX10_here 20 = .ok (.bipush 32, 2) := by decide +kernel
theorem dX10_here_22 : decode cX10_here 22 = .ok (.if_icmp .ne 16, 3) := by decide +kernel
theorem dX10_here_25 : decode cX10_here 25 = .ok (.aload_n 0, 1) := by decide +kernel
theorem dX10_here_26 : decode cX10_here 26 = .ok (.dup, 1) := by decide +kernel
theorem dX10_here_27 : decode cX10_here 27 = .ok (.getfield 98, 3) := by decide +kernel
theorem dX10_here_30 : decode cX10_here 30 = .ok (.iconst 1, 1) := by decide +kernel
theorem dX10_here_31 : decode cX10_here 31 = .ok (.iadd, 1) := by decide +kernel
theorem dX10_here_32 : decode cX10_here 32 = .ok (.putfield 98, 3) := by decide +kernel
theorem dX10_here_35 : decode cX10_here 35 = .ok (.goto (-35), 3) := by decide +kernel
theorem dX10_here_38 : decode cX10_here 38 = .ok (.aload_n 0, 1) := by decide +kernel
theorem dX10_here_39 : decode cX10_here 39 = .ok (.getfield 98, 3) := by decide +kernel
theorem dX10_here_42 : decode cX10_here 42 = .ok (.aload_n 0, 1) := by decide +kernel
theorem dX10_here_43 : decode cX10_here 43 = .ok (.getfield 94, 3) := by decide +kernel
theorem dX10_here_46 : decode cX10_here 46 = .ok (.if_icmp .ge 15, 3) := by decide +kernel
theorem dX10_here_49 : decode cX10_here 49 = .ok (.aload_n 0, 1) := by decide +kernel
theorem dX10_here_50 : decode cX10_here 50 = .ok (.getfield 50, 3) := by decide +kernel
theorem dX10_here_53 : decode cX10_here 53 = .ok (.aload_n 0, 1) := by decide +kernel
theorem dX10_here_54 : decode cX10_here 54 = .ok (.getfield 98, 3) := by decide +kernel
theorem dX10_here_57 : decode cX10_here 57 = .ok (.iaload, 1) := by decide +kernel
theorem dX10_here_58 : decode cX10_here 58 = .ok (.goto 4, 3) := by decide +kernel
theorem dX10_here_61 : decode cX10_here 61 = .ok (.iconst (-1), 1) := by decide +kernel
theorem dX10_here_62 : decode cX10_here 62 = .ok (.ireturn, 1) := by decide +kernel
theorem dX10_want_0 : decode cX10_want 0 = .ok (.iload_n 1, 1) := by decide +kernel
theorem dX10_want_1 : decode cX10_want 1 = .ok (.ifCond .ne 20, 3) := by decide +kernel
theorem dX10_want_4 : decode cX10_want 4 = .ok (.aload_n 0, 1) := by decide +kernel
theorem dX10_want_5 : decode cX10_want 5 = .ok (.getfield 101, 3) := by decide +kernel
theorem dX10_want_8 : decode cX10_want 8 = .ok (.ifCond .ne 13, 3) := by decide +kernel
theorem dX10_want_11 : decode cX10_want 11 = .ok (.aload_n 0, 1) := by decide +kernel
theorem dX10_want_12 : decode cX10_want 12 = .ok (.iload_n 2, 1) := by decide +kernel
theorem dX10_want_13 : decode cX10_want 13 = .ok (.putfield 101, 3) := by decide +kernel
theorem dX10_want_16 : decode cX10_want 16 = .ok (.aload_n 0, 1) := by decide +kernel
theorem dX10_want_17 : decode cX10_want 17 = .ok (.iload_n 3, 1) := by decide +kernel
theorem dX10_want_18 : decode cX10_want 18 = .ok (.putfield 53, 3) := by decide +kernel
theorem dX10_want_21 : decode cX10_want 21 = .ok (.aload_n 0, 1) := by decide +kernel
theorem dX10_want_22 : decode cX10_want 22 = .ok (.getfield 101, 3) := by decide +kernel
theorem dX10_want_25 : decode cX10_want 25 = .ok (.ifCond .ne 7, 3) := by decide +kernel
theorem dX10_want_28 : decode cX10_want 28 = .ok (.iconst 1, 1) := by decide +kernel
theorem dX10_want_29 : decode cX10_want 29 = .ok (.goto 4, 3) := by decide +kernel
theorem dX10_want_32 : decode cX10_want 32 = .ok (.iconst 0, 1) := by decide +kernel
theorem dX10_want_33 : decode cX10_want 33 = .ok (.ireturn, 1) := by decide +kernel
theorem dX10_takeNumber_0 : decode cX10_takeNumber 0 = .ok (.aload_n 0, 1) := by decide +kernel
theorem dX10_takeNumber_1 : decode cX10_takeNumber 1 = .ok (.getfield 101, 3) := by decide +kernel
theorem dX10_takeNumber_4 : decode cX10_takeNumber 4 = .ok (.ifCond .le 5, 3) := by decide +kernel
theorem dX10_takeNumber_7 : decode cX10_takeNumber 7 = .ok (.iconst 0, 1) := by decide +kernel
theorem dX10_takeNumber_8 : decode cX10_takeNumber 8 = .ok (.ireturn, 1) := by decide +kernel
theorem dX10_takeNumber_9 : decode cX10_takeNumber 9 = .ok (.aload_n 0, 1) := by decide +kernel
theorem dX10_takeNumber_10 : decode cX10_takeNumber 10 = .ok (.invokevirtual 104, 3) := by decide +kernel
theorem dX10_takeNumber_13 : decode cX10_takeNumber 13 = .ok (.istore_n 3, 1) := by decide +kernel
theorem dX10_takeNumber_14 : decode cX10_takeNumber 14 = .ok (.aload_n 0, 1) := by decide +kernel
theorem dX10_takeNumber_15 : decode cX10_takeNumber 15 = .ok (.aload_n 0, 1) := by decide +kernel
theorem dX10_takeNumber_16 : decode cX10_takeNumber 16 = .ok (.getfield 98, 3) := by decide +kernel
theorem dX10_takeNumber_19 : decode cX10_takeNumber 19 = .ok (.putfield 108, 3) := by decide +kernel
theorem dX10_takeNumber_22 : decode cX10_takeNumber 22 = .ok (.aload_n 0, 1) := by decide +kernel
theorem dX10_takeNumber_23 : decode cX10_takeNumber 23 = .ok (.iload_n 3, 1) := by decide +kernel
theorem dX10_takeNumber_24 : decode cX10_takeNumber 24 = .ok (.i2l, 1) := by decide +kernel
theorem dX10_takeNumber_25 : decode cX10_takeNumber 25 = .ok (.ldc2_w 111, 3) := by decide +kernel
theorem dX10_takeNumber_28 : decode cX10_takeNumber 28 = .ok (.ldc2_w 113, 3) := by decide +kernel
theorem dX10_takeNumber_31 : decode cX10_takeNumber 31 = .ok (.invokestatic 89, 3) := by decide +kernel
theorem dX10_takeNumber_34 : decode cX10_takeNumber 34 = .ok (.iconst 1, 1) := by decide +kernel
theorem dX10_takeNumber_35 : decode cX10_takeNumber 35 = .ok (.aload_n 0, 1) := by decide +kernel
theorem dX10_takeNumber_36 : decode cX10_takeNumber 36 = .ok (.getfield 98, 3) := by decide +kernel
theorem dX10_takeNumber_39 : decode cX10_takeNumber 39 = .ok (.invokevirtual 115, 3) := by decide +kernel
theorem dX10_takeNumber_42 : decode cX10_takeNumber 42 = .ok (.ifCond .ne 5, 3) := by decide +kernel
theorem dX10_takeNumber_45 : decode cX10_takeNumber 45 = .ok (.iconst 0, 1) := by decide +kernel
theorem dX10_takeNumber_46 : decode cX10_takeNumber 46 = .ok (.ireturn, 1) := by decide +kernel
theorem dX10_takeNumber_47 : decode cX10_takeNumber 47 = .ok (.iconst 0, 1) := by decide +kernel
theorem dX10_takeNumber_48 : decode cX10_takeNumber 48 = .ok (.istore 4, 2) := by decide +kernel
theorem dX10_takeNumber_50 : decode cX10_takeNumber 50 = .ok (.aload_n 0, 1) := by decide +kernel
theorem dX10_takeNumber_51 : decode cX10_takeNumber 51 = .ok (.getfield 98, 3) := by decide +kernel
theorem dX10_takeNumber_54 : decode cX10_takeNumber 54 = .ok (.aload_n 0, 1) := by decide +kernel
theorem dX10_takeNumber_55 : decode cX10_takeNumber 55 = .ok (.getfield 94, 3) := by decide +kernel
theorem dX10_takeNumber_58 : decode cX10_takeNumber 58 = .ok (.if_icmp .ge 70, 3) := by decide +kernel
theorem dX10_takeNumber_61 : decode cX10_takeNumber 61 = .ok (.aload_n 0, 1) := by decide +kernel
theorem dX10_takeNumber_62 : decode cX10_takeNumber 62 = .ok (.getfield 50, 3) := by decide +kernel
theorem dX10_takeNumber_65 : decode cX10_takeNumber 65 = .ok (.aload_n 0, 1) := by decide +kernel
theorem dX10_takeNumber_66 : decode cX10_takeNumber 66 = .ok (.getfield 98, 3) := by decide +kernel
theorem dX10_takeNumber_69 : decode cX10_takeNumber 69 = .ok (.iaload, 1) := by decide +kernel
theorem dX10_takeNumber_70 : decode cX10_takeNumber 70 = .ok (.i2l, 1) := by decide +kernel
theorem dX10_takeNumber_71 : decode cX10_takeNumber 71 = .ok (.ldc2_w 111, 3) := by decide +kernel
theorem dX10_takeNumber_74 : decode cX10_takeNumber 74 = .ok (.ldc2_w 113, 3) := by decide +kernel
theorem dX10_takeNumber_77 : decode cX10_takeNumber 77 = .ok (.invokestatic 89, 3) := by decide +kernel
theorem dX10_takeNumber_80 : decode cX10_takeNumber 80 = .ok (.ifCond .eq 48, 3) := by decide +kernel
theorem dX10_takeNumber_83 : decode cX10_takeNumber 83 = .ok (.iload 4, 2) := by decide +kernel
theorem dX10_takeNumber_85 : decode cX10_takeNumber 85 = .ok (.ldc 119, 2) := by decide +kernel
theorem dX10_takeNumber_87 : decode cX10_takeNumber 87 = .ok (.if_icmp .le 8, 3) := by decide +kernel
theorem dX10_takeNumber_90 : decode cX10_takeNumber 90 = .ok (.iload 4, 2) := by decide +kernel
theorem dX10_takeNumber_92 : decode cX10_takeNumber 92 = .ok (.goto 21, 3) := by decide +kernel
theorem dX10_takeNumber_95 : decode cX10_takeNumber 95 = .ok (.bipush 10, 2) := by decide +kernel
theorem dX10_takeNumber_97 : decode cX10_takeNumber 97 = .ok (.iload 4, 2) := by decide +kernel
theorem dX10_takeNumber_99 : decode cX10_takeNumber 99 = .ok (.imul, 1) := by decide +kernel
theorem dX10_takeNumber_100 : decode cX10_takeNumber 100 = .ok (.aload_n 0, 1) := by decide +kernel
theorem dX10_takeNumber_101 : decode cX10_takeNumber 101 = .ok (.getfield 50, 3) := by decide +kernel
theorem dX10_takeNumber_104 : decode cX10_takeNumber 104 = .ok (.aload_n 0, 1) := by decide +kernel
theorem dX10_takeNumber_105 : decode cX10_takeNumber 105 = .ok (.getfield 98, 3) := by decide +kernel
theorem dX10_takeNumber_108 : decode cX10_takeNumber 108 = .ok (.iaload, 1) := by decide +kernel
theorem dX10_takeNumber_109 : decode cX10_takeNumber 109 = .ok (.iadd, 1) := by decide +kernel
theorem dX10_takeNumber_110 : decode cX10_takeNumber 110 = .ok (.bipush 48, 2) := by decide +kernel
theorem dX10_takeNumber_112 : decode cX10_takeNumber 112 = .ok (.isub, 1) := by decide +kernel
theorem dX10_takeNumber_113 : decode cX10_takeNumber 113 = .ok (.istore 4, 2) := by decide +kernel
theorem dX10_takeNumber_115 : decode cX10_takeNumber 115 = .ok (.aload_n 0, 1) := by decide +kernel
theorem dX10_takeNumber_116 : decode cX10_takeNumber 116 = .ok (.dup, 1) := by decide +kernel
theorem dX10_takeNumber_117 : decode cX10_takeNumber 117 = .ok (.getfield 98, 3) := by decide +kernel
theorem dX10_takeNumber_120 : decode cX10_takeNumber 120 = .ok (.iconst 1, 1) := by decide +kernel
theorem dX10_takeNumber_121 : decode cX10_takeNumber 121 = .ok (.iadd, 1) := by decide +kernel
theorem dX10_takeNumber_122 : decode cX10_takeNumber 122 = .ok (.putfield 98, 3) := by decide +kernel
theorem dX10_takeNumber_125 : decode cX10_takeNumber 125 = .ok (.goto (-75), 3) := by decide +kernel
theorem dX10_takeNumber_128 : decode cX10_takeNumber 128 = .ok (.aload_n 0, 1) := by decide +kernel
theorem dX10_takeNumber_129 : decode cX10_takeNumber 129 = .ok (.aload_n 0, 1) := by decide +kernel
theorem dX10_takeNumber_130 : decode cX10_takeNumber 130 = .ok (.getfield 98, 3) := by decide +kernel
theorem dX10_takeNumber_133 : decode cX10_takeNumber 133 = .ok (.aload_n 0, 1) := by decide +kernel
theorem dX10_takeNumber_134 : decode cX10_takeNumber 134 = .ok (.getfield 108, 3) := by decide +kernel
theorem dX10_takeNumber_137 : decode cX10_takeNumber 137 = .ok (.isub, 1) := by decide +kernel
theorem dX10_takeNumber_138 : decode cX10_takeNumber 138 = .ok (.iconst 4, 1) := by decide +kernel
theorem dX10_takeNumber_139 : decode cX10_takeNumber 139 = .ok (.if_icmp .ge 20, 3) := by decide +kernel
theorem dX10_takeNumber_142 : decode cX10_takeNumber 142 = .ok (.iload 4, 2) := by decide +kernel
theorem dX10_takeNumber_144 : decode cX10_takeNumber 144 = .ok (.i2l, 1) := by decide +kernel
theorem dX10_takeNumber_145 : decode cX10_takeNumber 145 = .ok (.iload_n 1, 1) := by decide +kernel
theorem dX10_takeNumber_146 : decode cX10_takeNumber 146 = .ok (.i2l, 1) := by decide +kernel
theorem dX10_takeNumber_147 : decode cX10_takeNumber 147 = .ok (.iload_n 2, 1) := by decide +kernel
theorem dX10_takeNumber_148 : decode cX10_takeNumber 148 = .ok (.i2l, 1) := by decide +kernel
theorem dX10_takeNumber_149 : decode cX10_takeNumber 149 = .ok (.invokestatic 89, 3) := by decide +kernel
theorem dX10_takeNumber_152 : decode cX10_takeNumber 152 = .ok (.ifCond .eq 7, 3) := by decide +kernel
theorem dX10_takeNumber_155 : decode cX10_takeNumber 155 = .ok (.iconst 1, 1) := by decide +kernel
theorem dX10_takeNumber_156 : decode cX10_takeNumber 156 = .ok (.goto 4, 3) := by decide +kernel
theorem dX10_takeNumber_159 : decode cX10_takeNumber 159 = .ok (.iconst 0, 1) := by decide +kernel
theorem dX10_takeNumber_160 : decode cX10_takeNumber 160 = .ok (.iconst 2, 1) := by decide +kernel
theorem dX10_takeNumber_161 : decode cX10_takeNumber 161 = .ok (.aload_n 0, 1) := by decide +kernel
theorem dX10_takeNumber_162 : decode cX10_takeNumber 162 = .ok (.getfield 108, 3) := by decide +kernel
theorem dX10_takeNumber_165 : decode cX10_takeNumber 165 = .ok (.invokevirtual 115, 3) := by decide +kernel
theorem dX10_takeNumber_168 : decode cX10_takeNumber 168 = .ok (.istore 5, 2) := by decide +kernel
theorem dX10_takeNumber_170 : decode cX10_takeNumber 170 = .ok (.iload 4, 2) := by decide +kernel
theorem dX10_takeNumber_172 : decode cX10_takeNumber 172 = .ok (.ireturn, 1) := by decide +kernel
theorem dX10_takeTowns_0 : decode cX10_takeTowns 0 = .ok (.aload_n 0, 1) := by decide +kernel
theorem dX10_takeTowns_1 : decode cX10_takeTowns 1 = .ok (.aload_n 0, 1) := by decide +kernel
theorem dX10_takeTowns_2 : decode cX10_takeTowns 2 = .ok (.getfield 120, 3) := by decide +kernel
theorem dX10_takeTowns_5 : decode cX10_takeTowns 5 = .ok (.ifCond .ne 7, 3) := by decide +kernel
theorem dX10_takeTowns_8 : decode cX10_takeTowns 8 = .ok (.iconst 1, 1) := by decide +kernel
theorem dX10_takeTowns_9 : decode cX10_takeTowns 9 = .ok (.goto 4, 3) := by decide +kernel
theorem dX10_takeTowns_12 : decode cX10_takeTowns 12 = .ok (.iconst 0, 1) := by decide +kernel
theorem dX10_takeTowns_13 : decode cX10_takeTowns 13 = .ok (.iconst 3, 1) := by decide +kernel
theorem dX10_takeTowns_14 : decode cX10_takeTowns 14 = .ok (.iload_n 1, 1) := by decide +kernel
theorem dX10_takeTowns_15 : decode cX10_takeTowns 15 = .ok (.invokevirtual 115, 3) := by decide +kernel
theorem dX10_takeTowns_18 : decode cX10_takeTowns 18 = .ok (.ifCond .eq 13, 3) := by decide +kernel
theorem dX10_takeTowns_21 : decode cX10_takeTowns 21 = .ok (.aload_n 0, 1) := by decide +kernel
theorem dX10_takeTowns_22 : decode cX10_takeTowns 22 = .ok (.aload_n 0, 1) := by decide +kernel
theorem dX10_takeTowns_23 : decode cX10_takeTowns 23 = .ok (.iconst 1, 1) := by decide +kernel
theorem dX10_takeTowns_24 : decode cX10_takeTowns 24 = .ok (.iconst 5, 1) := by decide +kernel
theorem dX10_takeTowns_25 : decode cX10_takeTowns 25 = .ok (.invokevirtual 123, 3) := by decide +kernel
theorem dX10_takeTowns_28 : decode cX10_takeTowns 28 = .ok (.putfield 120, 3) := by decide +kernel
theorem dX10_takeTowns_31 : decode cX10_takeTowns 31 = .ok (.return_, 1) := by decide +kernel
theorem dX10_takeRoad_0 : decode cX10_takeRoad 0 = .ok (.aload_n 0, 1) := by decide +kernel
theorem dX10_takeRoad_1 : decode cX10_takeRoad 1 = .ok (.aload_n 0, 1) := by decide +kernel
theorem dX10_takeRoad_2 : decode cX10_takeRoad 2 = .ok (.getfield 127, 3) := by decide +kernel
theorem dX10_takeRoad_5 : decode cX10_takeRoad 5 = .ok (.bipush 8, 2) := by decide +kernel
theorem dX10_takeRoad_7 : decode cX10_takeRoad 7 = .ok (.if_icmp .ge 7, 3) := by decide +kernel
theorem dX10_takeRoad_10 : decode cX10_takeRoad 10 = .ok (.iconst 1, 1) := by decide +kernel
theorem dX10_takeRoad_11 : decode cX10_takeRoad 11 = .ok (.goto 4, 3) := by decide +kernel
theorem dX10_takeRoad_14 : decode cX10_takeRoad 14 = .ok (.iconst 0, 1) := by decide +kernel
theorem dX10_takeRoad_15 : decode cX10_takeRoad 15 = .ok (.iconst 3, 1) := by decide +kernel
theorem dX10_takeRoad_16 : decode cX10_takeRoad 16 = .ok (.iload_n 1, 1) := by decide +kernel
theorem dX10_takeRoad_17 : decode cX10_takeRoad 17 = .ok (.invokevirtual 115, 3) := by decide +kernel
theorem dX10_takeRoad_20 : decode cX10_takeRoad 20 = .ok (.ifCond .eq 156, 3) := by decide +kernel
theorem dX10_takeRoad_23 : decode cX10_takeRoad 23 = .ok (.aload_n 0, 1) := by decide +kernel
theorem dX10_takeRoad_24 : decode cX10_takeRoad 24 = .ok (.iconst 0, 1) := by decide +kernel
theorem dX10_takeRoad_25 : decode cX10_takeRoad 25 = .ok (.aload_n 0, 1) := by decide +kernel
theorem dX10_takeRoad_26 : decode cX10_takeRoad 26 = .ok (.getfield 120, 3) := by decide +kernel
theorem dX10_takeRoad_29 : decode cX10_takeRoad 29 = .ok (.iconst 1, 1) := by decide +kernel
theorem dX10_takeRoad_30 : decode cX10_takeRoad 30 = .ok (.isub, 1) := by decide +kernel
theorem dX10_takeRoad_31 : decode cX10_takeRoad 31 = .ok (.invokevirtual 123, 3) := by decide +kernel
theorem dX10_takeRoad_34 : decode cX10_takeRoad 34 = .ok (.istore_n 2, 1) := by decide +kernel
theorem dX10_takeRoad_35 : decode cX10_takeRoad 35 = .ok (.aload_n 0, 1) := by decide +kernel
theorem dX10_takeRoad_36 : decode cX10_takeRoad 36 = .ok (.iconst 0, 1) := by decide +kernel
theorem dX10_takeRoad_37 : decode cX10_takeRoad 37 = .ok (.aload_n 0, 1) := by decide +kernel
theorem dX10_takeRoad_38 : decode cX10_takeRoad 38 = .ok (.getfield 120, 3) := by decide +kernel
theorem dX10_takeRoad_41 : decode cX10_takeRoad 41 = .ok (.iconst 1, 1) := by decide +kernel
theorem dX10_takeRoad_42 : decode cX10_takeRoad 42 = .ok (.isub, 1) := by decide +kernel
theorem dX10_takeRoad_43 : decode cX10_takeRoad 43 = .ok (.invokevirtual 123, 3) := by decide +kernel
theorem dX10_takeRoad_46 : decode cX10_takeRoad 46 = .ok (.istore_n 3, 1) := by decide +kernel
theorem dX10_takeRoad_47 : decode cX10_takeRoad 47 = .ok (.aload_n 0, 1) := by decide +kernel
theorem dX10_takeRoad_48 : decode cX10_takeRoad 48 = .ok (.aload_n 0, 1) := by decide +kernel
theorem dX10_takeRoad_49 : decode cX10_takeRoad 49 = .ok (.getfield 101, 3) := by decide +kernel
theorem dX10_takeRoad_52 : decode cX10_takeRoad 52 = .ok (.ifCond .gt 8, 3) := by decide +kernel
theorem dX10_takeRoad_55 : decode cX10_takeRoad 55 = .ok (.iload_n 2, 1) := by decide +kernel
theorem dX10_takeRoad_56 : decode cX10_takeRoad 56 = .ok (.iload_n 3, 1) := by decide +kernel
theorem dX10_takeRoad_57 : decode cX10_takeRoad 57 = .ok (.if_icmp .eq 7, 3) := by decide +kernel
theorem dX10_takeRoad_60 : decode cX10_takeRoad 60 = .ok (.iconst 1, 1) := by decide +kernel
theorem dX10_takeRoad_61 : decode cX10_takeRoad 61 = .ok (.goto 4, 3) := by decide +kernel
theorem dX10_takeRoad_64 : decode cX10_takeRoad 64 = .ok (.iconst 0, 1) := by decide +kernel
theorem dX10_takeRoad_65 : decode cX10_takeRoad 65 = .ok (.iconst 4, 1) := by decide +kernel
theorem dX10_takeRoad_66 : decode cX10_takeRoad 66 = .ok (.aload_n 0, 1) := by decide +kernel
theorem dX10_takeRoad_67 : decode cX10_takeRoad 67 = .ok (.getfield 108, 3) := by decide +kernel
theorem dX10_takeRoad_70 : decode cX10_takeRoad 70 = .ok (.invokevirtual 115, 3) := by decide +kernel
theorem dX10_takeRoad_73 : decode cX10_takeRoad 73 = .ok (.istore 4, 2) := by decide +kernel
theorem dX10_takeRoad_75 : decode cX10_takeRoad 75 = .ok (.aload_n 0, 1) := by decide +kernel
theorem dX10_takeRoad_76 : decode cX10_takeRoad 76 = .ok (.iconst 1, 1) := by decide +kernel
theorem dX10_takeRoad_77 : decode cX10_takeRoad 77 = .ok (.bipush 9, 2) := by decide +kernel
theorem dX10_takeRoad_79 : decode cX10_takeRoad 79 = .ok (.invokevirtual 123, 3) := by decide +kernel
theorem dX10_takeRoad_82 : decode cX10_takeRoad 82 = .ok (.istore 5, 2) := by decide +kernel
theorem dX10_takeRoad_84 : decode cX10_takeRoad 84 = .ok (.aload_n 0, 1) := by decide +kernel
theorem dX10_takeRoad_85 : decode cX10_takeRoad 85 = .ok (.getfield 101, 3) := by decide +kernel
theorem dX10_takeRoad_88 : decode cX10_takeRoad 88 = .ok (.ifCond .ne 78, 3) := by decide +kernel
theorem dX10_takeRoad_91 : decode cX10_takeRoad 91 = .ok (.aload_n 0, 1) := by decide +kernel
theorem dX10_takeRoad_92 : decode cX10_takeRoad 92 = .ok (.getfield 17, 3) := by decide +kernel
theorem dX10_takeRoad_95 : decode cX10_takeRoad 95 = .ok (.bipush 25, 2) := by decide +kernel
theorem dX10_takeRoad_97 : decode cX10_takeRoad 97 = .ok (.iconst 5, 1) := by decide +kernel
theorem dX10_takeRoad_98 : decode cX10_takeRoad 98 = .ok (.iload_n 2, 1) := by decide +kernel
theorem dX10_takeRoad_99 : decode cX10_takeRoad 99 = .ok (.imul, 1) := by decide +kernel
theorem dX10_takeRoad_100 : decode cX10_takeRoad 100 = .ok (.iadd, 1) := by decide +kernel
theorem dX10_takeRoad_101 : decode cX10_takeRoad 101 = .ok (.iload_n 3, 1) := by decide +kernel
theorem dX10_takeRoad_102 : decode cX10_takeRoad 102 = .ok (.iadd, 1) := by decide +kernel
theorem dX10_takeRoad_103 : decode cX10_takeRoad 103 = .ok (.iload 5, 2) := by decide +kernel
theorem dX10_takeRoad_105 : decode cX10_takeRoad 105 = .ok (.aload_n 0, 1) := by decide +kernel
theorem dX10_takeRoad_106 : decode cX10_takeRoad 106 = .ok (.getfield 17, 3) := by decide +kernel
theorem dX10_takeRoad_109 : decode cX10_takeRoad 109 = .ok (.bipush 25, 2) := by decide +kernel
theorem dX10_takeRoad_111 : decode cX10_takeRoad 111 = .ok (.iconst 5, 1) := by decide +kernel
theorem dX10_takeRoad_112 : decode cX10_takeRoad 112 = .ok (.iload_n 2, 1) := by decide +kernel
theorem dX10_takeRoad_113 : decode cX10_takeRoad 113 = .ok (.imul, 1) := by decide +kernel
theorem dX10_takeRoad_114 : decode cX10_takeRoad 114 = .ok (.iadd, 1) := by decide +kernel
theorem dX10_takeRoad_115 : decode cX10_takeRoad 115 = .ok (.iload_n 3, 1) := by decide +kernel
theorem dX10_takeRoad_116 : decode cX10_takeRoad 116 = .ok (.iadd, 1) := by decide +kernel
theorem dX10_takeRoad_117 : decode cX10_takeRoad 117 = .ok (.iaload, 1) := by decide +kernel
theorem dX10_takeRoad_118 : decode cX10_takeRoad 118 = .ok (.if_icmp .ge 8, 3) := by decide +kernel
theorem dX10_takeRoad_121 : decode cX10_takeRoad 121 = .ok (.iload 5, 2) := by decide +kernel
theorem dX10_takeRoad_123 : decode cX10_takeRoad 123 = .ok (.goto 16, 3) := by decide +kernel
theorem dX10_takeRoad_126 : decode cX10_takeRoad 126 = .ok (.aload_n 0, 1) := by decide +kernel
theorem dX10_takeRoad_127 : decode cX10_takeRoad 127 = .ok (.getfield 17, 3) := by decide +kernel
theorem dX10_takeRoad_130 : decode cX10_takeRoad 130 = .ok (.bipush 25, 2) := by decide +kernel
theorem dX10_takeRoad_132 : decode cX10_takeRoad 132 = .ok (.iconst 5, 1) := by decide +kernel
theorem dX10_takeRoad_133 : decode cX10_takeRoad 133 = .ok (.iload_n 2, 1) := by decide +kernel
theorem dX10_takeRoad_134 : decode cX10_takeRoad 134 = .ok (.imul, 1) := by decide +kernel
theorem dX10_takeRoad_135 : decode cX10_takeRoad 135 = .ok (.iadd, 1) := by decide +kernel
theorem dX10_takeRoad_136 : decode cX10_takeRoad 136 = .ok (.iload_n 3, 1) := by decide +kernel
theorem dX10_takeRoad_137 : decode cX10_takeRoad 137 = .ok (.iadd, 1) := by decide +kernel
theorem dX10_takeRoad_138 : decode cX10_takeRoad 138 = .ok (.iaload, 1) := by decide +kernel
theorem dX10_takeRoad_139 : decode cX10_takeRoad 139 = .ok (.iastore, 1) := by decide +kernel
theorem dX10_takeRoad_140 : decode cX10_takeRoad 140 = .ok (.aload_n 0, 1) := by decide +kernel
theorem dX10_takeRoad_141 : decode cX10_takeRoad 141 = .ok (.getfield 17, 3) := by decide +kernel
theorem dX10_takeRoad_144 : decode cX10_takeRoad 144 = .ok (.bipush 25, 2) := by decide +kernel
theorem dX10_takeRoad_146 : decode cX10_takeRoad 146 = .ok (.iconst 5, 1) := by decide +kernel
theorem dX10_takeRoad_147 : decode cX10_takeRoad 147 = .ok (.iload_n 3, 1) := by decide +kernel
theorem dX10_takeRoad_148 : decode cX10_takeRoad 148 = .ok (.imul, 1) := by decide +kernel
theorem dX10_takeRoad_149 : decode cX10_takeRoad 149 = .ok (.iadd, 1) := by decide +kernel
theorem dX10_takeRoad_150 : decode cX10_takeRoad 150 = .ok (.iload_n 2, 1) := by decide +kernel
theorem dX10_takeRoad_151 : decode cX10_takeRoad 151 = .ok (.iadd, 1) := by decide +kernel
theorem dX10_takeRoad_152 : decode cX10_takeRoad 152 = .ok (.aload_n 0, 1) := by decide +kernel
theorem dX10_takeRoad_153 : decode cX10_takeRoad 153 = .ok (.getfield 17, 3) := by decide +kernel
theorem dX10_takeRoad_156 : decode cX10_takeRoad 156 = .ok (.bipush 25, 2) := by decide +kernel
theorem dX10_takeRoad_158 : decode cX10_takeRoad 158 = .ok (.iconst 5, 1) := by decide +kernel
theorem dX10_takeRoad_159 : decode cX10_takeRoad 159 = .ok (.iload_n 2, 1) := by decide +kernel
theorem dX10_takeRoad_160 : decode cX10_takeRoad 160 = .ok (.imul, 1) := by decide +kernel
theorem dX10_takeRoad_161 : decode cX10_takeRoad 161 = .ok (.iadd, 1) := by decide +kernel
theorem dX10_takeRoad_162 : decode cX10_takeRoad 162 = .ok (.iload_n 3, 1) := by decide +kernel
theorem dX10_takeRoad_163 : decode cX10_takeRoad 163 = .ok (.iadd, 1) := by decide +kernel
theorem dX10_takeRoad_164 : decode cX10_takeRoad 164 = .ok (.iaload, 1) := by decide +kernel
theorem dX10_takeRoad_165 : decode cX10_takeRoad 165 = .ok (.iastore, 1) := by decide +kernel
theorem dX10_takeRoad_166 : decode cX10_takeRoad 166 = .ok (.aload_n 0, 1) := by decide +kernel
theorem dX10_takeRoad_167 : decode cX10_takeRoad 167 = .ok (.dup, 1) := by decide +kernel
theorem dX10_takeRoad_168 : decode cX10_takeRoad 168 = .ok (.getfield 127, 3) := by decide +kernel
theorem dX10_takeRoad_171 : decode cX10_takeRoad 171 = .ok (.iconst 1, 1) := by decide +kernel
theorem dX10_takeRoad_172 : decode cX10_takeRoad 172 = .ok (.iadd, 1) := by decide +kernel
theorem dX10_takeRoad_173 : decode cX10_takeRoad 173 = .ok (.putfield 127, 3) := by decide +kernel
theorem dX10_takeRoad_176 : decode cX10_takeRoad 176 = .ok (.return_, 1) := by decide +kernel
theorem dX10_takeKeeper_0 : decode cX10_takeKeeper 0 = .ok (.aload_n 0, 1) := by decide +kernel
theorem dX10_takeKeeper_1 : decode cX10_takeKeeper 1 = .ok (.aload_n 0, 1) := by decide +kernel
theorem dX10_takeKeeper_2 : decode cX10_takeKeeper 2 = .ok (.getfield 130, 3) := by decide +kernel
theorem dX10_takeKeeper_5 : decode cX10_takeKeeper 5 = .ok (.iconst 3, 1) := by decide +kernel
theorem dX10_takeKeeper_6 : decode cX10_takeKeeper 6 = .ok (.if_icmp .ge 7, 3) := by decide +kernel
theorem dX10_takeKeeper_9 : decode cX10_takeKeeper 9 = .ok (.iconst 1, 1) := by decide +kernel
theorem dX10_takeKeeper_10 : decode cX10_takeKeeper 10 = .ok (.goto 4, 3) := by decide +kernel
theorem dX10_takeKeeper_13 : decode cX10_takeKeeper 13 = .ok (.iconst 0, 1) := by decide +kernel
theorem dX10_takeKeeper_14 : decode cX10_takeKeeper 14 = .ok (.iconst 3, 1) := by decide +kernel
theorem dX10_takeKeeper_15 : decode cX10_takeKeeper 15 = .ok (.iload_n 1, 1) := by decide +kernel
theorem dX10_takeKeeper_16 : decode cX10_takeKeeper 16 = .ok (.invokevirtual 115, 3) := by decide +kernel
theorem dX10_takeKeeper_19 : decode cX10_takeKeeper 19 = .ok (.ifCond .eq 52, 3) := by decide +kernel
theorem dX10_takeKeeper_22 : decode cX10_takeKeeper 22 = .ok (.aload_n 0, 1) := by decide +kernel
theorem dX10_takeKeeper_23 : decode cX10_takeKeeper 23 = .ok (.getfield 23, 3) := by decide +kernel
theorem dX10_takeKeeper_26 : decode cX10_takeKeeper 26 = .ok (.iconst 3, 1) := by decide +kernel
theorem dX10_takeKeeper_27 : decode cX10_takeKeeper 27 = .ok (.aload_n 0, 1) := by decide +kernel
theorem dX10_takeKeeper_28 : decode cX10_takeKeeper 28 = .ok (.getfield 130, 3) := by decide +kernel
theorem dX10_takeKeeper_31 : decode cX10_takeKeeper 31 = .ok (.iadd, 1) := by decide +kernel
theorem dX10_takeKeeper_32 : decode cX10_takeKeeper 32 = .ok (.aload_n 0, 1) := by decide +kernel
theorem dX10_takeKeeper_33 : decode cX10_takeKeeper 33 = .ok (.iconst 0, 1) := by decide +kernel
theorem dX10_takeKeeper_34 : decode cX10_takeKeeper 34 = .ok (.aload_n 0, 1) := by decide +kernel
theorem dX10_takeKeeper_35 : decode cX10_takeKeeper 35 = .ok (.getfield 120, 3) := by decide +kernel
theorem dX10_takeKeeper_38 : decode cX10_takeKeeper 38 = .ok (.iconst 1, 1) := by decide +kernel
theorem dX10_takeKeeper_39 : decode cX10_takeKeeper 39 = .ok (.isub, 1) := by decide +kernel
theorem dX10_takeKeeper_40 : decode cX10_takeKeeper 40 = .ok (.invokevirtual 123, 3) := by decide +kernel
theorem dX10_takeKeeper_43 : decode cX10_takeKeeper 43 = .ok (.iastore, 1) := by decide +kernel
theorem dX10_takeKeeper_44 : decode cX10_takeKeeper 44 = .ok (.aload_n 0, 1) := by decide +kernel
theorem dX10_takeKeeper_45 : decode cX10_takeKeeper 45 = .ok (.getfield 26, 3) := by decide +kernel
theorem dX10_takeKeeper_48 : decode cX10_takeKeeper 48 = .ok (.iconst 3, 1) := by decide +kernel
theorem dX10_takeKeeper_49 : decode cX10_takeKeeper 49 = .ok (.aload_n 0, 1) := by decide +kernel
theorem dX10_takeKeeper_50 : decode cX10_takeKeeper 50 = .ok (.getfield 130, 3) := by decide +kernel
theorem dX10_takeKeeper_53 : decode cX10_takeKeeper 53 = .ok (.iadd, 1) := by decide +kernel
theorem dX10_takeKeeper_54 : decode cX10_takeKeeper 54 = .ok (.aload_n 0, 1) := by decide +kernel
theorem dX10_takeKeeper_55 : decode cX10_takeKeeper 55 = .ok (.iconst 0, 1) := by decide +kernel
theorem dX10_takeKeeper_56 : decode cX10_takeKeeper 56 = .ok (.iconst 2, 1) := by decide +kernel
theorem dX10_takeKeeper_57 : decode cX10_takeKeeper 57 = .ok (.invokevirtual 123, 3) := by decide +kernel
theorem dX10_takeKeeper_60 : decode cX10_takeKeeper 60 = .ok (.iastore, 1) := by decide +kernel
theorem dX10_takeKeeper_61 : decode cX10_takeKeeper 61 = .ok (.aload_n 0, 1) := by decide +kernel
theorem dX10_takeKeeper_62 : decode cX10_takeKeeper 62 = .ok (.dup, 1) := by decide +kernel
theorem dX10_takeKeeper_63 : decode cX10_takeKeeper 63 = .ok (.getfield 130, 3) := by decide +kernel
theorem dX10_takeKeeper_66 : decode cX10_takeKeeper 66 = .ok (.iconst 1, 1) := by decide +kernel
theorem dX10_takeKeeper_67 : decode cX10_takeKeeper 67 = .ok (.iadd, 1) := by decide +kernel
theorem dX10_takeKeeper_68 : decode cX10_takeKeeper 68 = .ok (.putfield 130, 3) := by decide +kernel
theorem dX10_takeKeeper_71 : decode cX10_takeKeeper 71 = .ok (.return_, 1) := by decide +kernel
theorem dX10_takePromise_0 : decode cX10_takePromise 0 = .ok (.aload_n 0, 1) := by decide +kernel
theorem dX10_takePromise_1 : decode cX10_takePromise 1 = .ok (.aload_n 0, 1) := by decide +kernel
theorem dX10_takePromise_2 : decode cX10_takePromise 2 = .ok (.getfield 133, 3) := by decide +kernel
theorem dX10_takePromise_5 : decode cX10_takePromise 5 = .ok (.bipush 7, 2) := by decide +kernel
theorem dX10_takePromise_7 : decode cX10_takePromise 7 = .ok (.if_icmp .ge 7, 3) := by decide +kernel
theorem dX10_takePromise_10 : decode cX10_takePromise 10 = .ok (.iconst 1, 1) := by decide +kernel
theorem dX10_takePromise_11 : decode cX10_takePromise 11 = .ok (.goto 4, 3) := by decide +kernel
theorem dX10_takePromise_14 : decode cX10_takePromise 14 = .ok (.iconst 0, 1) := by decide +kernel
theorem dX10_takePromise_15 : decode cX10_takePromise 15 = .ok (.iconst 3, 1) := by decide +kernel
theorem dX10_takePromise_16 : decode cX10_takePromise 16 = .ok (.iload_n 1, 1) := by decide +kernel
theorem dX10_takePromise_17 : decode cX10_takePromise 17 = .ok (.invokevirtual 115, 3) := by decide +kernel
theorem dX10_takePromise_20 : decode cX10_takePromise 20 = .ok (.ifCond .eq 153, 3) := by decide +kernel
theorem dX10_takePromise_23 : decode cX10_takePromise 23 = .ok (.bipush 7, 2) := by decide +kernel
theorem dX10_takePromise_25 : decode cX10_takePromise 25 = .ok (.aload_n 0, 1) := by decide +kernel
theorem dX10_takePromise_26 : decode cX10_takePromise 26 = .ok (.getfield 133, 3) := by decide +kernel
theorem dX10_takePromise_29 : decode cX10_takePromise 29 = .ok (.iadd, 1) := by decide +kernel
theorem dX10_takePromise_30 : decode cX10_takePromise 30 = .ok (.istore_n 2, 1) := by decide +kernel
theorem dX10_takePromise_31 : decode cX10_takePromise 31 = .ok (.aload_n 0, 1) := by decide +kernel
theorem dX10_takePromise_32 : decode cX10_takePromise 32 = .ok (.getfield 29, 3) := by decide +kernel
theorem dX10_takePromise_35 : decode cX10_takePromise 35 = .ok (.iload_n 2, 1) := by decide +kernel
theorem dX10_takePromise_36 : decode cX10_takePromise 36 = .ok (.aload_n 0, 1) := by decide +kernel
theorem dX10_takePromise_37 : decode cX10_takePromise 37 = .ok (.iconst 0, 1) := by decide +kernel
theorem dX10_takePromise_38 : decode cX10_takePromise 38 = .ok (.aload_n 0, 1) := by decide +kernel
theorem dX10_takePromise_39 : decode cX10_takePromise 39 = .ok (.getfield 130, 3) := by decide +kernel
theorem dX10_takePromise_42 : decode cX10_takePromise 42 = .ok (.iconst 1, 1) := by decide +kernel
theorem dX10_takePromise_43 : decode cX10_takePromise 43 = .ok (.isub, 1) := by decide +kernel
theorem dX10_takePromise_44 : decode cX10_takePromise 44 = .ok (.invokevirtual 123, 3) := by decide +kernel
theorem dX10_takePromise_47 : decode cX10_takePromise 47 = .ok (.iastore, 1) := by decide +kernel
theorem dX10_takePromise_48 : decode cX10_takePromise 48 = .ok (.aload_n 0, 1) := by decide +kernel
theorem dX10_takePromise_49 : decode cX10_takePromise 49 = .ok (.getfield 32, 3) := by decide +kernel
theorem dX10_takePromise_52 : decode cX10_takePromise 52 = .ok (.iload_n 2, 1) := by decide +kernel
theorem dX10_takePromise_53 : decode cX10_takePromise 53 = .ok (.aload_n 0, 1) := by decide +kernel
theorem dX10_takePromise_54 : decode cX10_takePromise 54 = .ok (.iconst 0, 1) := by decide +kernel
theorem dX10_takePromise_55 : decode cX10_takePromise 55 = .ok (.aload_n 0, 1) := by decide +kernel
theorem dX10_takePromise_56 : decode cX10_takePromise 56 = .ok (.getfield 120, 3) := by decide +kernel
theorem dX10_takePromise_59 : decode cX10_takePromise 59 = .ok (.iconst 1, 1) := by decide +kernel
theorem dX10_takePromise_60 : decode cX10_takePromise 60 = .ok (.isub, 1) := by decide +kernel
theorem dX10_takePromise_61 : decode cX10_takePromise 61 = .ok (.invokevirtual 123, 3) := by decide +kernel
theorem dX10_takePromise_64 : decode cX10_takePromise 64 = .ok (.iastore, 1) := by decide +kernel
theorem dX10_takePromise_65 : decode cX10_takePromise 65 = .ok (.aload_n 0, 1) := by decide +kernel
theorem dX10_takePromise_66 : decode cX10_takePromise 66 = .ok (.getfield 35, 3) := by decide +kernel
theorem dX10_takePromise_69 : decode cX10_takePromise 69 = .ok (.iload_n 2, 1) := by decide +kernel
theorem dX10_takePromise_70 : decode cX10_takePromise 70 = .ok (.aload_n 0, 1) := by decide +kernel
theorem dX10_takePromise_71 : decode cX10_takePromise 71 = .ok (.iconst 1, 1) := by decide +kernel
theorem dX10_takePromise_72 : decode cX10_takePromise 72 = .ok (.bipush 60, 2) := by decide +kernel
theorem dX10_takePromise_74 : decode cX10_takePromise 74 = .ok (.invokevirtual 123, 3) := by decide +kernel
theorem dX10_takePromise_77 : decode cX10_takePromise 77 = .ok (.iastore, 1) := by decide +kernel
theorem dX10_takePromise_78 : decode cX10_takePromise 78 = .ok (.aload_n 0, 1) := by decide +kernel
theorem dX10_takePromise_79 : decode cX10_takePromise 79 = .ok (.getfield 38, 3) := by decide +kernel
theorem dX10_takePromise_82 : decode cX10_takePromise 82 = .ok (.iload_n 2, 1) := by decide +kernel
theorem dX10_takePromise_83 : decode cX10_takePromise 83 = .ok (.aload_n 0, 1) := by decide +kernel
theorem dX10_takePromise_84 : decode cX10_takePromise 84 = .ok (.iconst 0, 1) := by decide +kernel
theorem dX10_takePromise_85 : decode cX10_takePromise 85 = .ok (.bipush 9, 2) := by decide +kernel
theorem dX10_takePromise_87 : decode cX10_takePromise 87 = .ok (.invokevirtual 123, 3) := by decide +kernel
theorem dX10_takePromise_90 : decode cX10_takePromise 90 = .ok (.iastore, 1) := by decide +kernel
theorem dX10_takePromise_91 : decode cX10_takePromise 91 = .ok (.aload_n 0, 1) := by decide +kernel
theorem dX10_takePromise_92 : decode cX10_takePromise 92 = .ok (.getfield 41, 3) := by decide +kernel
theorem dX10_takePromise_95 : decode cX10_takePromise 95 = .ok (.iload_n 2, 1) := by decide +kernel
theorem dX10_takePromise_96 : decode cX10_takePromise 96 = .ok (.aload_n 0, 1) := by decide +kernel
theorem dX10_takePromise_97 : decode cX10_takePromise 97 = .ok (.iconst 1, 1) := by decide +kernel
theorem dX10_takePromise_98 : decode cX10_takePromise 98 = .ok (.bipush 9, 2) := by decide +kernel
theorem dX10_takePromise_100 : decode cX10_takePromise 100 = .ok (.invokevirtual 123, 3) := by decide +kernel
theorem dX10_takePromise_103 : decode cX10_takePromise 103 = .ok (.iastore, 1) := by decide +kernel
theorem dX10_takePromise_104 : decode cX10_takePromise 104 = .ok (.aload_n 0, 1) := by decide +kernel
theorem dX10_takePromise_105 : decode cX10_takePromise 105 = .ok (.getfield 44, 3) := by decide +kernel
theorem dX10_takePromise_108 : decode cX10_takePromise 108 = .ok (.iload_n 2, 1) := by decide +kernel
theorem dX10_takePromise_109 : decode cX10_takePromise 109 = .ok (.aload_n 0, 1) := by decide +kernel
theorem dX10_takePromise_110 : decode cX10_takePromise 110 = .ok (.iconst 0, 1) := by decide +kernel
theorem dX10_takePromise_111 : decode cX10_takePromise 111 = .ok (.bipush 9, 2) := by decide +kernel
theorem dX10_takePromise_113 : decode cX10_takePromise 113 = .ok (.invokevirtual 123, 3) := by decide +kernel
theorem dX10_takePromise_116 : decode cX10_takePromise 116 = .ok (.iastore, 1) := by decide +kernel
theorem dX10_takePromise_117 : decode cX10_takePromise 117 = .ok (.aload_n 0, 1) := by decide +kernel
theorem dX10_takePromise_118 : decode cX10_takePromise 118 = .ok (.aload_n 0, 1) := by decide +kernel
theorem dX10_takePromise_119 : decode cX10_takePromise 119 = .ok (.getfield 101, 3) := by decide +kernel
theorem dX10_takePromise_122 : decode cX10_takePromise 122 = .ok (.ifCond .gt 27, 3) := by decide +kernel
theorem dX10_takePromise_125 : decode cX10_takePromise 125 = .ok (.aload_n 0, 1) := by decide +kernel
theorem dX10_takePromise_126 : decode cX10_takePromise 126 = .ok (.getfield 44, 3) := by decide +kernel
theorem dX10_takePromise_129 : decode cX10_takePromise 129 = .ok (.iload_n 2, 1) := by decide +kernel
theorem dX10_takePromise_130 : decode cX10_takePromise 130 = .ok (.iaload, 1) := by decide +kernel
theorem dX10_takePromise_131 : decode cX10_takePromise 131 = .ok (.bipush 9, 2) := by decide +kernel
theorem dX10_takePromise_133 : decode cX10_takePromise 133 = .ok (.if_icmp .eq 16, 3) := by decide +kernel
theorem dX10_takePromise_136 : decode cX10_takePromise 136 = .ok (.aload_n 0, 1) := by decide +kernel
theorem dX10_takePromise_137 : decode cX10_takePromise 137 = .ok (.getfield 44, 3) := by decide +kernel
theorem dX10_takePromise_140 : decode cX10_takePromise 140 = .ok (.iload_n 2, 1) := by decide +kernel
theorem dX10_takePromise_141 : decode cX10_takePromise 141 = .ok (.iaload, 1) := by decide +kernel
theorem dX10_takePromise_142 : decode cX10_takePromise 142 = .ok (.aload_n 0, 1) := by decide +kernel
theorem dX10_takePromise_143 : decode cX10_takePromise 143 = .ok (.getfield 133, 3) := by decide +kernel
theorem dX10_takePromise_146 : decode cX10_takePromise 146 = .ok (.if_icmp .ge 7, 3) := by decide +kernel
theorem dX10_takePromise_149 : decode cX10_takePromise 149 = .ok (.iconst 1, 1) := by decide +kernel
theorem dX10_takePromise_150 : decode cX10_takePromise 150 = .ok (.goto 4, 3) := by decide +kernel
theorem dX10_takePromise_153 : decode cX10_takePromise 153 = .ok (.iconst 0, 1) := by decide +kernel
theorem dX10_takePromise_154 : decode cX10_takePromise 154 = .ok (.iconst 2, 1) := by decide +kernel
theorem dX10_takePromise_155 : decode cX10_takePromise 155 = .ok (.aload_n 0, 1) := by decide +kernel
theorem dX10_takePromise_156 : decode cX10_takePromise 156 = .ok (.getfield 108, 3) := by decide +kernel
theorem dX10_takePromise_159 : decode cX10_takePromise 159 = .ok (.invokevirtual 115, 3) := by decide +kernel
theorem dX10_takePromise_162 : decode cX10_takePromise 162 = .ok (.istore_n 3, 1) := by decide +kernel
theorem dX10_takePromise_163 : decode cX10_takePromise 163 = .ok (.aload_n 0, 1) := by decide +kernel
theorem dX10_takePromise_164 : decode cX10_takePromise 164 = .ok (.dup, 1) := by decide +kernel
theorem dX10_takePromise_165 : decode cX10_takePromise 165 = .ok (.getfield 133, 3) := by decide +kernel
theorem dX10_takePromise_168 : decode cX10_takePromise 168 = .ok (.iconst 1, 1) := by decide +kernel
theorem dX10_takePromise_169 : decode cX10_takePromise 169 = .ok (.iadd, 1) := by decide +kernel
theorem dX10_takePromise_170 : decode cX10_takePromise 170 = .ok (.putfield 133, 3) := by decide +kernel
theorem dX10_takePromise_173 : decode cX10_takePromise 173 = .ok (.return_, 1) := by decide +kernel
theorem dX10_takeWinter_0 : decode cX10_takeWinter 0 = .ok (.aload_n 0, 1) := by decide +kernel
theorem dX10_takeWinter_1 : decode cX10_takeWinter 1 = .ok (.aload_n 0, 1) := by decide +kernel
theorem dX10_takeWinter_2 : decode cX10_takeWinter 2 = .ok (.getfield 136, 3) := by decide +kernel
theorem dX10_takeWinter_5 : decode cX10_takeWinter 5 = .ok (.ifCond .ne 7, 3) := by decide +kernel
theorem dX10_takeWinter_8 : decode cX10_takeWinter 8 = .ok (.iconst 1, 1) := by decide +kernel
theorem dX10_takeWinter_9 : decode cX10_takeWinter 9 = .ok (.goto 4, 3) := by decide +kernel
theorem dX10_takeWinter_12 : decode cX10_takeWinter 12 = .ok (.iconst 0, 1) := by decide +kernel
theorem dX10_takeWinter_13 : decode cX10_takeWinter 13 = .ok (.iconst 3, 1) := by decide +kernel
theorem dX10_takeWinter_14 : decode cX10_takeWinter 14 = .ok (.iload_n 1, 1) := by decide +kernel
theorem dX10_takeWinter_15 : decode cX10_takeWinter 15 = .ok (.invokevirtual 115, 3) := by decide +kernel
theorem dX10_takeWinter_18 : decode cX10_takeWinter 18 = .ok (.ifCond .eq 84, 3) := by decide +kernel
theorem dX10_takeWinter_21 : decode cX10_takeWinter 21 = .ok (.aload_n 0, 1) := by decide +kernel
theorem dX10_takeWinter_22 : decode cX10_takeWinter 22 = .ok (.iconst 1, 1) := by decide +kernel
theorem dX10_takeWinter_23 : decode cX10_takeWinter 23 = .ok (.putfield 136, 3) := by decide +kernel
theorem dX10_takeWinter_26 : decode cX10_takeWinter 26 = .ok (.aload_n 0, 1) := by decide +kernel
theorem dX10_takeWinter_27 : decode cX10_takeWinter 27 = .ok (.getfield 47, 3) := by decide +kernel
theorem dX10_takeWinter_30 : decode cX10_takeWinter 30 = .ok (.iconst 3, 1) := by decide +kernel
theorem dX10_takeWinter_31 : decode cX10_takeWinter 31 = .ok (.aload_n 0, 1) := by decide +kernel
theorem dX10_takeWinter_32 : decode cX10_takeWinter 32 = .ok (.iconst 0, 1) := by decide +kernel
theorem dX10_takeWinter_33 : decode cX10_takeWinter 33 = .ok (.bipush 98, 2) := by decide +kernel
theorem dX10_takeWinter_35 : decode cX10_takeWinter 35 = .ok (.invokevirtual 123, 3) := by decide +kernel
theorem dX10_takeWinter_38 : decode cX10_takeWinter 38 = .ok (.iastore, 1) := by decide +kernel
theorem dX10_takeWinter_39 : decode cX10_takeWinter 39 = .ok (.aload_n 0, 1) := by decide +kernel
theorem dX10_takeWinter_40 : decode cX10_takeWinter 40 = .ok (.getfield 47, 3) := by decide +kernel
theorem dX10_takeWinter_43 : decode cX10_takeWinter 43 = .ok (.iconst 4, 1) := by decide +kernel
theorem dX10_takeWinter_44 : decode cX10_takeWinter 44 = .ok (.aload_n 0, 1) := by decide +kernel
theorem dX10_takeWinter_45 : decode cX10_takeWinter 45 = .ok (.iconst 0, 1) := by decide +kernel
theorem dX10_takeWinter_46 : decode cX10_takeWinter 46 = .ok (.bipush 98, 2) := by decide +kernel
theorem dX10_takeWinter_48 : decode cX10_takeWinter 48 = .ok (.invokevirtual 123, 3) := by decide +kernel
theorem dX10_takeWinter_51 : decode cX10_takeWinter 51 = .ok (.iastore, 1) := by decide +kernel
theorem dX10_takeWinter_52 : decode cX10_takeWinter 52 = .ok (.aload_n 0, 1) := by decide +kernel
theorem dX10_takeWinter_53 : decode cX10_takeWinter 53 = .ok (.getfield 47, 3) := by decide +kernel
theorem dX10_takeWinter_56 : decode cX10_takeWinter 56 = .ok (.iconst 5, 1) := by decide +kernel
theorem dX10_takeWinter_57 : decode cX10_takeWinter 57 = .ok (.aload_n 0, 1) := by decide +kernel
theorem dX10_takeWinter_58 : decode cX10_takeWinter 58 = .ok (.iconst 2, 1) := by decide +kernel
theorem dX10_takeWinter_59 : decode cX10_takeWinter 59 = .ok (.bipush 99, 2) := by decide +kernel
theorem dX10_takeWinter_61 : decode cX10_takeWinter 61 = .ok (.invokevirtual 123, 3) := by decide +kernel
theorem dX10_takeWinter_64 : decode cX10_takeWinter 64 = .ok (.iastore, 1) := by decide +kernel
theorem dX10_takeWinter_65 : decode cX10_takeWinter 65 = .ok (.aload_n 0, 1) := by decide +kernel
theorem dX10_takeWinter_66 : decode cX10_takeWinter 66 = .ok (.aload_n 0, 1) := by decide +kernel
theorem dX10_takeWinter_67 : decode cX10_takeWinter 67 = .ok (.getfield 101, 3) := by decide +kernel
theorem dX10_takeWinter_70 : decode cX10_takeWinter 70 = .ok (.ifCond .gt 18, 3) := by decide +kernel
theorem dX10_takeWinter_73 : decode cX10_takeWinter 73 = .ok (.aload_n 0, 1) := by decide +kernel
theorem dX10_takeWinter_74 : decode cX10_takeWinter 74 = .ok (.getfield 47, 3) := by decide +kernel
theorem dX10_takeWinter_77 : decode cX10_takeWinter 77 = .ok (.iconst 4, 1) := by decide +kernel
theorem dX10_takeWinter_78 : decode cX10_takeWinter 78 = .ok (.iaload, 1) := by decide +kernel
theorem dX10_takeWinter_79 : decode cX10_takeWinter 79 = .ok (.aload_n 0, 1) := by decide +kernel
theorem dX10_takeWinter_80 : decode cX10_takeWinter 80 = .ok (.getfield 47, 3) := by decide +kernel
theorem dX10_takeWinter_83 : decode cX10_takeWinter 83 = .ok (.iconst 5, 1) := by decide +kernel
theorem dX10_takeWinter_84 : decode cX10_takeWinter 84 = .ok (.iaload, 1) := by decide +kernel
theorem dX10_takeWinter_85 : decode cX10_takeWinter 85 = .ok (.if_icmp .ge 7, 3) := by decide +kernel
theorem dX10_takeWinter_88 : decode cX10_takeWinter 88 = .ok (.iconst 1, 1) := by decide +kernel
theorem dX10_takeWinter_89 : decode cX10_takeWinter 89 = .ok (.goto 4, 3) := by decide +kernel
theorem dX10_takeWinter_92 : decode cX10_takeWinter 92 = .ok (.iconst 0, 1) := by decide +kernel
theorem dX10_takeWinter_93 : decode cX10_takeWinter 93 = .ok (.iconst 4, 1) := by decide +kernel
theorem dX10_takeWinter_94 : decode cX10_takeWinter 94 = .ok (.aload_n 0, 1) := by decide +kernel
theorem dX10_takeWinter_95 : decode cX10_takeWinter 95 = .ok (.getfield 108, 3) := by decide +kernel
theorem dX10_takeWinter_98 : decode cX10_takeWinter 98 = .ok (.invokevirtual 115, 3) := by decide +kernel
theorem dX10_takeWinter_101 : decode cX10_takeWinter 101 = .ok (.istore_n 2, 1) := by decide +kernel
theorem dX10_takeWinter_102 : decode cX10_takeWinter 102 = .ok (.return_, 1) := by decide +kernel
theorem dX10_takeClause_0 : decode cX10_takeClause 0 = .ok (.aload_n 0, 1) := by decide +kernel
theorem dX10_takeClause_1 : decode cX10_takeClause 1 = .ok (.invokevirtual 104, 3) := by decide +kernel
theorem dX10_takeClause_4 : decode cX10_takeClause 4 = .ok (.istore_n 1, 1) := by decide +kernel
theorem dX10_takeClause_5 : decode cX10_takeClause 5 = .ok (.aload_n 0, 1) := by decide +kernel
theorem dX10_takeClause_6 : decode cX10_takeClause 6 = .ok (.getfield 98, 3) := by decide +kernel
theorem dX10_takeClause_9 : decode cX10_takeClause 9 = .ok (.istore_n 2, 1) := by decide +kernel
theorem dX10_takeClause_10 : decode cX10_takeClause 10 = .ok (.aload_n 0, 1) := by decide +kernel
theorem dX10_takeClause_11 : decode cX10_takeClause 11 = .ok (.dup, 1) := by decide +kernel
theorem dX10_takeClause_12 : decode cX10_takeClause 12 = .ok (.getfield 98, 3) := by decide +kernel
theorem dX10_takeClause_15 : decode cX10_takeClause 15 = .ok (.iconst 1, 1) := by decide +kernel
theorem dX10_takeClause_16 : decode cX10_takeClause 16 = .ok (.iadd, 1) := by decide +kernel
theorem dX10_takeClause_17 : decode cX10_takeClause 17 = .ok (.putfield 98, 3) := by decide +kernel
theorem dX10_takeClause_20 : decode cX10_takeClause 20 = .ok (.iload_n 1, 1) := by decide +kernel
theorem dX10_takeClause_21 : decode cX10_takeClause 21 = .ok (.bipush 116, 2) := by decide +kernel
theorem dX10_takeClause_23 : decode cX10_takeClause 23 = .ok (.if_icmp .eq 34, 3) := by decide +kernel
theorem dX10_takeClause_26 : decode cX10_takeClause 26 = .ok (.aload_n 0, 1) := by decide +kernel
theorem dX10_takeClause_27 : decode cX10_takeClause 27 = .ok (.getfield 120, 3) := by decide +kernel
theorem dX10_takeClause_30 : decode cX10_takeClause 30 = .ok (.ifCond .le 31, 3) := by decide +kernel
theorem dX10_takeClause_33 : decode cX10_takeClause 33 = .ok (.iload_n 1, 1) := by decide +kernel
theorem dX10_takeClause_34 : decode cX10_takeClause 34 = .ok (.bipush 114, 2) := by decide +kernel
theorem dX10_takeClause_36 : decode cX10_takeClause 36 = .ok (.if_icmp .eq 21, 3) := by decide +kernel
theorem dX10_takeClause_39 : decode cX10_takeClause 39 = .ok (.iload_n 1, 1) := by decide +kernel
theorem dX10_takeClause_40 : decode cX10_takeClause 40 = .ok (.bipush 107, 2) := by decide +kernel
theorem dX10_takeClause_42 : decode cX10_takeClause 42 = .ok (.if_icmp .eq 15, 3) := by decide +kernel
theorem dX10_takeClause_45 : decode cX10_takeClause 45 = .ok (.iload_n 1, 1) := by decide +kernel
theorem dX10_takeClause_46 : decode cX10_takeClause 46 = .ok (.bipush 112, 2) := by decide +kernel
theorem dX10_takeClause_48 : decode cX10_takeClause 48 = .ok (.if_icmp .eq 9, 3) := by decide +kernel
theorem dX10_takeClause_51 : decode cX10_takeClause 51 = .ok (.iload_n 1, 1) := by decide +kernel
theorem dX10_takeClause_52 : decode cX10_takeClause 52 = .ok (.bipush 119, 2) := by decide +kernel
theorem dX10_takeClause_54 : decode cX10_takeClause 54 = .ok (.if_icmp .ne 7, 3) := by decide +kernel
theorem dX10_takeClause_57 : decode cX10_takeClause 57 = .ok (.iconst 1, 1) := by decide +kernel
theorem dX10_takeClause_58 : decode cX10_takeClause 58 = .ok (.goto 4, 3) := by decide +kernel
theorem dX10_takeClause_61 : decode cX10_takeClause 61 = .ok (.iconst 0, 1) := by decide +kernel
theorem dX10_takeClause_62 : decode cX10_takeClause 62 = .ok (.istore_n 3, 1) := by decide +kernel
theorem dX10_takeClause_63 : decode cX10_takeClause 63 = .ok (.aload_n 0, 1) := by decide +kernel
theorem dX10_takeClause_64 : decode cX10_takeClause 64 = .ok (.iload_n 3, 1) := by decide +kernel
theorem dX10_takeClause_65 : decode cX10_takeClause 65 = .ok (.iconst 1, 1) := by decide +kernel
theorem dX10_takeClause_66 : decode cX10_takeClause 66 = .ok (.iload_n 2, 1) := by decide +kernel
theorem dX10_takeClause_67 : decode cX10_takeClause 67 = .ok (.invokevirtual 115, 3) := by decide +kernel
theorem dX10_takeClause_70 : decode cX10_takeClause 70 = .ok (.ifCond .ne 4, 3) := by decide +kernel
theorem dX10_takeClause_73 : decode cX10_takeClause 73 = .ok (.return_, 1) := by decide +kernel
theorem dX10_takeClause_74 : decode cX10_takeClause 74 = .ok (.iload_n 1, 1) := by decide +kernel
theorem dX10_takeClause_75 : decode cX10_takeClause 75 = .ok (.bipush 116, 2) := by decide +kernel
theorem dX10_takeClause_77 : decode cX10_takeClause 77 = .ok (.if_icmp .ne 11, 3) := by decide +kernel
theorem dX10_takeClause_80 : decode cX10_takeClause 80 = .ok (.aload_n 0, 1) := by decide +kernel
theorem dX10_takeClause_81 : decode cX10_takeClause 81 = .ok (.iload_n 2, 1) := by decide +kernel
theorem dX10_takeClause_82 : decode cX10_takeClause 82 = .ok (.invokevirtual 140, 3) := by decide +kernel
theorem dX10_takeClause_85 : decode cX10_takeClause 85 = .ok (.goto 50, 3) := by decide +kernel
theorem dX10_takeClause_88 : decode cX10_takeClause 88 = .ok (.iload_n 1, 1) := by decide +kernel
theorem dX10_takeClause_89 : decode cX10_takeClause 89 = .ok (.bipush 114, 2) := by decide +kernel
theorem dX10_takeClause_91 : decode cX10_takeClause 91 = .ok (.if_icmp .ne 11, 3) := by decide +kernel
theorem dX10_takeClause_94 : decode cX10_takeClause 94 = .ok (.aload_n 0, 1) := by decide +kernel
theorem dX10_takeClause_95 : decode cX10_takeClause 95 = .ok (.iload_n 2, 1) := by decide +kernel
theorem dX10_takeClause_96 : decode cX10_takeClause 96 = .ok (.invokevirtual 144, 3) := by decide +kernel
theorem dX10_takeClause_99 : decode cX10_takeClause 99 = .ok (.goto 36, 3) := by decide +kernel
theorem dX10_takeClause_102 : decode cX10_takeClause 102 = .ok (.iload_n 1, 1) := by decide +kernel
theorem dX10_takeClause_103 : decode cX10_takeClause 103 = .ok (.bipush 107, 2) := by decide +kernel
theorem dX10_takeClause_105 : decode cX10_takeClause 105 = .ok (.if_icmp .ne 11, 3) := by decide +kernel
theorem dX10_takeClause_108 : decode cX10_takeClause 108 = .ok (.aload_n 0, 1) := by decide +kernel
theorem dX10_takeClause_109 : decode cX10_takeClause 109 = .ok (.iload_n 2, 1) := by decide +kernel
theorem dX10_takeClause_110 : decode cX10_takeClause 110 = .ok (.invokevirtual 147, 3) := by decide +kernel
theorem dX10_takeClause_113 : decode cX10_takeClause 113 = .ok (.goto 22, 3) := by decide +kernel
theorem dX10_takeClause_116 : decode cX10_takeClause 116 = .ok (.iload_n 1, 1) := by decide +kernel
theorem dX10_takeClause_117 : decode cX10_takeClause 117 = .ok (.bipush 112, 2) := by decide +kernel
theorem dX10_takeClause_119 : decode cX10_takeClause 119 = .ok (.if_icmp .ne 11, 3) := by decide +kernel
theorem dX10_takeClause_122 : decode cX10_takeClause 122 = .ok (.aload_n 0, 1) := by decide +kernel
theorem dX10_takeClause_123 : decode cX10_takeClause 123 = .ok (.iload_n 2, 1) := by decide +kernel
theorem dX10_takeClause_124 : decode cX10_takeClause 124 = .ok (.invokevirtual 150, 3) := by decide +kernel
theorem dX10_takeClause_127 : decode cX10_takeClause 127 = .ok (.goto 8, 3) := by decide +kernel
theorem dX10_takeClause_130 : decode cX10_takeClause 130 = .ok (.aload_n 0, 1) := by decide +kernel
theorem dX10_takeClause_131 : decode cX10_takeClause 131 = .ok (.iload_n 2, 1) := by decide +kernel
theorem dX10_takeClause_132 : decode cX10_takeClause 132 = .ok (.invokevirtual 153, 3) := by decide +kernel
theorem dX10_takeClause_135 : decode cX10_takeClause 135 = .ok (.return_, 1) := by decide +kernel
theorem dX10_findFar_0 : decode cX10_findFar 0 = .ok (.iconst 0, 1) := by decide +kernel
theorem dX10_findFar_1 : decode cX10_findFar 1 = .ok (.istore_n 1, 1) := by decide +kernel
theorem dX10_findFar_2 : decode cX10_findFar 2 = .ok (.iload_n 1, 1) := by decide +kernel
theorem dX10_findFar_3 : decode cX10_findFar 3 = .ok (.bipush 25, 2) := by decide +kernel
theorem dX10_findFar_5 : decode cX10_findFar 5 = .ok (.if_icmp .ge 34, 3) := by decide +kernel
theorem dX10_findFar_8 : decode cX10_findFar 8 = .ok (.aload_n 0, 1) := by decide +kernel
theorem dX10_findFar_9 : decode cX10_findFar 9 = .ok (.getfield 20, 3) := by decide +kernel
theorem dX10_findFar_12 : decode cX10_findFar 12 = .ok (.iload_n 1, 1) := by decide +kernel
theorem dX10_findFar_13 : decode cX10_findFar 13 = .ok (.iload_n 1, 1) := by decide +kernel
theorem dX10_findFar_14 : decode cX10_findFar 14 = .ok (.iconst 5, 1) := by decide +kernel
theorem dX10_findFar_15 : decode cX10_findFar 15 = .ok (.idiv, 1) := by decide +kernel
theorem dX10_findFar_16 : decode cX10_findFar 16 = .ok (.iload_n 1, 1) := by decide +kernel
theorem dX10_findFar_17 : decode cX10_findFar 17 = .ok (.iconst 5, 1) := by decide +kernel
theorem dX10_findFar_18 : decode cX10_findFar 18 = .ok (.irem, 1) := by decide +kernel
theorem dX10_findFar_19 : decode cX10_findFar 19 = .ok (.if_icmp .ne 7, 3) := by decide +kernel
theorem dX10_findFar_22 : decode cX10_findFar 22 = .ok (.iconst 0, 1) := by decide +kernel
theorem dX10_findFar_23 : decode cX10_findFar 23 = .ok (.goto 9, 3) := by decide +kernel
theorem dX10_findFar_26 : decode cX10_findFar 26 = .ok (.aload_n 0, 1) := by decide +kernel
theorem dX10_findFar_27 : decode cX10_findFar 27 = .ok (.getfield 17, 3) := by decide +kernel
theorem dX10_findFar_30 : decode cX10_findFar 30 = .ok (.iload_n 1, 1) := by decide +kernel
theorem dX10_findFar_31 : decode cX10_findFar 31 = .ok (.iaload, 1) := by decide +kernel
theorem dX10_findFar_32 : decode cX10_findFar 32 = .ok (.iastore, 1) := by decide +kernel
theorem dX10_findFar_33 : decode cX10_findFar 33 = .ok (.iinc 1 1, 3) := by decide +kernel
theorem dX10_findFar_36 : decode cX10_findFar 36 = .ok (.goto (-34), 3) := by decide +kernel
theorem dX10_findFar_39 : decode cX10_findFar 39 = .ok (.iconst 0, 1) := by decide +kernel
theorem dX10_findFar_40 : decode cX10_findFar 40 = .ok (.istore_n 1, 1) := by decide +kernel
theorem dX10_findFar_41 : decode cX10_findFar 41 = .ok (.iload_n 1, 1) := by decide +kernel
theorem dX10_findFar_42 : decode cX10_findFar 42 = .ok (.iconst 5, 1) := by decide +kernel
theorem dX10_findFar_43 : decode cX10_findFar 43 = .ok (.if_icmp .ge 75, 3) := by decide +kernel
theorem dX10_findFar_46 : decode cX10_findFar 46 = .ok (.iconst 0, 1) := by decide +kernel
theorem dX10_findFar_47 : decode cX10_findFar 47 = .ok (.istore_n 2, 1) := by decide +kernel
theorem dX10_findFar_48 : decode cX10_findFar 48 = .ok (.iload_n 2, 1) := by decide +kernel
theorem dX10_findFar_49 : decode cX10_findFar 49 = .ok (.bipush 25, 2) := by decide +kernel
theorem dX10_findFar_51 : decode cX10_findFar 51 = .ok (.if_icmp .ge 61, 3) := by decide +kernel
theorem dX10_findFar_54 : decode cX10_findFar 54 = .ok (.aload_n 0, 1) := by decide +kernel
theorem dX10_findFar_55 : decode cX10_findFar 55 = .ok (.getfield 20, 3) := by decide +kernel
theorem dX10_findFar_58 : decode cX10_findFar 58 = .ok (.iconst 5, 1) := by decide +kernel
theorem dX10_findFar_59 : decode cX10_findFar 59 = .ok (.iload_n 2, 1) := by decide +kernel
theorem dX10_findFar_60 : decode cX10_findFar 60 = .ok (.iconst 5, 1) := by decide +kernel
theorem dX10_findFar_61 : decode cX10_findFar 61 = .ok (.idiv, 1) := by decide +kernel
theorem dX10_findFar_62 : decode cX10_findFar 62 = .ok (.imul, 1) := by decide +kernel
theorem dX10_findFar_63 : decode cX10_findFar 63 = .ok (.iload_n 1, 1) := by decide +kernel
theorem dX10_findFar_64 : decode cX10_findFar 64 = .ok (.iadd, 1) := by decide +kernel
theorem dX10_findFar_65 : decode cX10_findFar 65 = .ok (.iaload, 1) := by decide +kernel
theorem dX10_findFar_66 : decode cX10_findFar 66 = .ok (.aload_n 0, 1) := by decide +kernel
theorem dX10_findFar_67 : decode cX10_findFar 67 = .ok (.getfield 20, 3) := by decide +kernel
theorem dX10_findFar_70 : decode cX10_findFar 70 = .ok (.iconst 5, 1) := by decide +kernel
theorem dX10_findFar_71 : decode cX10_findFar 71 = .ok (.iload_n 1, 1) := by decide +kernel
theorem dX10_findFar_72 : decode cX10_findFar 72 = .ok (.imul, 1) := by decide +kernel
theorem dX10_findFar_73 : decode cX10_findFar 73 = .ok (.iload_n 2, 1) := by decide +kernel
theorem dX10_findFar_74 : decode cX10_findFar 74 = .ok (.iconst 5, 1) := by decide +kernel
theorem dX10_findFar_75 : decode cX10_findFar 75 = .ok (.irem, 1) := by decide +kernel
theorem dX10_findFar_76 : decode cX10_findFar 76 = .ok (.iadd, 1) := by decide +kernel
theorem dX10_findFar_77 : decode cX10_findFar 77 = .ok (.iaload, 1) := by decide +kernel
theorem dX10_findFar_78 : decode cX10_findFar 78 = .ok (.iadd, 1) := by decide +kernel
theorem dX10_findFar_79 : decode cX10_findFar 79 = .ok (.istore_n 3, 1) := by decide +kernel
theorem dX10_findFar_80 : decode cX10_findFar 80 = .ok (.aload_n 0, 1) := by decide +kernel
theorem dX10_findFar_81 : decode cX10_findFar 81 = .ok (.getfield 20, 3) := by decide +kernel
theorem dX10_findFar_84 : decode cX10_findFar 84 = .ok (.iload_n 2, 1) := by decide +kernel
theorem dX10_findFar_85 : decode cX10_findFar 85 = .ok (.iload_n 3, 1) := by decide +kernel
theorem dX10_findFar_86 : decode cX10_findFar 86 = .ok (.aload_n 0, 1) := by decide +kernel
theorem dX10_findFar_87 : decode cX10_findFar 87 = .ok (.getfield 20, 3) := by decide +kernel
theorem dX10_findFar_90 : decode cX10_findFar 90 = .ok (.iload_n 2, 1) := by decide +kernel
theorem dX10_findFar_91 : decode cX10_findFar 91 = .ok (.iaload, 1) := by decide +kernel
theorem dX10_findFar_92 : decode cX10_findFar 92 = .ok (.if_icmp .ge 7, 3) := by decide +kernel
theorem dX10_findFar_95 : decode cX10_findFar 95 = .ok (.iload_n 3, 1) := by decide +kernel
theorem dX10_findFar_96 : decode cX10_findFar 96 = .ok (.goto 9, 3) := by decide +kernel
theorem dX10_findFar_99 : decode cX10_findFar 99 = .ok (.aload_n 0, 1) := by decide +kernel
theorem dX10_findFar_100 : decode cX10_findFar 100 = .ok (.getfield 20, 3) := by decide +kernel
theorem dX10_findFar_103 : decode cX10_findFar 103 = .ok (.iload_n 2, 1) := by decide +kernel
theorem dX10_findFar_104 : decode cX10_findFar 104 = .ok (.iaload, 1) := by decide +kernel
theorem dX10_findFar_105 : decode cX10_findFar 105 = .ok (.iastore, 1) := by decide +kernel
theorem dX10_findFar_106 : decode cX10_findFar 106 = .ok (.iinc 2 1, 3) := by decide +kernel
theorem dX10_findFar_109 : decode cX10_findFar 109 = .ok (.goto (-61), 3) := by decide +kernel
theorem dX10_findFar_112 : decode cX10_findFar 112 = .ok (.iinc 1 1, 3) := by decide +kernel
theorem dX10_findFar_115 : decode cX10_findFar 115 = .ok (.goto (-74), 3) := by decide +kernel
theorem dX10_findFar_118 : decode cX10_findFar 118 = .ok (.return_, 1) := by decide +kernel
theorem dX10_land_0 : decode cX10_land 0 = .ok (.aload_n 0, 1) := by decide +kernel
theorem dX10_land_1 : decode cX10_land 1 = .ok (.iconst 0, 1) := by decide +kernel
theorem dX10_land_2 : decode cX10_land 2 = .ok (.putfield 98, 3) := by decide +kernel
theorem dX10_land_5 : decode cX10_land 5 = .ok (.aload_n 0, 1) := by decide +kernel
theorem dX10_land_6 : decode cX10_land 6 = .ok (.iconst 0, 1) := by decide +kernel
theorem dX10_land_7 : decode cX10_land 7 = .ok (.putfield 101, 3) := by decide +kernel
theorem dX10_land_10 : decode cX10_land 10 = .ok (.aload_n 0, 1) := by decide +kernel
theorem dX10_land_11 : decode cX10_land 11 = .ok (.iconst (-1), 1) := by decide +kernel
theorem dX10_land_12 : decode cX10_land 12 = .ok (.putfield 53, 3) := by decide +kernel
theorem dX10_land_15 : decode cX10_land 15 = .ok (.aload_n 0, 1) := by decide +kernel
theorem dX10_land_16 : decode cX10_land 16 = .ok (.iconst 0, 1) := by decide +kernel
theorem dX10_land_17 : decode cX10_land 17 = .ok (.putfield 120, 3) := by decide +kernel
theorem dX10_land_20 : decode cX10_land 20 = .ok (.aload_n 0, 1) := by decide +kernel
theorem dX10_land_21 : decode cX10_land 21 = .ok (.iconst 0, 1) := by decide +kernel
theorem dX10_land_22 : decode cX10_land 22 = .ok (.putfield 127, 3) := by decide +kernel
theorem dX10_land_25 : decode cX10_land 25 = .ok (.aload_n 0, 1) := by decide +kernel
theorem dX10_land_26 : decode cX10_land 26 = .ok (.iconst 0, 1) := by decide +kernel
theorem dX10_land_27 : decode cX10_land 27 = .ok (.putfield 130, 3) := by decide +kernel
theorem dX10_land_30 : decode cX10_land 30 = .ok (.aload_n 0, 1) := by decide +kernel
theorem dX10_land_31 : decode cX10_land 31 = .ok (.iconst 0, 1) := by decide +kernel
theorem dX10_land_32 : decode cX10_land 32 = .ok (.putfield 133, 3) := by decide +kernel
theorem dX10_land_35 : decode cX10_land 35 = .ok (.aload_n 0, 1) := by decide +kernel
theorem dX10_land_36 : decode cX10_land 36 = .ok (.iconst 0, 1) := by decide +kernel
theorem dX10_land_37 : decode cX10_land 37 = .ok (.putfield 136, 3) := by decide +kernel
theorem dX10_land_40 : decode cX10_land 40 = .ok (.aload_n 0, 1) := by decide +kernel
theorem dX10_land_41 : decode cX10_land 41 = .ok (.getfield 47, 3) := by decide +kernel
theorem dX10_land_44 : decode cX10_land 44 = .ok (.iconst 4, 1) := by decide +kernel
theorem dX10_land_45 : decode cX10_land 45 = .ok (.iconst 0, 1) := by decide +kernel
theorem dX10_land_46 : decode cX10_land 46 = .ok (.iastore, 1) := by decide +kernel
theorem dX10_land_47 : decode cX10_land 47 = .ok (.aload_n 0, 1) := by decide +kernel
theorem dX10_land_48 : decode cX10_land 48 = .ok (.getfield 47, 3) := by decide +kernel
theorem dX10_land_51 : decode cX10_land 51 = .ok (.iconst 5, 1) := by decide +kernel
theorem dX10_land_52 : decode cX10_land 52 = .ok (.iconst 2, 1) := by decide +kernel
theorem dX10_land_53 : decode cX10_land 53 = .ok (.iastore, 1) := by decide +kernel
theorem dX10_land_54 : decode cX10_land 54 = .ok (.aload_n 0, 1) := by decide +kernel
theorem dX10_land_55 : decode cX10_land 55 = .ok (.getfield 47, 3) := by decide +kernel
theorem dX10_land_58 : decode cX10_land 58 = .ok (.iconst 3, 1) := by decide +kernel
theorem dX10_land_59 : decode cX10_land 59 = .ok (.iconst 0, 1) := by decide +kernel
theorem dX10_land_60 : decode cX10_land 60 = .ok (.iastore, 1) := by decide +kernel
theorem dX10_land_61 : decode cX10_land 61 = .ok (.bipush 25, 2) := by decide +kernel
theorem dX10_land_63 : decode cX10_land 63 = .ok (.istore_n 1, 1) := by decide +kernel
theorem dX10_land_64 : decode cX10_land 64 = .ok (.iload_n 1, 1) := by decide +kernel
theorem dX10_land_65 : decode cX10_land 65 = .ok (.bipush 50, 2) := by decide +kernel
theorem dX10_land_67 : decode cX10_land 67 = .ok (.if_icmp .ge 17, 3) := by decide +kernel
theorem dX10_land_70 : decode cX10_land 70 = .ok (.aload_n 0, 1) := by decide +kernel
theorem dX10_land_71 : decode cX10_land 71 = .ok (.getfield 17, 3) := by decide +kernel
theorem dX10_land_74 : decode cX10_land 74 = .ok (.iload_n 1, 1) := by decide +kernel
theorem dX10_land_75 : decode cX10_land 75 = .ok (.ldc 156, 2) := by decide +kernel
theorem dX10_land_77 : decode cX10_land 77 = .ok (.iastore, 1) := by decide +kernel
theorem dX10_land_78 : decode cX10_land 78 = .ok (.iinc 1 1, 3) := by decide +kernel
theorem dX10_land_81 : decode cX10_land 81 = .ok (.goto (-17), 3) := by decide +kernel
theorem dX10_land_84 : decode cX10_land 84 = .ok (.aload_n 0, 1) := by decide +kernel
theorem dX10_land_85 : decode cX10_land 85 = .ok (.getfield 101, 3) := by decide +kernel
theorem dX10_land_88 : decode cX10_land 88 = .ok (.ifCond .ne 60, 3) := by decide +kernel
theorem dX10_land_91 : decode cX10_land 91 = .ok (.aload_n 0, 1) := by decide +kernel
theorem dX10_land_92 : decode cX10_land 92 = .ok (.invokevirtual 104, 3) := by decide +kernel
theorem dX10_land_95 : decode cX10_land 95 = .ok (.ifCond .lt 53, 3) := by decide +kernel
theorem dX10_land_98 : decode cX10_land 98 = .ok (.aload_n 0, 1) := by decide +kernel
theorem dX10_land_99 : decode cX10_land 99 = .ok (.invokevirtual 157, 3) := by decide +kernel
theorem dX10_land_102 : decode cX10_land 102 = .ok (.aload_n 0, 1) := by decide +kernel
theorem dX10_land_103 : decode cX10_land 103 = .ok (.getfield 101, 3) := by decide +kernel
theorem dX10_land_106 : decode cX10_land 106 = .ok (.ifCond .ne (-22), 3) := by decide +kernel
theorem dX10_land_109 : decode cX10_land 109 = .ok (.aload_n 0, 1) := by decide +kernel
theorem dX10_land_110 : decode cX10_land 110 = .ok (.aload_n 0, 1) := by decide +kernel
theorem dX10_land_111 : decode cX10_land 111 = .ok (.invokevirtual 104, 3) := by decide +kernel
theorem dX10_land_114 : decode cX10_land 114 = .ok (.bipush 59, 2) := by decide +kernel
theorem dX10_land_116 : decode cX10_land 116 = .ok (.if_icmp .ne 7, 3) := by decide +kernel
theorem dX10_land_119 : decode cX10_land 119 = .ok (.iconst 1, 1) := by decide +kernel
theorem dX10_land_120 : decode cX10_land 120 = .ok (.goto 4, 3) := by decide +kernel
theorem dX10_land_123 : decode cX10_land 123 = .ok (.iconst 0, 1) := by decide +kernel
theorem dX10_land_124 : decode cX10_land 124 = .ok (.iconst 1, 1) := by decide +kernel
theorem dX10_land_125 : decode cX10_land 125 = .ok (.aload_n 0, 1) := by decide +kernel
theorem dX10_land_126 : decode cX10_land 126 = .ok (.getfield 98, 3) := by decide +kernel
theorem dX10_land_129 : decode cX10_land 129 = .ok (.invokevirtual 115, 3) := by decide +kernel
theorem dX10_land_132 : decode cX10_land 132 = .ok (.ifCond .eq (-48), 3) := by decide +kernel
theorem dX10_land_135 : decode cX10_land 135 = .ok (.aload_n 0, 1) := by decide +kernel
theorem dX10_land_136 : decode cX10_land 136 = .ok (.dup, 1) := by decide +kernel
theorem dX10_land_137 : decode cX10_land 137 = .ok (.getfield 98, 3) := by decide +kernel
theorem dX10_land_140 : decode cX10_land 140 = .ok (.iconst 1, 1) := by decide +kernel
theorem dX10_land_141 : decode cX10_land 141 = .ok (.iadd, 1) := by decide +kernel
theorem dX10_land_142 : decode cX10_land 142 = .ok (.putfield 98, 3) := by decide +kernel
theorem dX10_land_145 : decode cX10_land 145 = .ok (.goto (-61), 3) := by decide +kernel
theorem dX10_land_148 : decode cX10_land 148 = .ok (.aload_n 0, 1) := by decide +kernel
theorem dX10_land_149 : decode cX10_land 149 = .ok (.iconst 0, 1) := by decide +kernel
theorem dX10_land_150 : decode cX10_land 150 = .ok (.putfield 94, 3) := by decide +kernel
theorem dX10_land_153 : decode cX10_land 153 = .ok (.aload_n 0, 1) := by decide +kernel
theorem dX10_land_154 : decode cX10_land 154 = .ok (.getfield 101, 3) := by decide +kernel
theorem dX10_land_157 : decode cX10_land 157 = .ok (.ifCond .le 11, 3) := by decide +kernel
theorem dX10_land_160 : decode cX10_land 160 = .ok (.bipush (-10), 2) := by decide +kernel
theorem dX10_land_162 : decode cX10_land 162 = .ok (.aload_n 0, 1) := by decide +kernel
theorem dX10_land_163 : decode cX10_land 163 = .ok (.getfield 101, 3) := by decide +kernel
theorem dX10_land_166 : decode cX10_land 166 = .ok (.isub, 1) := by decide +kernel
theorem dX10_land_167 : decode cX10_land 167 = .ok (.ireturn, 1) := by decide +kernel
theorem dX10_land_168 : decode cX10_land 168 = .ok (.aload_n 0, 1) := by decide +kernel
theorem dX10_land_169 : decode cX10_land 169 = .ok (.invokevirtual 160, 3) := by decide +kernel
theorem dX10_land_172 : decode cX10_land 172 = .ok (.aload_n 0, 1) := by decide +kernel
theorem dX10_land_173 : decode cX10_land 173 = .ok (.invokevirtual 163, 3) := by decide +kernel
theorem dX10_land_176 : decode cX10_land 176 = .ok (.aload_n 0, 1) := by decide +kernel
theorem dX10_land_177 : decode cX10_land 177 = .ok (.getfield 166, 3) := by decide +kernel
theorem dX10_land_180 : decode cX10_land 180 = .ok (.ireturn, 1) := by decide +kernel
theorem dX10_take_0 : decode cX10_take 0 = .ok (.aload_n 0, 1) := by decide +kernel
theorem dX10_take_1 : decode cX10_take 1 = .ok (.aload_n 0, 1) := by decide +kernel
theorem dX10_take_2 : decode cX10_take 2 = .ok (.getfield 120, 3) := by decide +kernel
theorem dX10_take_5 : decode cX10_take 5 = .ok (.putfield 166, 3) := by decide +kernel
theorem dX10_take_8 : decode cX10_take 8 = .ok (.aload_n 0, 1) := by decide +kernel
theorem dX10_take_9 : decode cX10_take 9 = .ok (.aload_n 0, 1) := by decide +kernel
theorem dX10_take_10 : decode cX10_take 10 = .ok (.getfield 127, 3) := by decide +kernel
theorem dX10_take_13 : decode cX10_take 13 = .ok (.putfield 169, 3) := by decide +kernel
theorem dX10_take_16 : decode cX10_take 16 = .ok (.aload_n 0, 1) := by decide +kernel
theorem dX10_take_17 : decode cX10_take 17 = .ok (.aload_n 0, 1) := by decide +kernel
theorem dX10_take_18 : decode cX10_take 18 = .ok (.getfield 130, 3) := by decide +kernel
theorem dX10_take_21 : decode cX10_take 21 = .ok (.putfield 172, 3) := by decide +kernel
theorem dX10_take_24 : decode cX10_take 24 = .ok (.aload_n 0, 1) := by decide +kernel
theorem dX10_take_25 : decode cX10_take 25 = .ok (.aload_n 0, 1) := by decide +kernel
theorem dX10_take_26 : decode cX10_take 26 = .ok (.getfield 133, 3) := by decide +kernel
theorem dX10_take_29 : decode cX10_take 29 = .ok (.putfield 175, 3) := by decide +kernel
theorem dX10_take_32 : decode cX10_take 32 = .ok (.iconst 0, 1) := by decide +kernel
theorem dX10_take_33 : decode cX10_take 33 = .ok (.istore_n 1, 1) := by decide +kernel
theorem dX10_take_34 : decode cX10_take 34 = .ok (.iload_n 1, 1) := by decide +kernel
theorem dX10_take_35 : decode cX10_take 35 = .ok (.bipush 25, 2) := by decide +kernel
theorem dX10_take_37 : decode cX10_take 37 = .ok (.if_icmp .ge 24, 3) := by decide +kernel
theorem dX10_take_40 : decode cX10_take 40 = .ok (.aload_n 0, 1) := by decide +kernel
theorem dX10_take_41 : decode cX10_take 41 = .ok (.getfield 17, 3) := by decide +kernel
theorem dX10_take_44 : decode cX10_take 44 = .ok (.iload_n 1, 1) := by decide +kernel
theorem dX10_take_45 : decode cX10_take 45 = .ok (.aload_n 0, 1) := by decide +kernel
theorem dX10_take_46 : decode cX10_take 46 = .ok (.getfield 17, 3) := by decide +kernel
theorem dX10_take_49 : decode cX10_take 49 = .ok (.bipush 25, 2) := by decide +kernel
theorem dX10_take_51 : decode cX10_take 51 = .ok (.iload_n 1, 1) := by decide +kernel
theorem dX10_take_52 : decode cX10_take 52 = .ok (.iadd, 1) := by decide +kernel
theorem dX10_take_53 : decode cX10_take 53 = .ok (.iaload, 1) := by decide +kernel
theorem dX10_take_54 : decode cX10_take 54 = .ok (.iastore, 1) := by decide +kernel
theorem dX10_take_55 : decode cX10_take 55 = .ok (.iinc 1 1, 3) := by decide +kernel
theorem dX10_take_58 : decode cX10_take 58 = .ok (.goto (-24), 3) := by decide +kernel
theorem dX10_take_61 : decode cX10_take 61 = .ok (.iconst 0, 1) := by decide +kernel
theorem dX10_take_62 : decode cX10_take 62 = .ok (.istore_n 1, 1) := by decide +kernel
theorem dX10_take_63 : decode cX10_take 63 = .ok (.iload_n 1, 1) := by decide +kernel
theorem dX10_take_64 : decode cX10_take 64 = .ok (.iconst 3, 1) := by decide +kernel
theorem dX10_take_65 : decode cX10_take 65 = .ok (.if_icmp .ge 51, 3) := by decide +kernel
theorem dX10_take_68 : decode cX10_take 68 = .ok (.aload_n 0, 1) := by decide +kernel
theorem dX10_take_69 : decode cX10_take 69 = .ok (.getfield 23, 3) := by decide +kernel
theorem dX10_take_72 : decode cX10_take 72 = .ok (.iload_n 1, 1) := by decide +kernel
theorem dX10_take_73 : decode cX10_take 73 = .ok (.aload_n 0, 1) := by decide +kernel
theorem dX10_take_74 : decode cX10_take 74 = .ok (.getfield 23, 3) := by decide +kernel
theorem dX10_take_77 : decode cX10_take 77 = .ok (.iconst 3, 1) := by decide +kernel
theorem dX10_take_78 : decode cX10_take 78 = .ok (.iload_n 1, 1) := by decide +kernel
theorem dX10_take_79 : decode cX10_take 79 = .ok (.iadd, 1) := by decide +kernel
theorem dX10_take_80 : decode cX10_take 80 = .ok (.iaload, 1) := by decide +kernel
theorem dX10_take_81 : decode cX10_take 81 = .ok (.iastore, 1) := by decide +kernel
theorem dX10_take_82 : decode cX10_take 82 = .ok (.aload_n 0, 1) := by decide +kernel
theorem dX10_take_83 : decode cX10_take 83 = .ok (.getfield 26, 3) := by decide +kernel
theorem dX10_take_86 : decode cX10_take 86 = .ok (.iload_n 1, 1) := by decide +kernel
theorem dX10_take_87 : decode cX10_take 87 = .ok (.aload_n 0, 1) := by decide +kernel
theorem dX10_take_88 : decode cX10_take 88 = .ok (.getfield 26, 3) := by decide +kernel
theorem dX10_take_91 : decode cX10_take 91 = .ok (.iconst 3, 1) := by decide +kernel
theorem dX10_take_92 : decode cX10_take 92 = .ok (.iload_n 1, 1) := by decide +kernel
theorem dX10_take_93 : decode cX10_take 93 = .ok (.iadd, 1) := by decide +kernel
theorem dX10_take_94 : decode cX10_take 94 = .ok (.iaload, 1) := by decide +kernel
theorem dX10_take_95 : decode cX10_take 95 = .ok (.iastore, 1) := by decide +kernel
theorem dX10_take_96 : decode cX10_take 96 = .ok (.aload_n 0, 1) := by decide +kernel
theorem dX10_take_97 : decode cX10_take 97 = .ok (.getfield 47, 3) := by decide +kernel
theorem dX10_take_100 : decode cX10_take 100 = .ok (.iload_n 1, 1) := by decide +kernel
theorem dX10_take_101 : decode cX10_take 101 = .ok (.aload_n 0, 1) := by decide +kernel
theorem dX10_take_102 : decode cX10_take 102 = .ok (.getfield 47, 3) := by decide +kernel
theorem dX10_take_105 : decode cX10_take 105 = .ok (.iconst 3, 1) := by decide +kernel
theorem dX10_take_106 : decode cX10_take 106 = .ok (.iload_n 1, 1) := by decide +kernel
theorem dX10_take_107 : decode cX10_take 107 = .ok (.iadd, 1) := by decide +kernel
theorem dX10_take_108 : decode cX10_take 108 = .ok (.iaload, 1) := by decide +kernel
theorem dX10_take_109 : decode cX10_take 109 = .ok (.iastore, 1) := by decide +kernel
theorem dX10_take_110 : decode cX10_take 110 = .ok (.iinc 1 1, 3) := by decide +kernel
theorem dX10_take_113 : decode cX10_take 113 = .ok (.goto (-50), 3) := by decide +kernel
theorem dX10_take_116 : decode cX10_take 116 = .ok (.iconst 0, 1) := by decide +kernel
theorem dX10_take_117 : decode cX10_take 117 = .ok (.istore_n 1, 1) := by decide +kernel
theorem dX10_take_118 : decode cX10_take 118 = .ok (.iload_n 1, 1) := by decide +kernel
theorem dX10_take_119 : decode cX10_take 119 = .ok (.bipush 7, 2) := by decide +kernel
theorem dX10_take_121 : decode cX10_take 121 = .ok (.if_icmp .ge 99, 3) := by decide +kernel
theorem dX10_take_124 : decode cX10_take 124 = .ok (.aload_n 0, 1) := by decide +kernel
theorem dX10_take_125 : decode cX10_take 125 = .ok (.getfield 29, 3) := by decide +kernel
theorem dX10_take_128 : decode cX10_take 128 = .ok (.iload_n 1, 1) := by decide +kernel
theorem dX10_take_129 : decode cX10_take 129 = .ok (.aload_n 0, 1) := by decide +kernel
theorem dX10_take_130 : decode cX10_take 130 = .ok (.getfield 29, 3) := by decide +kernel
theorem dX10_take_133 : decode cX10_take 133 = .ok (.bipush 7, 2) := by decide +kernel
theorem dX10_take_135 : decode cX10_take 135 = .ok (.iload_n 1, 1) := by decide +kernel
theorem dX10_take_136 : decode cX10_take 136 = .ok (.iadd, 1) := by decide +kernel
theorem dX10_take_137 : decode cX10_take 137 = .ok (.iaload, 1) := by decide +kernel
theorem dX10_take_138 : decode cX10_take 138 = .ok (.iastore, 1) := by decide +kernel
theorem dX10_take_139 : decode cX10_take 139 = .ok (.aload_n 0, 1) := by decide +kernel
theorem dX10_take_140 : decode cX10_take 140 = .ok (.getfield 32, 3) := by decide +kernel
theorem dX10_take_143 : decode cX10_take 143 = .ok (.iload_n 1, 1) := by decide +kernel
theorem dX10_take_144 : decode cX10_take 144 = .ok (.aload_n 0, 1) := by decide +kernel
theorem dX10_take_145 : decode cX10_take 145 = .ok (.getfield 32, 3) := by decide +kernel
theorem dX10_take_148 : decode cX10_take 148 = .ok (.bipush 7, 2) := by decide +kernel
theorem dX10_take_150 : decode cX10_take 150 = .ok (.iload_n 1, 1) := by decide +kernel
theorem dX10_take_151 : decode cX10_take 151 = .ok (.iadd, 1) := by decide +kernel
theorem dX10_take_152 : decode cX10_take 152 = .ok (.iaload, 1) := by decide +kernel
theorem dX10_take_153 : decode cX10_take 153 = .ok (.iastore, 1) := by decide +kernel
theorem dX10_take_154 : decode cX10_take 154 = .ok (.aload_n 0, 1) := by decide +kernel
theorem dX10_take_155 : decode cX10_take 155 = .ok (.getfield 35, 3) := by decide +kernel
theorem dX10_take_158 : decode cX10_take 158 = .ok (.iload_n 1, 1) := by decide +kernel
theorem dX10_take_159 : decode cX10_take 159 = .ok (.aload_n 0, 1) := by decide +kernel
theorem dX10_take_160 : decode cX10_take 160 = .ok (.getfield 35, 3) := by decide +kernel
theorem dX10_take_163 : decode cX10_take 163 = .ok (.bipush 7, 2) := by decide +kernel
theorem dX10_take_165 : decode cX10_take 165 = .ok (.iload_n 1, 1) := by decide +kernel
theorem dX10_take_166 : decode cX10_take 166 = .ok (.iadd, 1) := by decide +kernel
theorem dX10_take_167 : decode cX10_take 167 = .ok (.iaload, 1) := by decide +kernel
theorem dX10_take_168 : decode cX10_take 168 = .ok (.iastore, 1) := by decide +kernel
theorem dX10_take_169 : decode cX10_take 169 = .ok (.aload_n 0, 1) := by decide +kernel
theorem dX10_take_170 : decode cX10_take 170 = .ok (.getfield 38, 3) := by decide +kernel
theorem dX10_take_173 : decode cX10_take 173 = .ok (.iload_n 1, 1) := by decide +kernel
theorem dX10_take_174 : decode cX10_take 174 = .ok (.aload_n 0, 1) := by decide +kernel
theorem dX10_take_175 : decode cX10_take 175 = .ok (.getfield 38, 3) := by decide +kernel
theorem dX10_take_178 : decode cX10_take 178 = .ok (.bipush 7, 2) := by decide +kernel
theorem dX10_take_180 : decode cX10_take 180 = .ok (.iload_n 1, 1) := by decide +kernel
theorem dX10_take_181 : decode cX10_take 181 = .ok (.iadd, 1) := by decide +kernel
theorem dX10_take_182 : decode cX10_take 182 = .ok (.iaload, 1) := by decide +kernel
theorem dX10_take_183 : decode cX10_take 183 = .ok (.iastore, 1) := by decide +kernel
theorem dX10_take_184 : decode cX10_take 184 = .ok (.aload_n 0, 1) := by decide +kernel
theorem dX10_take_185 : decode cX10_take 185 = .ok (.getfield 41, 3) := by decide +kernel
theorem dX10_take_188 : decode cX10_take 188 = .ok (.iload_n 1, 1) := by decide +kernel
theorem dX10_take_189 : decode cX10_take 189 = .ok (.aload_n 0, 1) := by decide +kernel
theorem dX10_take_190 : decode cX10_take 190 = .ok (.getfield 41, 3) := by decide +kernel
theorem dX10_take_193 : decode cX10_take 193 = .ok (.bipush 7, 2) := by decide +kernel
theorem dX10_take_195 : decode cX10_take 195 = .ok (.iload_n 1, 1) := by decide +kernel
theorem dX10_take_196 : decode cX10_take 196 = .ok (.iadd, 1) := by decide +kernel
theorem dX10_take_197 : decode cX10_take 197 = .ok (.iaload, 1) := by decide +kernel
theorem dX10_take_198 : decode cX10_take 198 = .ok (.iastore, 1) := by decide +kernel
theorem dX10_take_199 : decode cX10_take 199 = .ok (.aload_n 0, 1) := by decide +kernel
theorem dX10_take_200 : decode cX10_take 200 = .ok (.getfield 44, 3) := by decide +kernel
theorem dX10_take_203 : decode cX10_take 203 = .ok (.iload_n 1, 1) := by decide +kernel
theorem dX10_take_204 : decode cX10_take 204 = .ok (.aload_n 0, 1) := by decide +kernel
theorem dX10_take_205 : decode cX10_take 205 = .ok (.getfield 44, 3) := by decide +kernel
theorem dX10_take_208 : decode cX10_take 208 = .ok (.bipush 7, 2) := by decide +kernel
theorem dX10_take_210 : decode cX10_take 210 = .ok (.iload_n 1, 1) := by decide +kernel
theorem dX10_take_211 : decode cX10_take 211 = .ok (.iadd, 1) := by decide +kernel
theorem dX10_take_212 : decode cX10_take 212 = .ok (.iaload, 1) := by decide +kernel
theorem dX10_take_213 : decode cX10_take 213 = .ok (.iastore, 1) := by decide +kernel
theorem dX10_take_214 : decode cX10_take 214 = .ok (.iinc 1 1, 3) := by decide +kernel
theorem dX10_take_217 : decode cX10_take 217 = .ok (.goto (-99), 3) := by decide +kernel
theorem dX10_take_220 : decode cX10_take 220 = .ok (.aload_n 0, 1) := by decide +kernel
theorem dX10_take_221 : decode cX10_take 221 = .ok (.invokevirtual 178, 3) := by decide +kernel
theorem dX10_take_224 : decode cX10_take 224 = .ok (.return_, 1) := by decide +kernel
theorem dX10_begin_0 : decode cX10_begin 0 = .ok (.aload_n 0, 1) := by decide +kernel
theorem dX10_begin_1 : decode cX10_begin 1 = .ok (.getfield 7, 3) := by decide +kernel
theorem dX10_begin_4 : decode cX10_begin 4 = .ok (.bipush 38, 2) := by decide +kernel
theorem dX10_begin_6 : decode cX10_begin 6 = .ok (.iaload, 1) := by decide +kernel
theorem dX10_begin_7 : decode cX10_begin 7 = .ok (.istore_n 1, 1) := by decide +kernel
theorem dX10_begin_8 : decode cX10_begin 8 = .ok (.iconst 0, 1) := by decide +kernel
theorem dX10_begin_9 : decode cX10_begin 9 = .ok (.istore_n 2, 1) := by decide +kernel
theorem dX10_begin_10 : decode cX10_begin 10 = .ok (.iload_n 2, 1) := by decide +kernel
theorem dX10_begin_11 : decode cX10_begin 11 = .ok (.bipush 40, 2) := by decide +kernel
theorem dX10_begin_13 : decode cX10_begin 13 = .ok (.if_icmp .ge 16, 3) := by decide +kernel
theorem dX10_begin_16 : decode cX10_begin 16 = .ok (.aload_n 0, 1) := by decide +kernel
theorem dX10_begin_17 : decode cX10_begin 17 = .ok (.getfield 7, 3) := by decide +kernel
theorem dX10_begin_20 : decode cX10_begin 20 = .ok (.iload_n 2, 1) := by decide +kernel
theorem dX10_begin_21 : decode cX10_begin 21 = .ok (.iconst 0, 1) := by decide +kernel
theorem dX10_begin_22 : decode cX10_begin 22 = .ok (.iastore, 1) := by decide +kernel
theorem dX10_begin_23 : decode cX10_begin 23 = .ok (.iinc 2 1, 3) := by decide +kernel
theorem dX10_begin_26 : decode cX10_begin 26 = .ok (.goto (-16), 3) := by decide +kernel
theorem dX10_begin_29 : decode cX10_begin 29 = .ok (.aload_n 0, 1) := by decide +kernel
theorem dX10_begin_30 : decode cX10_begin 30 = .ok (.getfield 7, 3) := by decide +kernel
theorem dX10_begin_33 : decode cX10_begin 33 = .ok (.bipush 38, 2) := by decide +kernel
theorem dX10_begin_35 : decode cX10_begin 35 = .ok (.iload_n 1, 1) := by decide +kernel
theorem dX10_begin_36 : decode cX10_begin 36 = .ok (.iastore, 1) := by decide +kernel
theorem dX10_begin_37 : decode cX10_begin 37 = .ok (.iconst 0, 1) := by decide +kernel
theorem dX10_begin_38 : decode cX10_begin 38 = .ok (.istore_n 2, 1) := by decide +kernel
theorem dX10_begin_39 : decode cX10_begin 39 = .ok (.iload_n 2, 1) := by decide +kernel
theorem dX10_begin_40 : decode cX10_begin 40 = .ok (.bipush 7, 2) := by decide +kernel
theorem dX10_begin_42 : decode cX10_begin 42 = .ok (.if_icmp .ge 59, 3) := by decide +kernel
theorem dX10_begin_45 : decode cX10_begin 45 = .ok (.aload_n 0, 1) := by decide +kernel
theorem dX10_begin_46 : decode cX10_begin 46 = .ok (.getfield 7, 3) := by decide +kernel
theorem dX10_begin_49 : decode cX10_begin 49 = .ok (.bipush 7, 2) := by decide +kernel
theorem dX10_begin_51 : decode cX10_begin 51 = .ok (.iload_n 2, 1) := by decide +kernel
theorem dX10_begin_52 : decode cX10_begin 52 = .ok (.iadd, 1) := by decide +kernel
theorem dX10_begin_53 : decode cX10_begin 53 = .ok (.iconst (-1), 1) := by decide +kernel
theorem dX10_begin_54 : decode cX10_begin 54 = .ok (.iastore, 1) := by decide +kernel
theorem dX10_begin_55 : decode cX10_begin 55 = .ok (.aload_n 0, 1) := by decide +kernel
theorem dX10_begin_56 : decode cX10_begin 56 = .ok (.getfield 7, 3) := by decide +kernel
theorem dX10_begin_59 : decode cX10_begin 59 = .ok (.bipush 14, 2) := by decide +kernel
theorem dX10_begin_61 : decode cX10_begin 61 = .ok (.iload_n 2, 1) := by decide +kernel
theorem dX10_begin_62 : decode cX10_begin 62 = .ok (.iadd, 1) := by decide +kernel
theorem dX10_begin_63 : decode cX10_begin 63 = .ok (.aload_n 0, 1) := by decide +kernel
theorem dX10_begin_64 : decode cX10_begin 64 = .ok (.getfield 29, 3) := by decide +kernel
theorem dX10_begin_67 : decode cX10_begin 67 = .ok (.iload_n 2, 1) := by decide +kernel
theorem dX10_begin_68 : decode cX10_begin 68 = .ok (.iaload, 1) := by decide +kernel
theorem dX10_begin_69 : decode cX10_begin 69 = .ok (.iastore, 1) := by decide +kernel
theorem dX10_begin_70 : decode cX10_begin 70 = .ok (.aload_n 0, 1) := by decide +kernel
theorem dX10_begin_71 : decode cX10_begin 71 = .ok (.getfield 7, 3) := by decide +kernel
theorem dX10_begin_74 : decode cX10_begin 74 = .ok (.bipush 21, 2) := by decide +kernel
theorem dX10_begin_76 : decode cX10_begin 76 = .ok (.iload_n 2, 1) := by decide +kernel
theorem dX10_begin_77 : decode cX10_begin 77 = .ok (.iadd, 1) := by decide +kernel
theorem dX10_begin_78 : decode cX10_begin 78 = .ok (.aload_n 0, 1) := by decide +kernel
theorem dX10_begin_79 : decode cX10_begin 79 = .ok (.getfield 44, 3) := by decide +kernel
theorem dX10_begin_82 : decode cX10_begin 82 = .ok (.iload_n 2, 1) := by decide +kernel
theorem dX10_begin_83 : decode cX10_begin 83 = .ok (.iaload, 1) := by decide +kernel
theorem dX10_begin_84 : decode cX10_begin 84 = .ok (.bipush 9, 2) := by decide +kernel
theorem dX10_begin_86 : decode cX10_begin 86 = .ok (.if_icmp .ne 7, 3) := by decide +kernel
theorem dX10_begin_89 : decode cX10_begin 89 = .ok (.iconst 0, 1) := by decide +kernel
theorem dX10_begin_90 : decode cX10_begin 90 = .ok (.goto 4, 3) := by decide +kernel
theorem dX10_begin_93 : decode cX10_begin 93 = .ok (.iconst (-1), 1) := by decide +kernel
theorem dX10_begin_94 : decode cX10_begin 94 = .ok (.iastore, 1) := by decide +kernel
theorem dX10_begin_95 : decode cX10_begin 95 = .ok (.iinc 2 1, 3) := by decide +kernel
theorem dX10_begin_98 : decode cX10_begin 98 = .ok (.goto (-59), 3) := by decide +kernel
theorem dX10_begin_101 : decode cX10_begin 101 = .ok (.iconst 0, 1) := by decide +kernel
theorem dX10_begin_102 : decode cX10_begin 102 = .ok (.istore_n 2, 1) := by decide +kernel
theorem dX10_begin_103 : decode cX10_begin 103 = .ok (.iload_n 2, 1) := by decide +kernel
theorem dX10_begin_104 : decode cX10_begin 104 = .ok (.iconst 3, 1) := by decide +kernel
theorem dX10_begin_105 : decode cX10_begin 105 = .ok (.if_icmp .ge 24, 3) := by decide +kernel
theorem dX10_begin_108 : decode cX10_begin 108 = .ok (.aload_n 0, 1) := by decide +kernel
theorem dX10_begin_109 : decode cX10_begin 109 = .ok (.getfield 7, 3) := by decide +kernel
theorem dX10_begin_112 : decode cX10_begin 112 = .ok (.bipush 28, 2) := by decide +kernel
theorem dX10_begin_114 : decode cX10_begin 114 = .ok (.iload_n 2, 1) := by decide +kernel
theorem dX10_begin_115 : decode cX10_begin 115 = .ok (.iadd, 1) := by decide +kernel
theorem dX10_begin_116 : decode cX10_begin 116 = .ok (.aload_n 0, 1) := by decide +kernel
theorem dX10_begin_117 : decode cX10_begin 117 = .ok (.getfield 23, 3) := by decide +kernel
theorem dX10_begin_120 : decode cX10_begin 120 = .ok (.iload_n 2, 1) := by decide +kernel
theorem dX10_begin_121 : decode cX10_begin 121 = .ok (.iaload, 1) := by decide +kernel
theorem dX10_begin_122 : decode cX10_begin 122 = .ok (.iastore, 1) := by decide +kernel
theorem dX10_begin_123 : decode cX10_begin 123 = .ok (.iinc 2 1, 3) := by decide +kernel
theorem dX10_begin_126 : decode cX10_begin 126 = .ok (.goto (-23), 3) := by decide +kernel
theorem dX10_begin_129 : decode cX10_begin 129 = .ok (.aload_n 0, 1) := by decide +kernel
theorem dX10_begin_130 : decode cX10_begin 130 = .ok (.iconst 0, 1) := by decide +kernel
theorem dX10_begin_131 : decode cX10_begin 131 = .ok (.putfield 181, 3) := by decide +kernel
theorem dX10_begin_134 : decode cX10_begin 134 = .ok (.aload_n 0, 1) := by decide +kernel
theorem dX10_begin_135 : decode cX10_begin 135 = .ok (.iconst 0, 1) := by decide +kernel
theorem dX10_begin_136 : decode cX10_begin 136 = .ok (.putfield 184, 3) := by decide +kernel
theorem dX10_begin_139 : decode cX10_begin 139 = .ok (.aload_n 0, 1) := by decide +kernel
theorem dX10_begin_140 : decode cX10_begin 140 = .ok (.getfield 13, 3) := by decide +kernel
theorem dX10_begin_143 : decode cX10_begin 143 = .ok (.iconst 0, 1) := by decide +kernel
theorem dX10_begin_144 : decode cX10_begin 144 = .ok (.iconst 0, 1) := by decide +kernel
theorem dX10_begin_145 : decode cX10_begin 145 = .ok (.bastore, 1) := by decide +kernel
theorem dX10_begin_146 : decode cX10_begin 146 = .ok (.aload_n 0, 1) := by decide +kernel
theorem dX10_begin_147 : decode cX10_begin 147 = .ok (.getfield 13, 3) := by decide +kernel
theorem dX10_begin_150 : decode cX10_begin 150 = .ok (.iconst 1, 1) := by decide +kernel
theorem dX10_begin_151 : decode cX10_begin 151 = .ok (.iconst 0, 1) := by decide +kernel
theorem dX10_begin_152 : decode cX10_begin 152 = .ok (.bastore, 1) := by decide +kernel
theorem dX10_begin_153 : decode cX10_begin 153 = .ok (.return_, 1) := by decide +kernel
theorem dX10_fault_0 : decode cX10_fault 0 = .ok (.aload_n 0, 1) := by decide +kernel
theorem dX10_fault_1 : decode cX10_fault 1 = .ok (.getfield 53, 3) := by decide +kernel
theorem dX10_fault_4 : decode cX10_fault 4 = .ok (.ireturn, 1) := by decide +kernel
theorem dX10_isKeeper_0 : decode cX10_isKeeper 0 = .ok (.iload_n 1, 1) := by decide +kernel
theorem dX10_isKeeper_1 : decode cX10_isKeeper 1 = .ok (.i2l, 1) := by decide +kernel
theorem dX10_isKeeper_2 : decode cX10_isKeeper 2 = .ok (.lconst 0, 1) := by decide +kernel
theorem dX10_isKeeper_3 : decode cX10_isKeeper 3 = .ok (.aload_n 0, 1) := by decide +kernel
theorem dX10_isKeeper_4 : decode cX10_isKeeper 4 = .ok (.getfield 172, 3) := by decide +kernel
theorem dX10_isKeeper_7 : decode cX10_isKeeper 7 = .ok (.iconst 1, 1) := by decide +kernel
theorem dX10_isKeeper_8 : decode cX10_isKeeper 8 = .ok (.isub, 1) := by decide +kernel
theorem dX10_isKeeper_9 : decode cX10_isKeeper 9 = .ok (.i2l, 1) := by decide +kernel
theorem dX10_isKeeper_10 : decode cX10_isKeeper 10 = .ok (.invokestatic 89, 3) := by decide +kernel
theorem dX10_isKeeper_13 : decode cX10_isKeeper 13 = .ok (.ireturn, 1) := by decide +kernel
theorem dX10_isPromise_0 : decode cX10_isPromise 0 = .ok (.iload_n 1, 1) := by decide +kernel
theorem dX10_isPromise_1 : decode cX10_isPromise 1 = .ok (.i2l, 1) := by decide +kernel
theorem dX10_isPromise_2 : decode cX10_isPromise 2 = .ok (.lconst 0, 1) := by decide +kernel
theorem dX10_isPromise_3 : decode cX10_isPromise 3 = .ok (.aload_n 0, 1) := by decide +kernel
theorem dX10_isPromise_4 : decode cX10_isPromise 4 = .ok (.getfield 175, 3) := by decide +kernel
theorem dX10_isPromise_7 : decode cX10_isPromise 7 = .ok (.iconst 1, 1) := by decide +kernel
theorem dX10_isPromise_8 : decode cX10_isPromise 8 = .ok (.isub, 1) := by decide +kernel
theorem dX10_isPromise_9 : decode cX10_isPromise 9 = .ok (.i2l, 1) := by decide +kernel
theorem dX10_isPromise_10 : decode cX10_isPromise 10 = .ok (.invokestatic 89, 3) := by decide +kernel
theorem dX10_isPromise_13 : decode cX10_isPromise 13 = .ok (.ireturn, 1) := by decide +kernel
theorem dX10_isTown_0 : decode cX10_isTown 0 = .ok (.iload_n 1, 1) := by decide +kernel
theorem dX10_isTown_1 : decode cX10_isTown 1 = .ok (.i2l, 1) := by decide +kernel
theorem dX10_isTown_2 : decode cX10_isTown 2 = .ok (.lconst 0, 1) := by decide +kernel
theorem dX10_isTown_3 : decode cX10_isTown 3 = .ok (.aload_n 0, 1) := by decide +kernel
theorem dX10_isTown_4 : decode cX10_isTown 4 = .ok (.getfield 166, 3) := by decide +kernel
theorem dX10_isTown_7 : decode cX10_isTown 7 = .ok (.iconst 1, 1) := by decide +kernel
theorem dX10_isTown_8 : decode cX10_isTown 8 = .ok (.isub, 1) := by decide +kernel
theorem dX10_isTown_9 : decode cX10_isTown 9 = .ok (.i2l, 1) := by decide +kernel
theorem dX10_isTown_10 : decode cX10_isTown 10 = .ok (.invokestatic 89, 3) := by decide +kernel
theorem dX10_isTown_13 : decode cX10_isTown 13 = .ok (.ireturn, 1) := by decide +kernel
theorem dX10_isWinter_0 : decode cX10_isWinter 0 = .ok (.aload_n 0, 1) := by decide +kernel
theorem dX10_isWinter_1 : decode cX10_isWinter 1 = .ok (.getfield 47, 3) := by decide +kernel
theorem dX10_isWinter_4 : decode cX10_isWinter 4 = .ok (.iconst 2, 1) := by decide +kernel
theorem dX10_isWinter_5 : decode cX10_isWinter 5 = .ok (.iaload, 1) := by decide +kernel
theorem dX10_isWinter_6 : decode cX10_isWinter 6 = .ok (.iconst 2, 1) := by decide +kernel
theorem dX10_isWinter_7 : decode cX10_isWinter 7 = .ok (.if_icmp .ge 7, 3) := by decide +kernel
theorem dX10_isWinter_10 : decode cX10_isWinter 10 = .ok (.iconst 2, 1) := by decide +kernel
theorem dX10_isWinter_11 : decode cX10_isWinter 11 = .ok (.goto 9, 3) := by decide +kernel
theorem dX10_isWinter_14 : decode cX10_isWinter 14 = .ok (.aload_n 0, 1) := by decide +kernel
theorem dX10_isWinter_15 : decode cX10_isWinter 15 = .ok (.getfield 47, 3) := by decide +kernel
theorem dX10_isWinter_18 : decode cX10_isWinter 18 = .ok (.iconst 2, 1) := by decide +kernel
theorem dX10_isWinter_19 : decode cX10_isWinter 19 = .ok (.iaload, 1) := by decide +kernel
theorem dX10_isWinter_20 : decode cX10_isWinter 20 = .ok (.istore_n 2, 1) := by decide +kernel
theorem dX10_isWinter_21 : decode cX10_isWinter 21 = .ok (.iload_n 1, 1) := by decide +kernel
theorem dX10_isWinter_22 : decode cX10_isWinter 22 = .ok (.aload_n 0, 1) := by decide +kernel
theorem dX10_isWinter_23 : decode cX10_isWinter 23 = .ok (.getfield 47, 3) := by decide +kernel
theorem dX10_isWinter_26 : decode cX10_isWinter 26 = .ok (.iconst 0, 1) := by decide +kernel
theorem dX10_isWinter_27 : decode cX10_isWinter 27 = .ok (.iaload, 1) := by decide +kernel
theorem dX10_isWinter_28 : decode cX10_isWinter 28 = .ok (.isub, 1) := by decide +kernel
theorem dX10_isWinter_29 : decode cX10_isWinter 29 = .ok (.iload_n 2, 1) := by decide +kernel
theorem dX10_isWinter_30 : decode cX10_isWinter 30 = .ok (.irem, 1) := by decide +kernel
theorem dX10_isWinter_31 : decode cX10_isWinter 31 = .ok (.iload_n 2, 1) := by decide +kernel
theorem dX10_isWinter_32 : decode cX10_isWinter 32 = .ok (.iadd, 1) := by decide +kernel
theorem dX10_isWinter_33 : decode cX10_isWinter 33 = .ok (.iload_n 2, 1) := by decide +kernel
theorem dX10_isWinter_34 : decode cX10_isWinter 34 = .ok (.irem, 1) := by decide +kernel
theorem dX10_isWinter_35 : decode cX10_isWinter 35 = .ok (.aload_n 0, 1) := by decide +kernel
theorem dX10_isWinter_36 : decode cX10_isWinter 36 = .ok (.getfield 47, 3) := by decide +kernel
theorem dX10_isWinter_39 : decode cX10_isWinter 39 = .ok (.iconst 1, 1) := by decide +kernel
theorem dX10_isWinter_40 : decode cX10_isWinter 40 = .ok (.iaload, 1) := by decide +kernel
theorem dX10_isWinter_41 : decode cX10_isWinter 41 = .ok (.if_icmp .ge 7, 3) := by decide +kernel
theorem dX10_isWinter_44 : decode cX10_isWinter 44 = .ok (.iconst 1, 1) := by decide +kernel
theorem dX10_isWinter_45 : decode cX10_isWinter 45 = .ok (.goto 4, 3) := by decide +kernel
theorem dX10_isWinter_48 : decode cX10_isWinter 48 = .ok (.iconst 0, 1) := by decide +kernel
theorem dX10_isWinter_49 : decode cX10_isWinter 49 = .ok (.ireturn, 1) := by decide +kernel
theorem dX10_ripeBy_0 : decode cX10_ripeBy 0 = .ok (.iload_n 2, 1) := by decide +kernel
theorem dX10_ripeBy_1 : decode cX10_ripeBy 1 = .ok (.istore_n 3, 1) := by decide +kernel
theorem dX10_ripeBy_2 : decode cX10_ripeBy 2 = .ok (.iload_n 1, 1) := by decide +kernel
theorem dX10_ripeBy_3 : decode cX10_ripeBy 3 = .ok (.istore 4, 2) := by decide +kernel
theorem dX10_ripeBy_5 : decode cX10_ripeBy 5 = .ok (.iload 4, 2) := by decide +kernel
theorem dX10_ripeBy_7 : decode cX10_ripeBy 7 = .ok (.ifCond .le 30, 3) := by decide +kernel
theorem dX10_ripeBy_10 : decode cX10_ripeBy 10 = .ok (.iload 4, 2) := by decide +kernel
theorem dX10_ripeBy_12 : decode cX10_ripeBy 12 = .ok (.aload_n 0, 1) := by decide +kernel
theorem dX10_ripeBy_13 : decode cX10_ripeBy 13 = .ok (.iload_n 3, 1) := by decide +kernel
theorem dX10_ripeBy_14 : decode cX10_ripeBy 14 = .ok (.invokevirtual 187, 3) := by decide +kernel
theorem dX10_ripeBy_17 : decode cX10_ripeBy 17 = .ok (.ifCond .ne 7, 3) := by decide +kernel
theorem dX10_ripeBy_20 : decode cX10_ripeBy 20 = .ok (.iconst 1, 1) := by decide +kernel
theorem dX10_ripeBy_21 : decode cX10_ripeBy 21 = .ok (.goto 4, 3) := by decide +kernel
theorem dX10_ripeBy_24 : decode cX10_ripeBy 24 = .ok (.iconst 0, 1) := by decide +kernel
theorem dX10_ripeBy_25 : decode cX10_ripeBy 25 = .ok (.invokestatic 191, 3) := by decide +kernel
theorem dX10_ripeBy_28 : decode cX10_ripeBy 28 = .ok (.isub, 1) := by decide +kernel
theorem dX10_ripeBy_29 : decode cX10_ripeBy 29 = .ok (.istore 4, 2) := by decide +kernel
theorem dX10_ripeBy_31 : decode cX10_ripeBy 31 = .ok (.iinc 3 1, 3) := by decide +kernel
theorem dX10_ripeBy_34 : decode cX10_ripeBy 34 = .ok (.goto (-29), 3) := by decide +kernel
theorem dX10_ripeBy_37 : decode cX10_ripeBy 37 = .ok (.iload_n 3, 1) := by decide +kernel
theorem dX10_ripeBy_38 : decode cX10_ripeBy 38 = .ok (.ireturn, 1) := by decide +kernel
theorem dX10_ripe_0 : decode cX10_ripe 0 = .ok (.aload_n 0, 1) := by decide +kernel
theorem dX10_ripe_1 : decode cX10_ripe 1 = .ok (.getfield 7, 3) := by decide +kernel
theorem dX10_ripe_4 : decode cX10_ripe 4 = .ok (.iload_n 1, 1) := by decide +kernel
theorem dX10_ripe_5 : decode cX10_ripe 5 = .ok (.bipush 21, 2) := by decide +kernel
theorem dX10_ripe_7 : decode cX10_ripe 7 = .ok (.iadd, 1) := by decide +kernel
theorem dX10_ripe_8 : decode cX10_ripe 8 = .ok (.iload_n 2, 1) := by decide +kernel
theorem dX10_ripe_9 : decode cX10_ripe 9 = .ok (.iadd, 1) := by decide +kernel
theorem dX10_ripe_10 : decode cX10_ripe 10 = .ok (.iaload, 1) := by decide +kernel
theorem dX10_ripe_11 : decode cX10_ripe 11 = .ok (.ifCond .ge 7, 3) := by decide +kernel
theorem dX10_ripe_14 : decode cX10_ripe 14 = .ok (.iconst (-1), 1) := by decide +kernel
theorem dX10_ripe_15 : decode cX10_ripe 15 = .ok (.goto 24, 3) := by decide +kernel
theorem dX10_ripe_18 : decode cX10_ripe 18 = .ok (.aload_n 0, 1) := by decide +kernel
theorem dX10_ripe_19 : decode cX10_ripe 19 = .ok (.aload_n 0, 1) := by decide +kernel
theorem dX10_ripe_20 : decode cX10_ripe 20 = .ok (.getfield 35, 3) := by decide +kernel
theorem dX10_ripe_23 : decode cX10_ripe 23 = .ok (.iload_n 2, 1) := by decide +kernel
theorem dX10_ripe_24 : decode cX10_ripe 24 = .ok (.iaload, 1) := by decide +kernel
theorem dX10_ripe_25 : decode cX10_ripe 25 = .ok (.aload_n 0, 1) := by decide +kernel
theorem dX10_ripe_26 : decode cX10_ripe 26 = .ok (.getfield 7, 3) := by decide +kernel
theorem dX10_ripe_29 : decode cX10_ripe 29 = .ok (.iload_n 1, 1) := by decide +kernel
theorem dX10_ripe_30 : decode cX10_ripe 30 = .ok (.bipush 21, 2) := by decide +kernel
theorem dX10_ripe_32 : decode cX10_ripe 32 = .ok (.iadd, 1) := by decide +kernel
theorem dX10_ripe_33 : decode cX10_ripe 33 = .ok (.iload_n 2, 1) := by decide +kernel
theorem dX10_ripe_34 : decode cX10_ripe 34 = .ok (.iadd, 1) := by decide +kernel
theorem dX10_ripe_35 : decode cX10_ripe 35 = .ok (.iaload, 1) := by decide +kernel
theorem dX10_ripe_36 : decode cX10_ripe 36 = .ok (.invokevirtual 195, 3) := by decide +kernel
theorem dX10_ripe_39 : decode cX10_ripe 39 = .ok (.ireturn, 1) := by decide +kernel
theorem dX10_inWay_0 : decode cX10_inWay 0 = .ok (.iconst 0, 1) := by decide +kernel
theorem dX10_inWay_1 : decode cX10_inWay 1 = .ok (.istore_n 2, 1) := by decide +kernel
theorem dX10_inWay_2 : decode cX10_inWay 2 = .ok (.iconst 0, 1) := by decide +kernel
theorem dX10_inWay_3 : decode cX10_inWay 3 = .ok (.istore_n 3, 1) := by decide +kernel
theorem dX10_inWay_4 : decode cX10_inWay 4 = .ok (.iload_n 3, 1) := by decide +kernel
theorem dX10_inWay_5 : decode cX10_inWay 5 = .ok (.aload_n 0, 1) := by decide +kernel
theorem dX10_inWay_6 : decode cX10_inWay 6 = .ok (.getfield 175, 3) := by decide +kernel
theorem dX10_inWay_9 : decode cX10_inWay 9 = .ok (.if_icmp .ge 32, 3) := by decide +kernel
theorem dX10_inWay_12 : decode cX10_inWay 12 = .ok (.iload_n 2, 1) := by decide +kernel
theorem dX10_inWay_13 : decode cX10_inWay 13 = .ok (.aload_n 0, 1) := by decide +kernel
theorem dX10_inWay_14 : decode cX10_inWay 14 = .ok (.getfield 7, 3) := by decide +kernel
theorem dX10_inWay_17 : decode cX10_inWay 17 = .ok (.iload_n 3, 1) := by decide +kernel
theorem dX10_inWay_18 : decode cX10_inWay 18 = .ok (.iaload, 1) := by decide +kernel
theorem dX10_inWay_19 : decode cX10_inWay 19 = .ok (.iload_n 1, 1) := by decide +kernel
theorem dX10_inWay_20 : decode cX10_inWay 20 = .ok (.if_icmp .ne 7, 3) := by decide +kernel
theorem dX10_inWay_23 : decode cX10_inWay 23 = .ok (.iconst 1, 1) := by decide +kernel
theorem dX10_inWay_24 : decode cX10_inWay 24 = .ok (.goto 4, 3) := by decide +kernel
theorem dX10_inWay_27 : decode cX10_inWay 27 = .ok (.iconst 0, 1) := by decide +kernel
theorem dX10_inWay_28 : decode cX10_inWay 28 = .ok (.invokestatic 191, 3) := by decide +kernel
theorem dX10_inWay_31 : decode cX10_inWay 31 = .ok (.iload_n 3, 1) := by decide +kernel
theorem dX10_inWay_32 : decode cX10_inWay 32 = .ok (.ishl, 1) := by decide +kernel
theorem dX10_inWay_33 : decode cX10_inWay 33 = .ok (.ior, 1) := by decide +kernel
theorem dX10_inWay_34 : decode cX10_inWay 34 = .ok (.istore_n 2, 1) := by decide +kernel
theorem dX10_inWay_35 : decode cX10_inWay 35 = .ok (.iinc 3 1, 3) := by decide +kernel
theorem dX10_inWay_38 : decode cX10_inWay 38 = .ok (.goto (-34), 3) := by decide +kernel
theorem dX10_inWay_41 : decode cX10_inWay 41 = .ok (.iload_n 2, 1) := by decide +kernel
theorem dX10_inWay_42 : decode cX10_inWay 42 = .ok (.ireturn, 1) := by decide +kernel
theorem dX10_told_0 : decode cX10_told 0 = .ok (.iload_n 1, 1) := by decide +kernel
theorem dX10_told_1 : decode cX10_told 1 = .ok (.tableswitch 149 0 12 #[67, 72, 77, 82, 87, 92, 100, 106, 112, 118, 124, 129, 134], 67) := by decide +kernel
theorem dX10_told_68 : decode cX10_told 68 = .ok (.aload_n 0, 1) := by decide +kernel
theorem dX10_told_69 : decode cX10_told 69 = .ok (.getfield 166, 3) := by decide +kernel
theorem dX10_told_72 : decode cX10_told 72 = .ok (.ireturn, 1) := by decide +kernel
theorem dX10_told_73 : decode cX10_told 73 = .ok (.aload_n 0, 1) := by decide +kernel
theorem dX10_told_74 : decode cX10_told 74 = .ok (.getfield 169, 3) := by decide +kernel
theorem dX10_told_77 : decode cX10_told 77 = .ok (.ireturn, 1) := by decide +kernel
theorem dX10_told_78 : decode cX10_told 78 = .ok (.aload_n 0, 1) := by decide +kernel
theorem dX10_told_79 : decode cX10_told 79 = .ok (.getfield 172, 3) := by decide +kernel
theorem dX10_told_82 : decode cX10_told 82 = .ok (.ireturn, 1) := by decide +kernel
theorem dX10_told_83 : decode cX10_told 83 = .ok (.aload_n 0, 1) := by decide +kernel
theorem dX10_told_84 : decode cX10_told 84 = .ok (.getfield 175, 3) := by decide +kernel
theorem dX10_told_87 : decode cX10_told 87 = .ok (.ireturn, 1) := by decide +kernel
theorem dX10_told_88 : decode cX10_told 88 = .ok (.aload_n 0, 1) := by decide +kernel
theorem dX10_told_89 : decode cX10_told 89 = .ok (.getfield 94, 3) := by decide +kernel
theorem dX10_told_92 : decode cX10_told 92 = .ok (.ireturn, 1) := by decide +kernel
theorem dX10_told_93 : decode cX10_told 93 = .ok (.aload_n 0, 1) := by decide +kernel
theorem dX10_told_94 : decode cX10_told 94 = .ok (.getfield 7, 3) := by decide +kernel
theorem dX10_told_97 : decode cX10_told 97 = .ok (.bipush 37, 2) := by decide +kernel
theorem dX10_told_99 : decode cX10_told 99 = .ok (.iaload, 1) := by decide +kernel
theorem dX10_told_100 : decode cX10_told 100 = .ok (.ireturn, 1) := by decide +kernel
theorem dX10_told_101 : decode cX10_told 101 = .ok (.aload_n 0, 1) := by decide +kernel
theorem dX10_told_102 : decode cX10_told 102 = .ok (.iconst 0, 1) := by decide +kernel
theorem dX10_told_103 : decode cX10_told 103 = .ok (.invokevirtual 198, 3) := by decide +kernel
theorem dX10_told_106 : decode cX10_told 106 = .ok (.ireturn, 1) := by decide +kernel
theorem dX10_told_107 : decode cX10_told 107 = .ok (.aload_n 0, 1) := by decide +kernel
theorem dX10_told_108 : decode cX10_told 108 = .ok (.iconst 1, 1) := by decide +kernel
theorem dX10_told_109 : decode cX10_told 109 = .ok (.invokevirtual 198, 3) := by decide +kernel
theorem dX10_told_112 : decode cX10_told 112 = .ok (.ireturn, 1) := by decide +kernel
theorem dX10_told_113 : decode cX10_told 113 = .ok (.aload_n 0, 1) := by decide +kernel
theorem dX10_told_114 : decode cX10_told 114 = .ok (.iconst 2, 1) := by decide +kernel
theorem dX10_told_115 : decode cX10_told 115 = .ok (.invokevirtual 198, 3) := by decide +kernel
theorem dX10_told_118 : decode cX10_told 118 = .ok (.ireturn, 1) := by decide +kernel
theorem dX10_told_119 : decode cX10_told 119 = .ok (.aload_n 0, 1) := by decide +kernel
theorem dX10_told_120 : decode cX10_told 120 = .ok (.iconst 3, 1) := by decide +kernel
theorem dX10_told_121 : decode cX10_told 121 = .ok (.invokevirtual 198, 3) := by decide +kernel
theorem dX10_told_124 : decode cX10_told 124 = .ok (.ireturn, 1) := by decide +kernel
theorem dX10_told_125 : decode cX10_told 125 = .ok (.aload_n 0, 1) := by decide +kernel
theorem dX10_told_126 : decode cX10_told 126 = .ok (.getfield 181, 3) := by decide +kernel
theorem dX10_told_129 : decode cX10_told 129 = .ok (.ireturn, 1) := by decide +kernel
theorem dX10_told_130 : decode cX10_told 130 = .ok (.aload_n 0, 1) := by decide +kernel
theorem dX10_told_131 : decode cX10_told 131 = .ok (.getfield 184, 3) := by decide +kernel
theorem dX10_told_134 : decode cX10_told 134 = .ok (.ireturn, 1) := by decide +kernel
theorem dX10_told_135 : decode cX10_told 135 = .ok (.aload_n 0, 1) := by decide +kernel
theorem dX10_told_136 : decode cX10_told 136 = .ok (.aload_n 0, 1) := by decide +kernel
theorem dX10_told_137 : decode cX10_told 137 = .ok (.getfield 7, 3) := by decide +kernel
theorem dX10_told_140 : decode cX10_told 140 = .ok (.bipush 37, 2) := by decide +kernel
theorem dX10_told_142 : decode cX10_told 142 = .ok (.iaload, 1) := by decide +kernel
theorem dX10_told_143 : decode cX10_told 143 = .ok (.invokevirtual 187, 3) := by decide +kernel
theorem dX10_told_146 : decode cX10_told 146 = .ok (.invokestatic 191, 3) := by decide +kernel
theorem dX10_told_149 : decode cX10_told 149 = .ok (.ireturn, 1) := by decide +kernel
theorem dX10_told_150 : decode cX10_told 150 = .ok (.ldc 93, 2) := by decide +kernel
theorem dX10_told_152 : decode cX10_told 152 = .ok (.ireturn, 1) := by decide +kernel
theorem dX10_far_0 : decode cX10_far 0 = .ok (.aload_n 0, 1) := by decide +kernel
theorem dX10_far_1 : decode cX10_far 1 = .ok (.iload_n 1, 1) := by decide +kernel
theorem dX10_far_2 : decode cX10_far 2 = .ok (.invokevirtual 202, 3) := by decide +kernel
theorem dX10_far_5 : decode cX10_far 5 = .ok (.ifCond .eq 11, 3) := by decide +kernel
theorem dX10_far_8 : decode cX10_far 8 = .ok (.aload_n 0, 1) := by decide +kernel
theorem dX10_far_9 : decode cX10_far 9 = .ok (.iload_n 2, 1) := by decide +kernel
theorem dX10_far_10 : decode cX10_far 10 = .ok (.invokevirtual 202, 3) := by decide +kernel
theorem dX10_far_13 : decode cX10_far 13 = .ok (.ifCond .ne 6, 3) := by decide +kernel
theorem dX10_far_16 : decode cX10_far 16 = .ok (.ldc 205, 2) := by decide +kernel
theorem dX10_far_18 : decode cX10_far 18 = .ok (.ireturn, 1) := by decide +kernel
theorem dX10_far_19 : decode cX10_far 19 = .ok (.aload_n 0, 1) := by decide +kernel
theorem dX10_far_20 : decode cX10_far 20 = .ok (.getfield 20, 3) := by decide +kernel
theorem dX10_far_23 : decode cX10_far 23 = .ok (.iconst 5, 1) := by decide +kernel
theorem dX10_far_24 : decode cX10_far 24 = .ok (.iload_n 1, 1) := by decide +kernel
theorem dX10_far_25 : decode cX10_far 25 = .ok (.imul, 1) := by decide +kernel
theorem dX10_far_26 : decode cX10_far 26 = .ok (.iload_n 2, 1) := by decide +kernel
theorem dX10_far_27 : decode cX10_far 27 = .ok (.iadd, 1) := by decide +kernel
theorem dX10_far_28 : decode cX10_far 28 = .ok (.iaload, 1) := by decide +kernel
theorem dX10_far_29 : decode cX10_far 29 = .ok (.ldc 156, 2) := by decide +kernel
theorem dX10_far_31 : decode cX10_far 31 = .ok (.if_icmp .lt 7, 3) := by decide +kernel
theorem dX10_far_34 : decode cX10_far 34 = .ok (.iconst (-1), 1) := by decide +kernel
theorem dX10_far_35 : decode cX10_far 35 = .ok (.goto 13, 3) := by decide +kernel
theorem dX10_far_38 : decode cX10_far 38 = .ok (.aload_n 0, 1) := by decide +kernel
theorem dX10_far_39 : decode cX10_far 39 = .ok (.getfield 20, 3) := by decide +kernel
theorem dX10_far_42 : decode cX10_far 42 = .ok (.iconst 5, 1) := by decide +kernel
theorem dX10_far_43 : decode cX10_far 43 = .ok (.iload_n 1, 1) := by decide +kernel
theorem dX10_far_44 : decode cX10_far 44 = .ok (.imul, 1) := by decide +kernel
theorem dX10_far_45 : decode cX10_far 45 = .ok (.iload_n 2, 1) := by decide +kernel
theorem dX10_far_46 : decode cX10_far 46 = .ok (.iadd, 1) := by decide +kernel
theorem dX10_far_47 : decode cX10_far 47 = .ok (.iaload, 1) := by decide +kernel
theorem dX10_far_48 : decode cX10_far 48 = .ok (.ireturn, 1) := by decide +kernel
theorem dX10_ofKeeper_0 : decode cX10_ofKeeper 0 = .ok (.iconst 0, 1) := by decide +kernel
theorem dX10_ofKeeper_1 : decode cX10_ofKeeper 1 = .ok (.istore_n 2, 1) := by decide +kernel
theorem dX10_ofKeeper_2 : decode cX10_ofKeeper 2 = .ok (.iconst 0, 1) := by decide +kernel
theorem dX10_ofKeeper_3 : decode cX10_ofKeeper 3 = .ok (.istore_n 3, 1) := by decide +kernel
theorem dX10_ofKeeper_4 : decode cX10_ofKeeper 4 = .ok (.iload_n 3, 1) := by decide +kernel
theorem dX10_ofKeeper_5 : decode cX10_ofKeeper 5 = .ok (.aload_n 0, 1) := by decide +kernel
theorem dX10_ofKeeper_6 : decode cX10_ofKeeper 6 = .ok (.getfield 175, 3) := by decide +kernel
theorem dX10_ofKeeper_9 : decode cX10_ofKeeper 9 = .ok (.if_icmp .ge 35, 3) := by decide +kernel
theorem dX10_ofKeeper_12 : decode cX10_ofKeeper 12 = .ok (.iload_n 2, 1) := by decide +kernel
theorem dX10_ofKeeper_13 : decode cX10_ofKeeper 13 = .ok (.aload_n 0, 1) := by decide +kernel
theorem dX10_ofKeeper_14 : decode cX10_ofKeeper 14 = .ok (.getfield 7, 3) := by decide +kernel
theorem dX10_ofKeeper_17 : decode cX10_ofKeeper 17 = .ok (.bipush 14, 2) := by decide +kernel
theorem dX10_ofKeeper_19 : decode cX10_ofKeeper 19 = .ok (.iload_n 3, 1) := by decide +kernel
theorem dX10_ofKeeper_20 : decode cX10_ofKeeper 20 = .ok (.iadd, 1) := by decide +kernel
theorem dX10_ofKeeper_21 : decode cX10_ofKeeper 21 = .ok (.iaload, 1) := by decide +kernel
theorem dX10_ofKeeper_22 : decode cX10_ofKeeper 22 = .ok (.iload_n 1, 1) := by decide +kernel
theorem dX10_ofKeeper_23 : decode cX10_ofKeeper 23 = .ok (.if_icmp .ne 7, 3) := by decide +kernel
theorem dX10_ofKeeper_26 : decode cX10_ofKeeper 26 = .ok (.iconst 1, 1) := by decide +kernel
theorem dX10_ofKeeper_27 : decode cX10_ofKeeper 27 = .ok (.goto 4, 3) := by decide +kernel
theorem dX10_ofKeeper_30 : decode cX10_ofKeeper 30 = .ok (.iconst 0, 1) := by decide +kernel
theorem dX10_ofKeeper_31 : decode cX10_ofKeeper 31 = .ok (.invokestatic 191, 3) := by decide +kernel
theorem dX10_ofKeeper_34 : decode cX10_ofKeeper 34 = .ok (.iload_n 3, 1) := by decide +kernel
theorem dX10_ofKeeper_35 : decode cX10_ofKeeper 35 = .ok (.ishl, 1) := by decide +kernel
theorem dX10_ofKeeper_36 : decode cX10_ofKeeper 36 = .ok (.ior, 1) := by decide +kernel
theorem dX10_ofKeeper_37 : decode cX10_ofKeeper 37 = .ok (.istore_n 2, 1) := by decide +kernel
theorem dX10_ofKeeper_38 : decode cX10_ofKeeper 38 = .ok (.iinc 3 1, 3) := by decide +kernel
theorem dX10_ofKeeper_41 : decode cX10_ofKeeper 41 = .ok (.goto (-37), 3) := by decide +kernel
theorem dX10_ofKeeper_44 : decode cX10_ofKeeper 44 = .ok (.iload_n 2, 1) := by decide +kernel
theorem dX10_ofKeeper_45 : decode cX10_ofKeeper 45 = .ok (.ireturn, 1) := by decide +kernel
theorem dX10_keeper_0 : decode cX10_keeper 0 = .ok (.aload_n 0, 1) := by decide +kernel
theorem dX10_keeper_1 : decode cX10_keeper 1 = .ok (.iload_n 1, 1) := by decide +kernel
theorem dX10_keeper_2 : decode cX10_keeper 2 = .ok (.invokevirtual 206, 3) := by decide +kernel
theorem dX10_keeper_5 : decode cX10_keeper 5 = .ok (.ifCond .ne 6, 3) := by decide +kernel
theorem dX10_keeper_8 : decode cX10_keeper 8 = .ok (.ldc 205, 2) := by decide +kernel
theorem dX10_keeper_10 : decode cX10_keeper 10 = .ok (.ireturn, 1) := by decide +kernel
theorem dX10_keeper_11 : decode cX10_keeper 11 = .ok (.iload_n 2, 1) := by decide +kernel
theorem dX10_keeper_12 : decode cX10_keeper 12 = .ok (.ifCond .ne 15, 3) := by decide +kernel
theorem dX10_keeper_15 : decode cX10_keeper 15 = .ok (.aload_n 0, 1) := by decide +kernel
theorem dX10_keeper_16 : decode cX10_keeper 16 = .ok (.getfield 7, 3) := by decide +kernel
theorem dX10_keeper_19 : decode cX10_keeper 19 = .ok (.bipush 28, 2) := by decide +kernel
theorem dX10_keeper_21 : decode cX10_keeper 21 = .ok (.iload_n 1, 1) := by decide +kernel
theorem dX10_keeper_22 : decode cX10_keeper 22 = .ok (.iadd, 1) := by decide +kernel
theorem dX10_keeper_23 : decode cX10_keeper 23 = .ok (.iaload, 1) := by decide +kernel
theorem dX10_keeper_24 : decode cX10_keeper 24 = .ok (.goto 49, 3) := by decide +kernel
theorem dX10_keeper_27 : decode cX10_keeper 27 = .ok (.iload_n 2, 1) := by decide +kernel
theorem dX10_keeper_28 : decode cX10_keeper 28 = .ok (.iconst 1, 1) := by decide +kernel
theorem dX10_keeper_29 : decode cX10_keeper 29 = .ok (.if_icmp .ne 12, 3) := by decide +kernel
theorem dX10_keeper_32 : decode cX10_keeper 32 = .ok (.aload_n 0, 1) := by decide +kernel
theorem dX10_keeper_33 : decode cX10_keeper 33 = .ok (.getfield 26, 3) := by decide +kernel
theorem dX10_keeper_36 : decode cX10_keeper 36 = .ok (.iload_n 1, 1) := by decide +kernel
theorem dX10_keeper_37 : decode cX10_keeper 37 = .ok (.iaload, 1) := by decide +kernel
theorem dX10_keeper_38 : decode cX10_keeper 38 = .ok (.goto 35, 3) := by decide +kernel
theorem dX10_keeper_41 : decode cX10_keeper 41 = .ok (.iload_n 2, 1) := by decide +kernel
theorem dX10_keeper_42 : decode cX10_keeper 42 = .ok (.iconst 2, 1) := by decide +kernel
theorem dX10_keeper_43 : decode cX10_keeper 43 = .ok (.if_icmp .ne 15, 3) := by decide +kernel
theorem dX10_keeper_46 : decode cX10_keeper 46 = .ok (.aload_n 0, 1) := by decide +kernel
theorem dX10_keeper_47 : decode cX10_keeper 47 = .ok (.getfield 7, 3) := by decide +kernel
theorem dX10_keeper_50 : decode cX10_keeper 50 = .ok (.bipush 31, 2) := by decide +kernel
theorem dX10_keeper_52 : decode cX10_keeper 52 = .ok (.iload_n 1, 1) := by decide +kernel
theorem dX10_keeper_53 : decode cX10_keeper 53 = .ok (.iadd, 1) := by decide +kernel
theorem dX10_keeper_54 : decode cX10_keeper 54 = .ok (.iaload, 1) := by decide +kernel
theorem dX10_keeper_55 : decode cX10_keeper 55 = .ok (.goto 18, 3) := by decide +kernel
theorem dX10_keeper_58 : decode cX10_keeper 58 = .ok (.iload_n 2, 1) := by decide +kernel
theorem dX10_keeper_59 : decode cX10_keeper 59 = .ok (.iconst 3, 1) := by decide +kernel
theorem dX10_keeper_60 : decode cX10_keeper 60 = .ok (.if_icmp .ne 11, 3) := by decide +kernel
theorem dX10_keeper_63 : decode cX10_keeper 63 = .ok (.aload_n 0, 1) := by decide +kernel
theorem dX10_keeper_64 : decode cX10_keeper 64 = .ok (.iload_n 1, 1) := by decide +kernel
theorem dX10_keeper_65 : decode cX10_keeper 65 = .ok (.invokevirtual 209, 3) := by decide +kernel
theorem dX10_keeper_68 : decode cX10_keeper 68 = .ok (.goto 5, 3) := by decide +kernel
theorem dX10_keeper_71 : decode cX10_keeper 71 = .ok (.ldc 93, 2) := by decide +kernel
theorem dX10_keeper_73 : decode cX10_keeper 73 = .ok (.ireturn, 1) := by decide +kernel
theorem dX10_promise_0 : decode cX10_promise 0 = .ok (.aload_n 0, 1) := by decide +kernel
theorem dX10_promise_1 : decode cX10_promise 1 = .ok (.iload_n 1, 1) := by decide +kernel
theorem dX10_promise_2 : decode cX10_promise 2 = .ok (.invokevirtual 212, 3) := by decide +kernel
theorem dX10_promise_5 : decode cX10_promise 5 = .ok (.ifCond .ne 6, 3) := by decide +kernel
theorem dX10_promise_8 : decode cX10_promise 8 = .ok (.ldc 205, 2) := by decide +kernel
theorem dX10_promise_10 : decode cX10_promise 10 = .ok (.ireturn, 1) := by decide +kernel
theorem dX10_promise_11 : decode cX10_promise 11 = .ok (.iload_n 2, 1) := by decide +kernel
theorem dX10_promise_12 : decode cX10_promise 12 = .ok (.tableswitch 136 0 8 #[52, 62, 69, 76, 83, 90, 112, 119, 126], 52) := by decide +kernel
theorem dX10_promise_64 : decode cX10_promise 64 = .ok (.aload_n 0, 1) := by decide +kernel
theorem dX10_promise_65 : decode cX10_promise 65 = .ok (.getfield 7, 3) := by decide +kernel
theorem dX10_promise_68 : decode cX10_promise 68 = .ok (.bipush 14, 2) := by decide +kernel
theorem dX10_promise_70 : decode cX10_promise 70 = .ok (.iload_n 1, 1) := by decide +kernel
theorem dX10_promise_71 : decode cX10_promise 71 = .ok (.iadd, 1) := by decide +kernel
theorem dX10_promise_72 : decode cX10_promise 72 = .ok (.iaload, 1) := by decide +kernel
theorem dX10_promise_73 : decode cX10_promise 73 = .ok (.ireturn, 1) := by decide +kernel
theorem dX10_promise_74 : decode cX10_promise 74 = .ok (.aload_n 0, 1) := by decide +kernel
theorem dX10_promise_75 : decode cX10_promise 75 = .ok (.getfield 32, 3) := by decide +kernel
theorem dX10_promise_78 : decode cX10_promise 78 = .ok (.iload_n 1, 1) := by decide +kernel
theorem dX10_promise_79 : decode cX10_promise 79 = .ok (.iaload, 1) := by decide +kernel
theorem dX10_promise_80 : decode cX10_promise 80 = .ok (.ireturn, 1) := by decide +kernel
theorem dX10_promise_81 : decode cX10_promise 81 = .ok (.aload_n 0, 1) := by decide +kernel
theorem dX10_promise_82 : decode cX10_promise 82 = .ok (.getfield 35, 3) := by decide +kernel
theorem dX10_promise_85 : decode cX10_promise 85 = .ok (.iload_n 1, 1) := by decide +kernel
theorem dX10_promise_86 : decode cX10_promise 86 = .ok (.iaload, 1) := by decide +kernel
theorem dX10_promise_87 : decode cX10_promise 87 = .ok (.ireturn, 1) := by decide +kernel
theorem dX10_promise_88 : decode cX10_promise 88 = .ok (.aload_n 0, 1) := by decide +kernel
theorem dX10_promise_89 : decode cX10_promise 89 = .ok (.getfield 38, 3) := by decide +kernel
theorem dX10_promise_92 : decode cX10_promise 92 = .ok (.iload_n 1, 1) := by decide +kernel
theorem dX10_promise_93 : decode cX10_promise 93 = .ok (.iaload, 1) := by decide +kernel
theorem dX10_promise_94 : decode cX10_promise 94 = .ok (.ireturn, 1) := by decide +kernel
theorem dX10_promise_95 : decode cX10_promise 95 = .ok (.aload_n 0, 1) := by decide +kernel
theorem dX10_promise_96 : decode cX10_promise 96 = .ok (.getfield 41, 3) := by decide +kernel
theorem dX10_promise_99 : decode cX10_promise 99 = .ok (.iload_n 1, 1) := by decide +kernel
theorem dX10_promise_100 : decode cX10_promise 100 = .ok (.iaload, 1) := by decide +kernel
theorem dX10_promise_101 : decode cX10_promise 101 = .ok (.ireturn, 1) := by decide +kernel
theorem dX10_promise_102 : decode cX10_promise 102 = .ok (.aload_n 0, 1) := by decide +kernel
theorem dX10_promise_103 : decode cX10_promise 103 = .ok (.getfield 44, 3) := by decide +kernel
theorem dX10_promise_106 : decode cX10_promise 106 = .ok (.iload_n 1, 1) := by decide +kernel
theorem dX10_promise_107 : decode cX10_promise 107 = .ok (.iaload, 1) := by decide +kernel
theorem dX10_promise_108 : decode cX10_promise 108 = .ok (.bipush 9, 2) := by decide +kernel
theorem dX10_promise_110 : decode cX10_promise 110 = .ok (.if_icmp .ne 7, 3) := by decide +kernel
theorem dX10_promise_113 : decode cX10_promise 113 = .ok (.iconst (-1), 1) := by decide +kernel
theorem dX10_promise_114 : decode cX10_promise 114 = .ok (.goto 9, 3) := by decide +kernel
theorem dX10_promise_117 : decode cX10_promise 117 = .ok (.aload_n 0, 1) := by decide +kernel
theorem dX10_promise_118 : decode cX10_promise 118 = .ok (.getfield 44, 3) := by decide +kernel
theorem dX10_promise_121 : decode cX10_promise 121 = .ok (.iload_n 1, 1) := by decide +kernel
theorem dX10_promise_122 : decode cX10_promise 122 = .ok (.iaload, 1) := by decide +kernel
theorem dX10_promise_123 : decode cX10_promise 123 = .ok (.ireturn, 1) := by decide +kernel
theorem dX10_promise_124 : decode cX10_promise 124 = .ok (.aload_n 0, 1) := by decide +kernel
theorem dX10_promise_125 : decode cX10_promise 125 = .ok (.getfield 7, 3) := by decide +kernel
theorem dX10_promise_128 : decode cX10_promise 128 = .ok (.iload_n 1, 1) := by decide +kernel
theorem dX10_promise_129 : decode cX10_promise 129 = .ok (.iaload, 1) := by decide +kernel
theorem dX10_promise_130 : decode cX10_promise 130 = .ok (.ireturn, 1) := by decide +kernel
theorem dX10_promise_131 : decode cX10_promise 131 = .ok (.aload_n 0, 1) := by decide +kernel
theorem dX10_promise_132 : decode cX10_promise 132 = .ok (.iconst 0, 1) := by decide +kernel
theorem dX10_promise_133 : decode cX10_promise 133 = .ok (.iload_n 1, 1) := by decide +kernel
theorem dX10_promise_134 : decode cX10_promise 134 = .ok (.invokevirtual 215, 3) := by decide +kernel
theorem dX10_promise_137 : decode cX10_promise 137 = .ok (.ireturn, 1) := by decide +kernel
theorem dX10_promise_138 : decode cX10_promise 138 = .ok (.aload_n 0, 1) := by decide +kernel
theorem dX10_promise_139 : decode cX10_promise 139 = .ok (.getfield 7, 3) := by decide +kernel
theorem dX10_promise_142 : decode cX10_promise 142 = .ok (.bipush 7, 2) := by decide +kernel
theorem dX10_promise_144 : decode cX10_promise 144 = .ok (.iload_n 1, 1) := by decide +kernel
theorem dX10_promise_145 : decode cX10_promise 145 = .ok (.iadd, 1) := by decide +kernel
theorem dX10_promise_146 : decode cX10_promise 146 = .ok (.iaload, 1) := by decide +kernel
theorem dX10_promise_147 : decode cX10_promise 147 = .ok (.ireturn, 1) := by decide +kernel
theorem dX10_promise_148 : decode cX10_promise 148 = .ok (.ldc 93, 2) := by decide +kernel
theorem dX10_promise_150 : decode cX10_promise 150 = .ok (.ireturn, 1) := by decide +kernel
theorem dX10_fell_0 : decode cX10_fell 0 = .ok (.iload_n 1, 1) := by decide +kernel
theorem dX10_fell_1 : decode cX10_fell 1 = .ok (.i2l, 1) := by decide +kernel
theorem dX10_fell_2 : decode cX10_fell 2 = .ok (.lconst 0, 1) := by decide +kernel
theorem dX10_fell_3 : decode cX10_fell 3 = .ok (.ldc2_w 218, 3) := by decide +kernel
theorem dX10_fell_6 : decode cX10_fell 6 = .ok (.invokestatic 89, 3) := by decide +kernel
theorem dX10_fell_9 : decode cX10_fell 9 = .ok (.ifCond .eq 15, 3) := by decide +kernel
theorem dX10_fell_12 : decode cX10_fell 12 = .ok (.aload_n 0, 1) := by decide +kernel
theorem dX10_fell_13 : decode cX10_fell 13 = .ok (.getfield 7, 3) := by decide +kernel
theorem dX10_fell_16 : decode cX10_fell 16 = .ok (.bipush 34, 2) := by decide +kernel
theorem dX10_fell_18 : decode cX10_fell 18 = .ok (.iload_n 1, 1) := by decide +kernel
theorem dX10_fell_19 : decode cX10_fell 19 = .ok (.iadd, 1) := by decide +kernel
theorem dX10_fell_20 : decode cX10_fell 20 = .ok (.iaload, 1) := by decide +kernel
theorem dX10_fell_21 : decode cX10_fell 21 = .ok (.goto 5, 3) := by decide +kernel
theorem dX10_fell_24 : decode cX10_fell 24 = .ok (.ldc 205, 2) := by decide +kernel
theorem dX10_fell_26 : decode cX10_fell 26 = .ok (.ireturn, 1) := by decide +kernel
theorem dX10_isOnWay_0 : decode cX10_isOnWay 0 = .ok (.aload_n 0, 1) := by decide +kernel
theorem dX10_isOnWay_1 : decode cX10_isOnWay 1 = .ok (.getfield 7, 3) := by decide +kernel
theorem dX10_isOnWay_4 : decode cX10_isOnWay 4 = .ok (.bipush 31, 2) := by decide +kernel
theorem dX10_isOnWay_6 : decode cX10_isOnWay 6 = .ok (.iload_n 1, 1) := by decide +kernel
theorem dX10_isOnWay_7 : decode cX10_isOnWay 7 = .ok (.iadd, 1) := by decide +kernel
theorem dX10_isOnWay_8 : decode cX10_isOnWay 8 = .ok (.iaload, 1) := by decide +kernel
theorem dX10_isOnWay_9 : decode cX10_isOnWay 9 = .ok (.aload_n 0, 1) := by decide +kernel
theorem dX10_isOnWay_10 : decode cX10_isOnWay 10 = .ok (.getfield 7, 3) := by decide +kernel
theorem dX10_isOnWay_13 : decode cX10_isOnWay 13 = .ok (.bipush 37, 2) := by decide +kernel
theorem dX10_isOnWay_15 : decode cX10_isOnWay 15 = .ok (.iaload, 1) := by decide +kernel
theorem dX10_isOnWay_16 : decode cX10_isOnWay 16 = .ok (.if_icmp .le 7, 3) := by decide +kernel
theorem dX10_isOnWay_19 : decode cX10_isOnWay 19 = .ok (.iconst 1, 1) := by decide +kernel
theorem dX10_isOnWay_20 : decode cX10_isOnWay 20 = .ok (.goto 4, 3) := by decide +kernel
theorem dX10_isOnWay_23 : decode cX10_isOnWay 23 = .ok (.iconst 0, 1) := by decide +kernel
theorem dX10_isOnWay_24 : decode cX10_isOnWay 24 = .ok (.ireturn, 1) := by decide +kernel
theorem dX10_canGo_0 : decode cX10_canGo 0 = .ok (.aload_n 0, 1) := by decide +kernel
theorem dX10_canGo_1 : decode cX10_canGo 1 = .ok (.iload_n 1, 1) := by decide +kernel
theorem dX10_canGo_2 : decode cX10_canGo 2 = .ok (.invokevirtual 220, 3) := by decide +kernel
theorem dX10_canGo_5 : decode cX10_canGo 5 = .ok (.ifCond .ne 43, 3) := by decide +kernel
theorem dX10_canGo_8 : decode cX10_canGo 8 = .ok (.aload_n 0, 1) := by decide +kernel
theorem dX10_canGo_9 : decode cX10_canGo 9 = .ok (.getfield 7, 3) := by decide +kernel
theorem dX10_canGo_12 : decode cX10_canGo 12 = .ok (.bipush 28, 2) := by decide +kernel
theorem dX10_canGo_14 : decode cX10_canGo 14 = .ok (.iload_n 1, 1) := by decide +kernel
theorem dX10_canGo_15 : decode cX10_canGo 15 = .ok (.iadd, 1) := by decide +kernel
theorem dX10_canGo_16 : decode cX10_canGo 16 = .ok (.iaload, 1) := by decide +kernel
theorem dX10_canGo_17 : decode cX10_canGo 17 = .ok (.iload_n 2, 1) := by decide +kernel
theorem dX10_canGo_18 : decode cX10_canGo 18 = .ok (.if_icmp .eq 30, 3) := by decide +kernel
theorem dX10_canGo_21 : decode cX10_canGo 21 = .ok (.aload_n 0, 1) := by decide +kernel
theorem dX10_canGo_22 : decode cX10_canGo 22 = .ok (.getfield 20, 3) := by decide +kernel
theorem dX10_canGo_25 : decode cX10_canGo 25 = .ok (.iconst 5, 1) := by decide +kernel
theorem dX10_canGo_26 : decode cX10_canGo 26 = .ok (.aload_n 0, 1) := by decide +kernel
theorem dX10_canGo_27 : decode cX10_canGo 27 = .ok (.getfield 7, 3) := by decide +kernel
theorem dX10_canGo_30 : decode cX10_canGo 30 = .ok (.bipush 28, 2) := by decide +kernel
theorem dX10_canGo_32 : decode cX10_canGo 32 = .ok (.iload_n 1, 1) := by decide +kernel
theorem dX10_canGo_33 : decode cX10_canGo 33 = .ok (.iadd, 1) := by decide +kernel
theorem dX10_canGo_34 : decode cX10_canGo 34 = .ok (.iaload, 1) := by decide +kernel
theorem dX10_canGo_35 : decode cX10_canGo 35 = .ok (.imul, 1) := by decide +kernel
theorem dX10_canGo_36 : decode cX10_canGo 36 = .ok (.iload_n 2, 1) := by decide +kernel
theorem dX10_canGo_37 : decode cX10_canGo 37 = .ok (.iadd, 1) := by decide +kernel
theorem dX10_canGo_38 : decode cX10_canGo 38 = .ok (.iaload, 1) := by decide +kernel
theorem dX10_canGo_39 : decode cX10_canGo 39 = .ok (.ldc 156, 2) := by decide +kernel
theorem dX10_canGo_41 : decode cX10_canGo 41 = .ok (.if_icmp .ge 7, 3) := by decide +kernel
theorem dX10_canGo_44 : decode cX10_canGo 44 = .ok (.iconst 1, 1) := by decide +kernel
theorem dX10_canGo_45 : decode cX10_canGo 45 = .ok (.goto 4, 3) := by decide +kernel
theorem dX10_canGo_48 : decode cX10_canGo 48 = .ok (.iconst 0, 1) := by decide +kernel
theorem dX10_canGo_49 : decode cX10_canGo 49 = .ok (.ireturn, 1) := by decide +kernel
theorem dX10_goTo_0 : decode cX10_goTo 0 = .ok (.aload_n 0, 1) := by decide +kernel
theorem dX10_goTo_1 : decode cX10_goTo 1 = .ok (.getfield 7, 3) := by decide +kernel
theorem dX10_goTo_4 : decode cX10_goTo 4 = .ok (.bipush 31, 2) := by decide +kernel
theorem dX10_goTo_6 : decode cX10_goTo 6 = .ok (.iload_n 1, 1) := by decide +kernel
theorem dX10_goTo_7 : decode cX10_goTo 7 = .ok (.iadd, 1) := by decide +kernel
theorem dX10_goTo_8 : decode cX10_goTo 8 = .ok (.aload_n 0, 1) := by decide +kernel
theorem dX10_goTo_9 : decode cX10_goTo 9 = .ok (.getfield 7, 3) := by decide +kernel
theorem dX10_goTo_12 : decode cX10_goTo 12 = .ok (.bipush 37, 2) := by decide +kernel
theorem dX10_goTo_14 : decode cX10_goTo 14 = .ok (.iaload, 1) := by decide +kernel
theorem dX10_goTo_15 : decode cX10_goTo 15 = .ok (.aload_n 0, 1) := by decide +kernel
theorem dX10_goTo_16 : decode cX10_goTo 16 = .ok (.getfield 20, 3) := by decide +kernel
theorem dX10_goTo_19 : decode cX10_goTo 19 = .ok (.iconst 5, 1) := by decide +kernel
theorem dX10_goTo_20 : decode cX10_goTo 20 = .ok (.aload_n 0, 1) := by decide +kernel
theorem dX10_goTo_21 : decode cX10_goTo 21 = .ok (.getfield 7, 3) := by decide +kernel
theorem dX10_goTo_24 : decode cX10_goTo 24 = .ok (.bipush 28, 2) := by decide +kernel
theorem dX10_goTo_26 : decode cX10_goTo 26 = .ok (.iload_n 1, 1) := by decide +kernel
theorem dX10_goTo_27 : decode cX10_goTo 27 = .ok (.iadd, 1) := by decide +kernel
theorem dX10_goTo_28 : decode cX10_goTo 28 = .ok (.iaload, 1) := by decide +kernel
theorem dX10_goTo_29 : decode cX10_goTo 29 = .ok (.imul, 1) := by decide +kernel
theorem dX10_goTo_30 : decode cX10_goTo 30 = .ok (.iload_n 2, 1) := by decide +kernel
theorem dX10_goTo_31 : decode cX10_goTo 31 = .ok (.iadd, 1) := by decide +kernel
theorem dX10_goTo_32 : decode cX10_goTo 32 = .ok (.iaload, 1) := by decide +kernel
theorem dX10_goTo_33 : decode cX10_goTo 33 = .ok (.iadd, 1) := by decide +kernel
theorem dX10_goTo_34 : decode cX10_goTo 34 = .ok (.iastore, 1) := by decide +kernel
theorem dX10_goTo_35 : decode cX10_goTo 35 = .ok (.aload_n 0, 1) := by decide +kernel
theorem dX10_goTo_36 : decode cX10_goTo 36 = .ok (.getfield 7, 3) := by decide +kernel
theorem dX10_goTo_39 : decode cX10_goTo 39 = .ok (.bipush 28, 2) := by decide +kernel
theorem dX10_goTo_41 : decode cX10_goTo 41 = .ok (.iload_n 1, 1) := by decide +kernel
theorem dX10_goTo_42 : decode cX10_goTo 42 = .ok (.iadd, 1) := by decide +kernel
theorem dX10_goTo_43 : decode cX10_goTo 43 = .ok (.iload_n 2, 1) := by decide +kernel
theorem dX10_goTo_44 : decode cX10_goTo 44 = .ok (.iastore, 1) := by decide +kernel
theorem dX10_goTo_45 : decode cX10_goTo 45 = .ok (.return_, 1) := by decide +kernel
theorem dX10_go_0 : decode cX10_go 0 = .ok (.aload_n 0, 1) := by decide +kernel
theorem dX10_go_1 : decode cX10_go 1 = .ok (.iload_n 1, 1) := by decide +kernel
theorem dX10_go_2 : decode cX10_go 2 = .ok (.invokevirtual 206, 3) := by decide +kernel
theorem dX10_go_5 : decode cX10_go 5 = .ok (.ifCond .eq 11, 3) := by decide +kernel
theorem dX10_go_8 : decode cX10_go 8 = .ok (.aload_n 0, 1) := by decide +kernel
theorem dX10_go_9 : decode cX10_go 9 = .ok (.iload_n 2, 1) := by decide +kernel
theorem dX10_go_10 : decode cX10_go 10 = .ok (.invokevirtual 202, 3) := by decide +kernel
theorem dX10_go_13 : decode cX10_go 13 = .ok (.ifCond .ne 6, 3) := by decide +kernel
theorem dX10_go_16 : decode cX10_go 16 = .ok (.ldc 205, 2) := by decide +kernel
theorem dX10_go_18 : decode cX10_go 18 = .ok (.ireturn, 1) := by decide +kernel
theorem dX10_go_19 : decode cX10_go 19 = .ok (.aload_n 0, 1) := by decide +kernel
theorem dX10_go_20 : decode cX10_go 20 = .ok (.iload_n 1, 1) := by decide +kernel
theorem dX10_go_21 : decode cX10_go 21 = .ok (.iload_n 2, 1) := by decide +kernel
theorem dX10_go_22 : decode cX10_go 22 = .ok (.invokevirtual 223, 3) := by decide +kernel
theorem dX10_go_25 : decode cX10_go 25 = .ok (.ifCond .ne 6, 3) := by decide +kernel
theorem dX10_go_28 : decode cX10_go 28 = .ok (.ldc 227, 2) := by decide +kernel
theorem dX10_go_30 : decode cX10_go 30 = .ok (.ireturn, 1) := by decide +kernel
theorem dX10_go_31 : decode cX10_go 31 = .ok (.aload_n 0, 1) := by decide +kernel
theorem dX10_go_32 : decode cX10_go 32 = .ok (.iload_n 1, 1) := by decide +kernel
theorem dX10_go_33 : decode cX10_go 33 = .ok (.iload_n 2, 1) := by decide +kernel
theorem dX10_go_34 : decode cX10_go 34 = .ok (.invokevirtual 228, 3) := by decide +kernel
theorem dX10_go_37 : decode cX10_go 37 = .ok (.aload_n 0, 1) := by decide +kernel
theorem dX10_go_38 : decode cX10_go 38 = .ok (.getfield 7, 3) := by decide +kernel
theorem dX10_go_41 : decode cX10_go 41 = .ok (.bipush 31, 2) := by decide +kernel
theorem dX10_go_43 : decode cX10_go 43 = .ok (.iload_n 1, 1) := by decide +kernel
theorem dX10_go_44 : decode cX10_go 44 = .ok (.iadd, 1) := by decide +kernel
theorem dX10_go_45 : decode cX10_go 45 = .ok (.iaload, 1) := by decide +kernel
theorem dX10_go_46 : decode cX10_go 46 = .ok (.ireturn, 1) := by decide +kernel
theorem dX10_takeWith_0 : decode cX10_takeWith 0 = .ok (.iconst 1, 1) := by decide +kernel
theorem dX10_takeWith_1 : decode cX10_takeWith 1 = .ok (.iload_n 1, 1) := by decide +kernel
theorem dX10_takeWith_2 : decode cX10_takeWith 2 = .ok (.ishl, 1) := by decide +kernel
theorem dX10_takeWith_3 : decode cX10_takeWith 3 = .ok (.istore_n 2, 1) := by decide +kernel
theorem dX10_takeWith_4 : decode cX10_takeWith 4 = .ok (.iload_n 1, 1) := by decide +kernel
theorem dX10_takeWith_5 : decode cX10_takeWith 5 = .ok (.iconst 1, 1) := by decide +kernel
theorem dX10_takeWith_6 : decode cX10_takeWith 6 = .ok (.iadd, 1) := by decide +kernel
theorem dX10_takeWith_7 : decode cX10_takeWith 7 = .ok (.istore_n 3, 1) := by decide +kernel
theorem dX10_takeWith_8 : decode cX10_takeWith 8 = .ok (.iload_n 3, 1) := by decide +kernel
theorem dX10_takeWith_9 : decode cX10_takeWith 9 = .ok (.aload_n 0, 1) := by decide +kernel
theorem dX10_takeWith_10 : decode cX10_takeWith 10 = .ok (.getfield 175, 3) := by decide +kernel
theorem dX10_takeWith_13 : decode cX10_takeWith 13 = .ok (.if_icmp .ge 71, 3) := by decide +kernel
theorem dX10_takeWith_16 : decode cX10_takeWith 16 = .ok (.aload_n 0, 1) := by decide +kernel
theorem dX10_takeWith_17 : decode cX10_takeWith 17 = .ok (.getfield 44, 3) := by decide +kernel
theorem dX10_takeWith_20 : decode cX10_takeWith 20 = .ok (.iload_n 3, 1) := by decide +kernel
theorem dX10_takeWith_21 : decode cX10_takeWith 21 = .ok (.iaload, 1) := by decide +kernel
theorem dX10_takeWith_22 : decode cX10_takeWith 22 = .ok (.bipush 9, 2) := by decide +kernel
theorem dX10_takeWith_24 : decode cX10_takeWith 24 = .ok (.if_icmp .eq 54, 3) := by decide +kernel
theorem dX10_takeWith_27 : decode cX10_takeWith 27 = .ok (.iload_n 2, 1) := by decide +kernel
theorem dX10_takeWith_28 : decode cX10_takeWith 28 = .ok (.aload_n 0, 1) := by decide +kernel
theorem dX10_takeWith_29 : decode cX10_takeWith 29 = .ok (.getfield 44, 3) := by decide +kernel
theorem dX10_takeWith_32 : decode cX10_takeWith 32 = .ok (.iload_n 3, 1) := by decide +kernel
theorem dX10_takeWith_33 : decode cX10_takeWith 33 = .ok (.iaload, 1) := by decide +kernel
theorem dX10_takeWith_34 : decode cX10_takeWith 34 = .ok (.invokestatic 232, 3) := by decide +kernel
theorem dX10_takeWith_37 : decode cX10_takeWith 37 = .ok (.ifCond .eq 41, 3) := by decide +kernel
theorem dX10_takeWith_40 : decode cX10_takeWith 40 = .ok (.iload_n 2, 1) := by decide +kernel
theorem dX10_takeWith_41 : decode cX10_takeWith 41 = .ok (.iconst 1, 1) := by decide +kernel
theorem dX10_takeWith_42 : decode cX10_takeWith 42 = .ok (.iload_n 3, 1) := by decide +kernel
theorem dX10_takeWith_43 : decode cX10_takeWith 43 = .ok (.ishl, 1) := by decide +kernel
theorem dX10_takeWith_44 : decode cX10_takeWith 44 = .ok (.ior, 1) := by decide +kernel
theorem dX10_takeWith_45 : decode cX10_takeWith 45 = .ok (.istore_n 2, 1) := by decide +kernel
theorem dX10_takeWith_46 : decode cX10_takeWith 46 = .ok (.aload_n 0, 1) := by decide +kernel
theorem dX10_takeWith_47 : decode cX10_takeWith 47 = .ok (.getfield 7, 3) := by decide +kernel
theorem dX10_takeWith_50 : decode cX10_takeWith 50 = .ok (.iload_n 3, 1) := by decide +kernel
theorem dX10_takeWith_51 : decode cX10_takeWith 51 = .ok (.iaload, 1) := by decide +kernel
theorem dX10_takeWith_52 : decode cX10_takeWith 52 = .ok (.ifCond .ne 26, 3) := by decide +kernel
theorem dX10_takeWith_55 : decode cX10_takeWith 55 = .ok (.aload_n 0, 1) := by decide +kernel
theorem dX10_takeWith_56 : decode cX10_takeWith 56 = .ok (.getfield 7, 3) := by decide +kernel
theorem dX10_takeWith_59 : decode cX10_takeWith 59 = .ok (.iload_n 3, 1) := by decide +kernel
theorem dX10_takeWith_60 : decode cX10_takeWith 60 = .ok (.iconst 3, 1) := by decide +kernel
theorem dX10_takeWith_61 : decode cX10_takeWith 61 = .ok (.iastore, 1) := by decide +kernel
theorem dX10_takeWith_62 : decode cX10_takeWith 62 = .ok (.aload_n 0, 1) := by decide +kernel
theorem dX10_takeWith_63 : decode cX10_takeWith 63 = .ok (.getfield 7, 3) := by decide +kernel
theorem dX10_takeWith_66 : decode cX10_takeWith 66 = .ok (.bipush 7, 2) := by decide +kernel
theorem dX10_takeWith_68 : decode cX10_takeWith 68 = .ok (.iload_n 3, 1) := by decide +kernel
theorem dX10_takeWith_69 : decode cX10_takeWith 69 = .ok (.iadd, 1) := by decide +kernel
theorem dX10_takeWith_70 : decode cX10_takeWith 70 = .ok (.aload_n 0, 1) := by decide +kernel
theorem dX10_takeWith_71 : decode cX10_takeWith 71 = .ok (.getfield 7, 3) := by decide +kernel
theorem dX10_takeWith_74 : decode cX10_takeWith 74 = .ok (.bipush 37, 2) := by decide +kernel
theorem dX10_takeWith_76 : decode cX10_takeWith 76 = .ok (.iaload, 1) := by decide +kernel
theorem dX10_takeWith_77 : decode cX10_takeWith 77 = .ok (.iastore, 1) := by decide +kernel
theorem dX10_takeWith_78 : decode cX10_takeWith 78 = .ok (.iinc 3 1, 3) := by decide +kernel
theorem dX10_takeWith_81 : decode cX10_takeWith 81 = .ok (.goto (-73), 3) := by decide +kernel
theorem dX10_takeWith_84 : decode cX10_takeWith 84 = .ok (.return_, 1) := by decide +kernel
theorem dX10_fallOn_0 : decode cX10_fallOn 0 = .ok (.aload_n 0, 1) := by decide +kernel
theorem dX10_fallOn_1 : decode cX10_fallOn 1 = .ok (.getfield 26, 3) := by decide +kernel
theorem dX10_fallOn_4 : decode cX10_fallOn 4 = .ok (.aload_n 0, 1) := by decide +kernel
theorem dX10_fallOn_5 : decode cX10_fallOn 5 = .ok (.getfield 7, 3) := by decide +kernel
theorem dX10_fallOn_8 : decode cX10_fallOn 8 = .ok (.bipush 14, 2) := by decide +kernel
theorem dX10_fallOn_10 : decode cX10_fallOn 10 = .ok (.iload_n 1, 1) := by decide +kernel
theorem dX10_fallOn_11 : decode cX10_fallOn 11 = .ok (.iadd, 1) := by decide +kernel
theorem dX10_fallOn_12 : decode cX10_fallOn 12 = .ok (.iaload, 1) := by decide +kernel
theorem dX10_fallOn_13 : decode cX10_fallOn 13 = .ok (.iaload, 1) := by decide +kernel
theorem dX10_fallOn_14 : decode cX10_fallOn 14 = .ok (.istore_n 3, 1) := by decide +kernel
theorem dX10_fallOn_15 : decode cX10_fallOn 15 = .ok (.aload_n 0, 1) := by decide +kernel
theorem dX10_fallOn_16 : decode cX10_fallOn 16 = .ok (.getfield 7, 3) := by decide +kernel
theorem dX10_fallOn_19 : decode cX10_fallOn 19 = .ok (.bipush 34, 2) := by decide +kernel
theorem dX10_fallOn_21 : decode cX10_fallOn 21 = .ok (.iload_n 3, 1) := by decide +kernel
theorem dX10_fallOn_22 : decode cX10_fallOn 22 = .ok (.iadd, 1) := by decide +kernel
theorem dX10_fallOn_23 : decode cX10_fallOn 23 = .ok (.dup2, 1) := by decide +kernel
theorem dX10_fallOn_24 : decode cX10_fallOn 24 = .ok (.iaload, 1) := by decide +kernel
theorem dX10_fallOn_25 : decode cX10_fallOn 25 = .ok (.iload_n 2, 1) := by decide +kernel
theorem dX10_fallOn_26 : decode cX10_fallOn 26 = .ok (.iadd, 1) := by decide +kernel
theorem dX10_fallOn_27 : decode cX10_fallOn 27 = .ok (.iastore, 1) := by decide +kernel
theorem dX10_fallOn_28 : decode cX10_fallOn 28 = .ok (.return_, 1) := by decide +kernel
theorem dX10_copy_0 : decode cX10_copy 0 = .ok (.iconst 0, 1) := by decide +kernel
theorem dX10_copy_1 : decode cX10_copy 1 = .ok (.istore_n 3, 1) := by decide +kernel
theorem dX10_copy_2 : decode cX10_copy 2 = .ok (.iload_n 3, 1) := by decide +kernel
theorem dX10_copy_3 : decode cX10_copy 3 = .ok (.bipush 40, 2) := by decide +kernel
theorem dX10_copy_5 : decode cX10_copy 5 = .ok (.if_icmp .ge 25, 3) := by decide +kernel
theorem dX10_copy_8 : decode cX10_copy 8 = .ok (.aload_n 0, 1) := by decide +kernel
theorem dX10_copy_9 : decode cX10_copy 9 = .ok (.getfield 7, 3) := by decide +kernel
theorem dX10_copy_12 : decode cX10_copy 12 = .ok (.iload_n 2, 1) := by decide +kernel
theorem dX10_copy_13 : decode cX10_copy 13 = .ok (.iload_n 3, 1) := by decide +kernel
theorem dX10_copy_14 : decode cX10_copy 14 = .ok (.iadd, 1) := by decide +kernel
theorem dX10_copy_15 : decode cX10_copy 15 = .ok (.aload_n 0, 1) := by decide +kernel
theorem dX10_copy_16 : decode cX10_copy 16 = .ok (.getfield 7, 3) := by decide +kernel
theorem dX10_copy_19 : decode cX10_copy 19 = .ok (.iload_n 1, 1) := by decide +kernel
theorem dX10_copy_20 : decode cX10_copy 20 = .ok (.iload_n 3, 1) := by decide +kernel
theorem dX10_copy_21 : decode cX10_copy 21 = .ok (.iadd, 1) := by decide +kernel
theorem dX10_copy_22 : decode cX10_copy 22 = .ok (.iaload, 1) := by decide +kernel
theorem dX10_copy_23 : decode cX10_copy 23 = .ok (.iastore, 1) := by decide +kernel
theorem dX10_copy_24 : decode cX10_copy 24 = .ok (.iinc 3 1, 3) := by decide +kernel
theorem dX10_copy_27 : decode cX10_copy 27 = .ok (.goto (-25), 3) := by decide +kernel
theorem dX10_copy_30 : decode cX10_copy 30 = .ok (.return_, 1) := by decide +kernel
theorem dX10_remember_0 : decode cX10_remember 0 = .ok (.aload_n 0, 1) := by decide +kernel
theorem dX10_remember_1 : decode cX10_remember 1 = .ok (.getfield 184, 3) := by decide +kernel
theorem dX10_remember_4 : decode cX10_remember 4 = .ok (.bipush 30, 2) := by decide +kernel
theorem dX10_remember_6 : decode cX10_remember 6 = .ok (.if_icmp .ne 49, 3) := by decide +kernel
theorem dX10_remember_9 : decode cX10_remember 9 = .ok (.iconst 1, 1) := by decide +kernel
theorem dX10_remember_10 : decode cX10_remember 10 = .ok (.istore_n 1, 1) := by decide +kernel
theorem dX10_remember_11 : decode cX10_remember 11 = .ok (.iload_n 1, 1) := by decide +kernel
theorem dX10_remember_12 : decode cX10_remember 12 = .ok (.bipush 30, 2) := by decide +kernel
theorem dX10_remember_14 : decode cX10_remember 14 = .ok (.if_icmp .ge 31, 3) := by decide +kernel
theorem dX10_remember_17 : decode cX10_remember 17 = .ok (.aload_n 0, 1) := by decide +kernel
theorem dX10_remember_18 : decode cX10_remember 18 = .ok (.sipush 160, 3) := by decide +kernel
theorem dX10_remember_21 : decode cX10_remember 21 = .ok (.bipush 40, 2) := by decide +kernel
theorem dX10_remember_23 : decode cX10_remember 23 = .ok (.iload_n 1, 1) := by decide +kernel
theorem dX10_remember_24 : decode cX10_remember 24 = .ok (.imul, 1) := by decide +kernel
theorem dX10_remember_25 : decode cX10_remember 25 = .ok (.iadd, 1) := by decide +kernel
theorem dX10_remember_26 : decode cX10_remember 26 = .ok (.sipush 160, 3) := by decide +kernel
theorem dX10_remember_29 : decode cX10_remember 29 = .ok (.bipush 40, 2) := by decide +kernel
theorem dX10_remember_31 : decode cX10_remember 31 = .ok (.iload_n 1, 1) := by decide +kernel
theorem dX10_remember_32 : decode cX10_remember 32 = .ok (.iconst 1, 1) := by decide +kernel
theorem dX10_remember_33 : decode cX10_remember 33 = .ok (.isub, 1) := by decide +kernel
theorem dX10_remember_34 : decode cX10_remember 34 = .ok (.imul, 1) := by decide +kernel
theorem dX10_remember_35 : decode cX10_remember 35 = .ok (.iadd, 1) := by decide +kernel
theorem dX10_remember_36 : decode cX10_remember 36 = .ok (.invokevirtual 235, 3) := by decide +kernel
theorem dX10_remember_39 : decode cX10_remember 39 = .ok (.iinc 1 1, 3) := by decide +kernel
theorem dX10_remember_42 : decode cX10_remember 42 = .ok (.goto (-31), 3) := by decide +kernel
theorem dX10_remember_45 : decode cX10_remember 45 = .ok (.aload_n 0, 1) := by decide +kernel
theorem dX10_remember_46 : decode cX10_remember 46 = .ok (.dup, 1) := by decide +kernel
theorem dX10_remember_47 : decode cX10_remember 47 = .ok (.getfield 184, 3) := by decide +kernel
theorem dX10_remember_50 : decode cX10_remember 50 = .ok (.iconst 1, 1) := by decide +kernel
theorem dX10_remember_51 : decode cX10_remember 51 = .ok (.isub, 1) := by decide +kernel
theorem dX10_remember_52 : decode cX10_remember 52 = .ok (.putfield 184, 3) := by decide +kernel
theorem dX10_remember_55 : decode cX10_remember 55 = .ok (.aload_n 0, 1) := by decide +kernel
theorem dX10_remember_56 : decode cX10_remember 56 = .ok (.iconst 0, 1) := by decide +kernel
theorem dX10_remember_57 : decode cX10_remember 57 = .ok (.sipush 160, 3) := by decide +kernel
theorem dX10_remember_60 : decode cX10_remember 60 = .ok (.bipush 40, 2) := by decide +kernel
theorem dX10_remember_62 : decode cX10_remember 62 = .ok (.aload_n 0, 1) := by decide +kernel
theorem dX10_remember_63 : decode cX10_remember 63 = .ok (.getfield 184, 3) := by decide +kernel
theorem dX10_remember_66 : decode cX10_remember 66 = .ok (.imul, 1) := by decide +kernel
theorem dX10_remember_67 : decode cX10_remember 67 = .ok (.iadd, 1) := by decide +kernel
theorem dX10_remember_68 : decode cX10_remember 68 = .ok (.invokevirtual 235, 3) := by decide +kernel
theorem dX10_remember_71 : decode cX10_remember 71 = .ok (.aload_n 0, 1) := by decide +kernel
theorem dX10_remember_72 : decode cX10_remember 72 = .ok (.dup, 1) := by decide +kernel
theorem dX10_remember_73 : decode cX10_remember 73 = .ok (.getfield 184, 3) := by decide +kernel
theorem dX10_remember_76 : decode cX10_remember 76 = .ok (.iconst 1, 1) := by decide +kernel
theorem dX10_remember_77 : decode cX10_remember 77 = .ok (.iadd, 1) := by decide +kernel
theorem dX10_remember_78 : decode cX10_remember 78 = .ok (.putfield 184, 3) := by decide +kernel
theorem dX10_remember_81 : decode cX10_remember 81 = .ok (.return_, 1) := by decide +kernel
theorem dX10_passDay_0 : decode cX10_passDay 0 = .ok (.aload_n 0, 1) := by decide +kernel
theorem dX10_passDay_1 : decode cX10_passDay 1 = .ok (.invokevirtual 238, 3) := by decide +kernel
theorem dX10_passDay_4 : decode cX10_passDay 4 = .ok (.iconst 0, 1) := by decide +kernel
theorem dX10_passDay_5 : decode cX10_passDay 5 = .ok (.istore_n 1, 1) := by decide +kernel
theorem dX10_passDay_6 : decode cX10_passDay 6 = .ok (.iload_n 1, 1) := by decide +kernel
theorem dX10_passDay_7 : decode cX10_passDay 7 = .ok (.aload_n 0, 1) := by decide +kernel
theorem dX10_passDay_8 : decode cX10_passDay 8 = .ok (.getfield 175, 3) := by decide +kernel
theorem dX10_passDay_11 : decode cX10_passDay 11 = .ok (.if_icmp .ge 92, 3) := by decide +kernel
theorem dX10_passDay_14 : decode cX10_passDay 14 = .ok (.aload_n 0, 1) := by decide +kernel
theorem dX10_passDay_15 : decode cX10_passDay 15 = .ok (.getfield 7, 3) := by decide +kernel
theorem dX10_passDay_18 : decode cX10_passDay 18 = .ok (.iload_n 1, 1) := by decide +kernel
theorem dX10_passDay_19 : decode cX10_passDay 19 = .ok (.iaload, 1) := by decide +kernel
theorem dX10_passDay_20 : decode cX10_passDay 20 = .ok (.ifCond .ne 77, 3) := by decide +kernel
theorem dX10_passDay_23 : decode cX10_passDay 23 = .ok (.aload_n 0, 1) := by decide +kernel
theorem dX10_passDay_24 : decode cX10_passDay 24 = .ok (.getfield 7, 3) := by decide +kernel
theorem dX10_passDay_27 : decode cX10_passDay 27 = .ok (.bipush 21, 2) := by decide +kernel
theorem dX10_passDay_29 : decode cX10_passDay 29 = .ok (.iload_n 1, 1) := by decide +kernel
theorem dX10_passDay_30 : decode cX10_passDay 30 = .ok (.iadd, 1) := by decide +kernel
theorem dX10_passDay_31 : decode cX10_passDay 31 = .ok (.iaload, 1) := by decide +kernel
theorem dX10_passDay_32 : decode cX10_passDay 32 = .ok (.ifCond .lt 65, 3) := by decide +kernel
theorem dX10_passDay_35 : decode cX10_passDay 35 = .ok (.aload_n 0, 1) := by decide +kernel
