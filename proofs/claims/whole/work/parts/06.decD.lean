theorem dX8_drift_67 : decode cX8_drift 67 = .ok (.iaload, 1) := by decide +kernel
theorem dX8_drift_68 : decode cX8_drift 68 = .ok (.iconst 1, 1) := by decide +kernel
theorem dX8_drift_69 : decode cX8_drift 69 = .ok (.if_icmp .le 25, 3) := by decide +kernel
theorem dX8_drift_72 : decode cX8_drift 72 = .ok (.aload_n 0, 1) := by decide +kernel
theorem dX8_drift_73 : decode cX8_drift 73 = .ok (.aload_n 0, 1) := by decide +kernel
theorem dX8_drift_74 : decode cX8_drift 74 = .ok (.getfield 7, 3) := by decide +kernel
theorem dX8_drift_77 : decode cX8_drift 77 = .ok (.iconst 3, 1) := by decide +kernel
theorem dX8_drift_78 : decode cX8_drift 78 = .ok (.iaload, 1) := by decide +kernel
theorem dX8_drift_79 : decode cX8_drift 79 = .ok (.ldc 131, 2) := by decide +kernel
theorem dX8_drift_81 : decode cX8_drift 81 = .ok (.idiv, 1) := by decide +kernel
theorem dX8_drift_82 : decode cX8_drift 82 = .ok (.aload_n 0, 1) := by decide +kernel
theorem dX8_drift_83 : decode cX8_drift 83 = .ok (.getfield 7, 3) := by decide +kernel
theorem dX8_drift_86 : decode cX8_drift 86 = .ok (.iconst 1, 1) := by decide +kernel
theorem dX8_drift_87 : decode cX8_drift 87 = .ok (.iaload, 1) := by decide +kernel
theorem dX8_drift_88 : decode cX8_drift 88 = .ok (.iconst 1, 1) := by decide +kernel
theorem dX8_drift_89 : decode cX8_drift 89 = .ok (.isub, 1) := by decide +kernel
theorem dX8_drift_90 : decode cX8_drift 90 = .ok (.irem, 1) := by decide +kernel
theorem dX8_drift_91 : decode cX8_drift 91 = .ok (.invokevirtual 125, 3) := by decide +kernel
theorem dX8_drift_94 : decode cX8_drift 94 = .ok (.aload_n 0, 1) := by decide +kernel
theorem dX8_drift_95 : decode cX8_drift 95 = .ok (.invokevirtual 122, 3) := by decide +kernel
theorem dX8_drift_98 : decode cX8_drift 98 = .ok (.iinc 2 1, 3) := by decide +kernel
theorem dX8_drift_101 : decode cX8_drift 101 = .ok (.goto (-70), 3) := by decide +kernel
theorem dX8_drift_104 : decode cX8_drift 104 = .ok (.aload_n 0, 1) := by decide +kernel
theorem dX8_drift_105 : decode cX8_drift 105 = .ok (.invokevirtual 75, 3) := by decide +kernel
theorem dX8_drift_108 : decode cX8_drift 108 = .ok (.ireturn, 1) := by decide +kernel
theorem dX8_undo_0 : decode cX8_undo 0 = .ok (.aload_n 0, 1) := by decide +kernel
theorem dX8_undo_1 : decode cX8_undo 1 = .ok (.getfield 7, 3) := by decide +kernel
theorem dX8_undo_4 : decode cX8_undo 4 = .ok (.bipush 40, 2) := by decide +kernel
theorem dX8_undo_6 : decode cX8_undo 6 = .ok (.iaload, 1) := by decide +kernel
theorem dX8_undo_7 : decode cX8_undo 7 = .ok (.ifCond .ne 6, 3) := by decide +kernel
theorem dX8_undo_10 : decode cX8_undo 10 = .ok (.bipush (-4), 2) := by decide +kernel
theorem dX8_undo_12 : decode cX8_undo 12 = .ok (.ireturn, 1) := by decide +kernel
theorem dX8_undo_13 : decode cX8_undo 13 = .ok (.aload_n 0, 1) := by decide +kernel
theorem dX8_undo_14 : decode cX8_undo 14 = .ok (.getfield 7, 3) := by decide +kernel
theorem dX8_undo_17 : decode cX8_undo 17 = .ok (.bipush 40, 2) := by decide +kernel
theorem dX8_undo_19 : decode cX8_undo 19 = .ok (.dup2, 1) := by decide +kernel
theorem dX8_undo_20 : decode cX8_undo 20 = .ok (.iaload, 1) := by decide +kernel
theorem dX8_undo_21 : decode cX8_undo 21 = .ok (.iconst 1, 1) := by decide +kernel
theorem dX8_undo_22 : decode cX8_undo 22 = .ok (.isub, 1) := by decide +kernel
theorem dX8_undo_23 : decode cX8_undo 23 = .ok (.iastore, 1) := by decide +kernel
theorem dX8_undo_24 : decode cX8_undo 24 = .ok (.iconst 0, 1) := by decide +kernel
theorem dX8_undo_25 : decode cX8_undo 25 = .ok (.istore_n 1, 1) := by decide +kernel
theorem dX8_undo_26 : decode cX8_undo 26 = .ok (.iload_n 1, 1) := by decide +kernel
theorem dX8_undo_27 : decode cX8_undo 27 = .ok (.bipush 15, 2) := by decide +kernel
theorem dX8_undo_29 : decode cX8_undo 29 = .ok (.if_icmp .ge 37, 3) := by decide +kernel
theorem dX8_undo_32 : decode cX8_undo 32 = .ok (.aload_n 0, 1) := by decide +kernel
theorem dX8_undo_33 : decode cX8_undo 33 = .ok (.getfield 7, 3) := by decide +kernel
theorem dX8_undo_36 : decode cX8_undo 36 = .ok (.iconst 1, 1) := by decide +kernel
theorem dX8_undo_37 : decode cX8_undo 37 = .ok (.iload_n 1, 1) := by decide +kernel
theorem dX8_undo_38 : decode cX8_undo 38 = .ok (.iadd, 1) := by decide +kernel
theorem dX8_undo_39 : decode cX8_undo 39 = .ok (.aload_n 0, 1) := by decide +kernel
theorem dX8_undo_40 : decode cX8_undo 40 = .ok (.getfield 7, 3) := by decide +kernel
theorem dX8_undo_43 : decode cX8_undo 43 = .ok (.bipush 41, 2) := by decide +kernel
theorem dX8_undo_45 : decode cX8_undo 45 = .ok (.bipush 15, 2) := by decide +kernel
theorem dX8_undo_47 : decode cX8_undo 47 = .ok (.aload_n 0, 1) := by decide +kernel
theorem dX8_undo_48 : decode cX8_undo 48 = .ok (.getfield 7, 3) := by decide +kernel
theorem dX8_undo_51 : decode cX8_undo 51 = .ok (.bipush 40, 2) := by decide +kernel
theorem dX8_undo_53 : decode cX8_undo 53 = .ok (.iaload, 1) := by decide +kernel
theorem dX8_undo_54 : decode cX8_undo 54 = .ok (.imul, 1) := by decide +kernel
theorem dX8_undo_55 : decode cX8_undo 55 = .ok (.iadd, 1) := by decide +kernel
theorem dX8_undo_56 : decode cX8_undo 56 = .ok (.iload_n 1, 1) := by decide +kernel
theorem dX8_undo_57 : decode cX8_undo 57 = .ok (.iadd, 1) := by decide +kernel
theorem dX8_undo_58 : decode cX8_undo 58 = .ok (.iaload, 1) := by decide +kernel
theorem dX8_undo_59 : decode cX8_undo 59 = .ok (.iastore, 1) := by decide +kernel
theorem dX8_undo_60 : decode cX8_undo 60 = .ok (.iinc 1 1, 3) := by decide +kernel
theorem dX8_undo_63 : decode cX8_undo 63 = .ok (.goto (-37), 3) := by decide +kernel
theorem dX8_undo_66 : decode cX8_undo 66 = .ok (.aload_n 0, 1) := by decide +kernel
theorem dX8_undo_67 : decode cX8_undo 67 = .ok (.getfield 7, 3) := by decide +kernel
theorem dX8_undo_70 : decode cX8_undo 70 = .ok (.bipush 40, 2) := by decide +kernel
theorem dX8_undo_72 : decode cX8_undo 72 = .ok (.iaload, 1) := by decide +kernel
theorem dX8_undo_73 : decode cX8_undo 73 = .ok (.ireturn, 1) := by decide +kernel
theorem dX8_seed_0 : decode cX8_seed 0 = .ok (.iload_n 1, 1) := by decide +kernel
theorem dX8_seed_1 : decode cX8_seed 1 = .ok (.ifCond .ge 5, 3) := by decide +kernel
theorem dX8_seed_4 : decode cX8_seed 4 = .ok (.iconst (-1), 1) := by decide +kernel
theorem dX8_seed_5 : decode cX8_seed 5 = .ok (.ireturn, 1) := by decide +kernel
theorem dX8_seed_6 : decode cX8_seed 6 = .ok (.aload_n 0, 1) := by decide +kernel
theorem dX8_seed_7 : decode cX8_seed 7 = .ok (.getfield 7, 3) := by decide +kernel
theorem dX8_seed_10 : decode cX8_seed 10 = .ok (.iconst 3, 1) := by decide +kernel
theorem dX8_seed_11 : decode cX8_seed 11 = .ok (.iaload, 1) := by decide +kernel
theorem dX8_seed_12 : decode cX8_seed 12 = .ok (.istore_n 2, 1) := by decide +kernel
theorem dX8_seed_13 : decode cX8_seed 13 = .ok (.aload_n 0, 1) := by decide +kernel
theorem dX8_seed_14 : decode cX8_seed 14 = .ok (.getfield 7, 3) := by decide +kernel
theorem dX8_seed_17 : decode cX8_seed 17 = .ok (.iconst 3, 1) := by decide +kernel
theorem dX8_seed_18 : decode cX8_seed 18 = .ok (.iload_n 1, 1) := by decide +kernel
theorem dX8_seed_19 : decode cX8_seed 19 = .ok (.iastore, 1) := by decide +kernel
theorem dX8_seed_20 : decode cX8_seed 20 = .ok (.iload_n 2, 1) := by decide +kernel
theorem dX8_seed_21 : decode cX8_seed 21 = .ok (.ireturn, 1) := by decide +kernel
theorem dX8_holds_0 : decode cX8_holds 0 = .ok (.iconst 0, 1) := by decide +kernel
theorem dX8_holds_1 : decode cX8_holds 1 = .ok (.istore_n 1, 1) := by decide +kernel
theorem dX8_holds_2 : decode cX8_holds 2 = .ok (.iload_n 1, 1) := by decide +kernel
theorem dX8_holds_3 : decode cX8_holds 3 = .ok (.bipush 40, 2) := by decide +kernel
theorem dX8_holds_5 : decode cX8_holds 5 = .ok (.if_icmp .ge 21, 3) := by decide +kernel
theorem dX8_holds_8 : decode cX8_holds 8 = .ok (.aload_n 0, 1) := by decide +kernel
theorem dX8_holds_9 : decode cX8_holds 9 = .ok (.getfield 38, 3) := by decide +kernel
theorem dX8_holds_12 : decode cX8_holds 12 = .ok (.iload_n 1, 1) := by decide +kernel
theorem dX8_holds_13 : decode cX8_holds 13 = .ok (.aload_n 0, 1) := by decide +kernel
theorem dX8_holds_14 : decode cX8_holds 14 = .ok (.getfield 7, 3) := by decide +kernel
theorem dX8_holds_17 : decode cX8_holds 17 = .ok (.iload_n 1, 1) := by decide +kernel
theorem dX8_holds_18 : decode cX8_holds 18 = .ok (.iaload, 1) := by decide +kernel
theorem dX8_holds_19 : decode cX8_holds 19 = .ok (.iastore, 1) := by decide +kernel
theorem dX8_holds_20 : decode cX8_holds 20 = .ok (.iinc 1 1, 3) := by decide +kernel
theorem dX8_holds_23 : decode cX8_holds 23 = .ok (.goto (-21), 3) := by decide +kernel
theorem dX8_holds_26 : decode cX8_holds 26 = .ok (.return_, 1) := by decide +kernel
theorem dX8_lets_0 : decode cX8_lets 0 = .ok (.iconst 0, 1) := by decide +kernel
theorem dX8_lets_1 : decode cX8_lets 1 = .ok (.istore_n 1, 1) := by decide +kernel
theorem dX8_lets_2 : decode cX8_lets 2 = .ok (.iload_n 1, 1) := by decide +kernel
theorem dX8_lets_3 : decode cX8_lets 3 = .ok (.bipush 40, 2) := by decide +kernel
theorem dX8_lets_5 : decode cX8_lets 5 = .ok (.if_icmp .ge 21, 3) := by decide +kernel
theorem dX8_lets_8 : decode cX8_lets 8 = .ok (.aload_n 0, 1) := by decide +kernel
theorem dX8_lets_9 : decode cX8_lets 9 = .ok (.getfield 7, 3) := by decide +kernel
theorem dX8_lets_12 : decode cX8_lets 12 = .ok (.iload_n 1, 1) := by decide +kernel
theorem dX8_lets_13 : decode cX8_lets 13 = .ok (.aload_n 0, 1) := by decide +kernel
theorem dX8_lets_14 : decode cX8_lets 14 = .ok (.getfield 38, 3) := by decide +kernel
theorem dX8_lets_17 : decode cX8_lets 17 = .ok (.iload_n 1, 1) := by decide +kernel
theorem dX8_lets_18 : decode cX8_lets 18 = .ok (.iaload, 1) := by decide +kernel
theorem dX8_lets_19 : decode cX8_lets 19 = .ok (.iastore, 1) := by decide +kernel
theorem dX8_lets_20 : decode cX8_lets 20 = .ok (.iinc 1 1, 3) := by decide +kernel
theorem dX8_lets_23 : decode cX8_lets 23 = .ok (.goto (-21), 3) := by decide +kernel
theorem dX8_lets_26 : decode cX8_lets 26 = .ok (.return_, 1) := by decide +kernel
theorem dX8_ahead_0 : decode cX8_ahead 0 = .ok (.aload_n 0, 1) := by decide +kernel
theorem dX8_ahead_1 : decode cX8_ahead 1 = .ok (.iload_n 1, 1) := by decide +kernel
theorem dX8_ahead_2 : decode cX8_ahead 2 = .ok (.invokevirtual 52, 3) := by decide +kernel
theorem dX8_ahead_5 : decode cX8_ahead 5 = .ok (.ifCond .eq 13, 3) := by decide +kernel
theorem dX8_ahead_8 : decode cX8_ahead 8 = .ok (.iload_n 2, 1) := by decide +kernel
theorem dX8_ahead_9 : decode cX8_ahead 9 = .ok (.iconst 0, 1) := by decide +kernel
theorem dX8_ahead_10 : decode cX8_ahead 10 = .ok (.bipush 60, 2) := by decide +kernel
theorem dX8_ahead_12 : decode cX8_ahead 12 = .ok (.invokestatic 44, 3) := by decide +kernel
theorem dX8_ahead_15 : decode cX8_ahead 15 = .ok (.ifCond .ne 5, 3) := by decide +kernel
theorem dX8_ahead_18 : decode cX8_ahead 18 = .ok (.iconst (-1), 1) := by decide +kernel
theorem dX8_ahead_19 : decode cX8_ahead 19 = .ok (.ireturn, 1) := by decide +kernel
theorem dX8_ahead_20 : decode cX8_ahead 20 = .ok (.aload_n 0, 1) := by decide +kernel
theorem dX8_ahead_21 : decode cX8_ahead 21 = .ok (.invokevirtual 132, 3) := by decide +kernel
theorem dX8_ahead_24 : decode cX8_ahead 24 = .ok (.iconst 0, 1) := by decide +kernel
theorem dX8_ahead_25 : decode cX8_ahead 25 = .ok (.istore_n 3, 1) := by decide +kernel
theorem dX8_ahead_26 : decode cX8_ahead 26 = .ok (.iload_n 3, 1) := by decide +kernel
theorem dX8_ahead_27 : decode cX8_ahead 27 = .ok (.iload_n 2, 1) := by decide +kernel
theorem dX8_ahead_28 : decode cX8_ahead 28 = .ok (.if_icmp .ge 13, 3) := by decide +kernel
theorem dX8_ahead_31 : decode cX8_ahead 31 = .ok (.aload_n 0, 1) := by decide +kernel
theorem dX8_ahead_32 : decode cX8_ahead 32 = .ok (.invokevirtual 122, 3) := by decide +kernel
theorem dX8_ahead_35 : decode cX8_ahead 35 = .ok (.iinc 3 1, 3) := by decide +kernel
theorem dX8_ahead_38 : decode cX8_ahead 38 = .ok (.goto (-12), 3) := by decide +kernel
theorem dX8_ahead_41 : decode cX8_ahead 41 = .ok (.aload_n 0, 1) := by decide +kernel
theorem dX8_ahead_42 : decode cX8_ahead 42 = .ok (.getfield 7, 3) := by decide +kernel
theorem dX8_ahead_45 : decode cX8_ahead 45 = .ok (.iconst 4, 1) := by decide +kernel
theorem dX8_ahead_46 : decode cX8_ahead 46 = .ok (.iload_n 1, 1) := by decide +kernel
theorem dX8_ahead_47 : decode cX8_ahead 47 = .ok (.iadd, 1) := by decide +kernel
theorem dX8_ahead_48 : decode cX8_ahead 48 = .ok (.iaload, 1) := by decide +kernel
theorem dX8_ahead_49 : decode cX8_ahead 49 = .ok (.istore_n 3, 1) := by decide +kernel
theorem dX8_ahead_50 : decode cX8_ahead 50 = .ok (.aload_n 0, 1) := by decide +kernel
theorem dX8_ahead_51 : decode cX8_ahead 51 = .ok (.invokevirtual 135, 3) := by decide +kernel
theorem dX8_ahead_54 : decode cX8_ahead 54 = .ok (.iload_n 3, 1) := by decide +kernel
theorem dX8_ahead_55 : decode cX8_ahead 55 = .ok (.ireturn, 1) := by decide +kernel
theorem dX8_then_0 : decode cX8_then 0 = .ok (.iload_n 1, 1) := by decide +kernel
theorem dX8_then_1 : decode cX8_then 1 = .ok (.iconst 0, 1) := by decide +kernel
theorem dX8_then_2 : decode cX8_then 2 = .ok (.bipush 60, 2) := by decide +kernel
theorem dX8_then_4 : decode cX8_then 4 = .ok (.invokestatic 44, 3) := by decide +kernel
theorem dX8_then_7 : decode cX8_then 7 = .ok (.ifCond .ne 5, 3) := by decide +kernel
theorem dX8_then_10 : decode cX8_then 10 = .ok (.iconst (-1), 1) := by decide +kernel
theorem dX8_then_11 : decode cX8_then 11 = .ok (.ireturn, 1) := by decide +kernel
theorem dX8_then_12 : decode cX8_then 12 = .ok (.aload_n 0, 1) := by decide +kernel
theorem dX8_then_13 : decode cX8_then 13 = .ok (.invokevirtual 132, 3) := by decide +kernel
theorem dX8_then_16 : decode cX8_then 16 = .ok (.iconst 0, 1) := by decide +kernel
theorem dX8_then_17 : decode cX8_then 17 = .ok (.istore_n 2, 1) := by decide +kernel
theorem dX8_then_18 : decode cX8_then 18 = .ok (.iload_n 2, 1) := by decide +kernel
theorem dX8_then_19 : decode cX8_then 19 = .ok (.iload_n 1, 1) := by decide +kernel
theorem dX8_then_20 : decode cX8_then 20 = .ok (.if_icmp .ge 13, 3) := by decide +kernel
theorem dX8_then_23 : decode cX8_then 23 = .ok (.aload_n 0, 1) := by decide +kernel
theorem dX8_then_24 : decode cX8_then 24 = .ok (.invokevirtual 122, 3) := by decide +kernel
theorem dX8_then_27 : decode cX8_then 27 = .ok (.iinc 2 1, 3) := by decide +kernel
theorem dX8_then_30 : decode cX8_then 30 = .ok (.goto (-12), 3) := by decide +kernel
theorem dX8_then_33 : decode cX8_then 33 = .ok (.aload_n 0, 1) := by decide +kernel
theorem dX8_then_34 : decode cX8_then 34 = .ok (.invokevirtual 75, 3) := by decide +kernel
theorem dX8_then_37 : decode cX8_then 37 = .ok (.istore_n 2, 1) := by decide +kernel
theorem dX8_then_38 : decode cX8_then 38 = .ok (.aload_n 0, 1) := by decide +kernel
theorem dX8_then_39 : decode cX8_then 39 = .ok (.invokevirtual 135, 3) := by decide +kernel
theorem dX8_then_42 : decode cX8_then 42 = .ok (.iload_n 2, 1) := by decide +kernel
theorem dX8_then_43 : decode cX8_then 43 = .ok (.ireturn, 1) := by decide +kernel
theorem dX8_ends_0 : decode cX8_ends 0 = .ok (.aload_n 0, 1) := by decide +kernel
theorem dX8_ends_1 : decode cX8_ends 1 = .ok (.iload_n 1, 1) := by decide +kernel
theorem dX8_ends_2 : decode cX8_ends 2 = .ok (.invokevirtual 52, 3) := by decide +kernel
theorem dX8_ends_5 : decode cX8_ends 5 = .ok (.ifCond .ne 5, 3) := by decide +kernel
theorem dX8_ends_8 : decode cX8_ends 8 = .ok (.iconst (-1), 1) := by decide +kernel
theorem dX8_ends_9 : decode cX8_ends 9 = .ok (.ireturn, 1) := by decide +kernel
theorem dX8_ends_10 : decode cX8_ends 10 = .ok (.aload_n 0, 1) := by decide +kernel
theorem dX8_ends_11 : decode cX8_ends 11 = .ok (.invokevirtual 132, 3) := by decide +kernel
theorem dX8_ends_14 : decode cX8_ends 14 = .ok (.iconst 0, 1) := by decide +kernel
theorem dX8_ends_15 : decode cX8_ends 15 = .ok (.istore_n 2, 1) := by decide +kernel
theorem dX8_ends_16 : decode cX8_ends 16 = .ok (.iload_n 2, 1) := by decide +kernel
theorem dX8_ends_17 : decode cX8_ends 17 = .ok (.bipush 60, 2) := by decide +kernel
theorem dX8_ends_19 : decode cX8_ends 19 = .ok (.if_icmp .gt 23, 3) := by decide +kernel
theorem dX8_ends_22 : decode cX8_ends 22 = .ok (.aload_n 0, 1) := by decide +kernel
theorem dX8_ends_23 : decode cX8_ends 23 = .ok (.iload_n 1, 1) := by decide +kernel
theorem dX8_ends_24 : decode cX8_ends 24 = .ok (.invokevirtual 59, 3) := by decide +kernel
theorem dX8_ends_27 : decode cX8_ends 27 = .ok (.bipush (-4), 2) := by decide +kernel
theorem dX8_ends_29 : decode cX8_ends 29 = .ok (.if_icmp .eq 13, 3) := by decide +kernel
theorem dX8_ends_32 : decode cX8_ends 32 = .ok (.aload_n 0, 1) := by decide +kernel
theorem dX8_ends_33 : decode cX8_ends 33 = .ok (.invokevirtual 122, 3) := by decide +kernel
theorem dX8_ends_36 : decode cX8_ends 36 = .ok (.iinc 2 1, 3) := by decide +kernel
theorem dX8_ends_39 : decode cX8_ends 39 = .ok (.goto (-23), 3) := by decide +kernel
theorem dX8_ends_42 : decode cX8_ends 42 = .ok (.aload_n 0, 1) := by decide +kernel
theorem dX8_ends_43 : decode cX8_ends 43 = .ok (.invokevirtual 135, 3) := by decide +kernel
theorem dX8_ends_46 : decode cX8_ends 46 = .ok (.iload_n 2, 1) := by decide +kernel
theorem dX8_ends_47 : decode cX8_ends 47 = .ok (.bipush 60, 2) := by decide +kernel
theorem dX8_ends_49 : decode cX8_ends 49 = .ok (.if_icmp .le 8, 3) := by decide +kernel
theorem dX8_ends_52 : decode cX8_ends 52 = .ok (.bipush (-4), 2) := by decide +kernel
theorem dX8_ends_54 : decode cX8_ends 54 = .ok (.goto 4, 3) := by decide +kernel
theorem dX8_ends_57 : decode cX8_ends 57 = .ok (.iload_n 2, 1) := by decide +kernel
theorem dX8_ends_58 : decode cX8_ends 58 = .ok (.ireturn, 1) := by decide +kernel
theorem dX8_lonely_0 : decode cX8_lonely 0 = .ok (.aload_n 0, 1) := by decide +kernel
theorem dX8_lonely_1 : decode cX8_lonely 1 = .ok (.invokevirtual 132, 3) := by decide +kernel
theorem dX8_lonely_4 : decode cX8_lonely 4 = .ok (.iconst 0, 1) := by decide +kernel
theorem dX8_lonely_5 : decode cX8_lonely 5 = .ok (.istore_n 1, 1) := by decide +kernel
theorem dX8_lonely_6 : decode cX8_lonely 6 = .ok (.iload_n 1, 1) := by decide +kernel
theorem dX8_lonely_7 : decode cX8_lonely 7 = .ok (.bipush 60, 2) := by decide +kernel
theorem dX8_lonely_9 : decode cX8_lonely 9 = .ok (.if_icmp .gt 23, 3) := by decide +kernel
theorem dX8_lonely_12 : decode cX8_lonely 12 = .ok (.aload_n 0, 1) := by decide +kernel
theorem dX8_lonely_13 : decode cX8_lonely 13 = .ok (.getfield 7, 3) := by decide +kernel
theorem dX8_lonely_16 : decode cX8_lonely 16 = .ok (.iconst 1, 1) := by decide +kernel
theorem dX8_lonely_17 : decode cX8_lonely 17 = .ok (.iaload, 1) := by decide +kernel
theorem dX8_lonely_18 : decode cX8_lonely 18 = .ok (.iconst 1, 1) := by decide +kernel
theorem dX8_lonely_19 : decode cX8_lonely 19 = .ok (.if_icmp .le 13, 3) := by decide +kernel
theorem dX8_lonely_22 : decode cX8_lonely 22 = .ok (.aload_n 0, 1) := by decide +kernel
theorem dX8_lonely_23 : decode cX8_lonely 23 = .ok (.invokevirtual 122, 3) := by decide +kernel
theorem dX8_lonely_26 : decode cX8_lonely 26 = .ok (.iinc 1 1, 3) := by decide +kernel
theorem dX8_lonely_29 : decode cX8_lonely 29 = .ok (.goto (-23), 3) := by decide +kernel
theorem dX8_lonely_32 : decode cX8_lonely 32 = .ok (.aload_n 0, 1) := by decide +kernel
theorem dX8_lonely_33 : decode cX8_lonely 33 = .ok (.invokevirtual 135, 3) := by decide +kernel
theorem dX8_lonely_36 : decode cX8_lonely 36 = .ok (.iload_n 1, 1) := by decide +kernel
theorem dX8_lonely_37 : decode cX8_lonely 37 = .ok (.bipush 60, 2) := by decide +kernel
theorem dX8_lonely_39 : decode cX8_lonely 39 = .ok (.if_icmp .le 8, 3) := by decide +kernel
theorem dX8_lonely_42 : decode cX8_lonely 42 = .ok (.bipush (-4), 2) := by decide +kernel
theorem dX8_lonely_44 : decode cX8_lonely 44 = .ok (.goto 4, 3) := by decide +kernel
theorem dX8_lonely_47 : decode cX8_lonely 47 = .ok (.iload_n 1, 1) := by decide +kernel
theorem dX8_lonely_48 : decode cX8_lonely 48 = .ok (.ireturn, 1) := by decide +kernel
theorem dX8_close_0 : decode cX8_close 0 = .ok (.aload_n 0, 1) := by decide +kernel
theorem dX8_close_1 : decode cX8_close 1 = .ok (.iload_n 1, 1) := by decide +kernel
theorem dX8_close_2 : decode cX8_close 2 = .ok (.invokevirtual 52, 3) := by decide +kernel
theorem dX8_close_5 : decode cX8_close 5 = .ok (.ifCond .eq 16, 3) := by decide +kernel
theorem dX8_close_8 : decode cX8_close 8 = .ok (.aload_n 0, 1) := by decide +kernel
theorem dX8_close_9 : decode cX8_close 9 = .ok (.iload_n 2, 1) := by decide +kernel
theorem dX8_close_10 : decode cX8_close 10 = .ok (.invokevirtual 52, 3) := by decide +kernel
theorem dX8_close_13 : decode cX8_close 13 = .ok (.ifCond .eq 8, 3) := by decide +kernel
theorem dX8_close_16 : decode cX8_close 16 = .ok (.iload_n 1, 1) := by decide +kernel
theorem dX8_close_17 : decode cX8_close 17 = .ok (.iload_n 2, 1) := by decide +kernel
theorem dX8_close_18 : decode cX8_close 18 = .ok (.if_icmp .ne 5, 3) := by decide +kernel
theorem dX8_close_21 : decode cX8_close 21 = .ok (.iconst (-1), 1) := by decide +kernel
theorem dX8_close_22 : decode cX8_close 22 = .ok (.ireturn, 1) := by decide +kernel
theorem dX8_close_23 : decode cX8_close 23 = .ok (.aload_n 0, 1) := by decide +kernel
theorem dX8_close_24 : decode cX8_close 24 = .ok (.invokevirtual 132, 3) := by decide +kernel
theorem dX8_close_27 : decode cX8_close 27 = .ok (.iconst 0, 1) := by decide +kernel
theorem dX8_close_28 : decode cX8_close 28 = .ok (.istore_n 3, 1) := by decide +kernel
theorem dX8_close_29 : decode cX8_close 29 = .ok (.iload_n 3, 1) := by decide +kernel
theorem dX8_close_30 : decode cX8_close 30 = .ok (.bipush 60, 2) := by decide +kernel
theorem dX8_close_32 : decode cX8_close 32 = .ok (.if_icmp .gt 25, 3) := by decide +kernel
theorem dX8_close_35 : decode cX8_close 35 = .ok (.aload_n 0, 1) := by decide +kernel
theorem dX8_close_36 : decode cX8_close 36 = .ok (.iload_n 1, 1) := by decide +kernel
theorem dX8_close_37 : decode cX8_close 37 = .ok (.invokevirtual 66, 3) := by decide +kernel
theorem dX8_close_40 : decode cX8_close 40 = .ok (.iload_n 2, 1) := by decide +kernel
theorem dX8_close_41 : decode cX8_close 41 = .ok (.invokestatic 79, 3) := by decide +kernel
theorem dX8_close_44 : decode cX8_close 44 = .ok (.ifCond .ne 13, 3) := by decide +kernel
theorem dX8_close_47 : decode cX8_close 47 = .ok (.aload_n 0, 1) := by decide +kernel
theorem dX8_close_48 : decode cX8_close 48 = .ok (.invokevirtual 122, 3) := by decide +kernel
theorem dX8_close_51 : decode cX8_close 51 = .ok (.iinc 3 1, 3) := by decide +kernel
theorem dX8_close_54 : decode cX8_close 54 = .ok (.goto (-25), 3) := by decide +kernel
theorem dX8_close_57 : decode cX8_close 57 = .ok (.aload_n 0, 1) := by decide +kernel
theorem dX8_close_58 : decode cX8_close 58 = .ok (.invokevirtual 135, 3) := by decide +kernel
theorem dX8_close_61 : decode cX8_close 61 = .ok (.iload_n 3, 1) := by decide +kernel
theorem dX8_close_62 : decode cX8_close 62 = .ok (.bipush 60, 2) := by decide +kernel
theorem dX8_close_64 : decode cX8_close 64 = .ok (.if_icmp .le 8, 3) := by decide +kernel
theorem dX8_close_67 : decode cX8_close 67 = .ok (.bipush (-4), 2) := by decide +kernel
theorem dX8_close_69 : decode cX8_close 69 = .ok (.goto 4, 3) := by decide +kernel
theorem dX8_close_72 : decode cX8_close 72 = .ok (.iload_n 3, 1) := by decide +kernel
theorem dX8_close_73 : decode cX8_close 73 = .ok (.ireturn, 1) := by decide +kernel
theorem dX8_placeOn_0 : decode cX8_placeOn 0 = .ok (.aload_n 0, 1) := by decide +kernel
theorem dX8_placeOn_1 : decode cX8_placeOn 1 = .ok (.getfield 7, 3) := by decide +kernel
theorem dX8_placeOn_4 : decode cX8_placeOn 4 = .ok (.bipush 22, 2) := by decide +kernel
theorem dX8_placeOn_6 : decode cX8_placeOn 6 = .ok (.iconst 3, 1) := by decide +kernel
theorem dX8_placeOn_7 : decode cX8_placeOn 7 = .ok (.aload_n 0, 1) := by decide +kernel
theorem dX8_placeOn_8 : decode cX8_placeOn 8 = .ok (.getfield 7, 3) := by decide +kernel
theorem dX8_placeOn_11 : decode cX8_placeOn 11 = .ok (.bipush 10, 2) := by decide +kernel
theorem dX8_placeOn_13 : decode cX8_placeOn 13 = .ok (.iload_n 1, 1) := by decide +kernel
theorem dX8_placeOn_14 : decode cX8_placeOn 14 = .ok (.iadd, 1) := by decide +kernel
theorem dX8_placeOn_15 : decode cX8_placeOn 15 = .ok (.iaload, 1) := by decide +kernel
theorem dX8_placeOn_16 : decode cX8_placeOn 16 = .ok (.imul, 1) := by decide +kernel
theorem dX8_placeOn_17 : decode cX8_placeOn 17 = .ok (.iadd, 1) := by decide +kernel
theorem dX8_placeOn_18 : decode cX8_placeOn 18 = .ok (.iload_n 2, 1) := by decide +kernel
theorem dX8_placeOn_19 : decode cX8_placeOn 19 = .ok (.iadd, 1) := by decide +kernel
theorem dX8_placeOn_20 : decode cX8_placeOn 20 = .ok (.iaload, 1) := by decide +kernel
theorem dX8_placeOn_21 : decode cX8_placeOn 21 = .ok (.ireturn, 1) := by decide +kernel
theorem dX8_swaps_0 : decode cX8_swaps 0 = .ok (.iload_n 1, 1) := by decide +kernel
theorem dX8_swaps_1 : decode cX8_swaps 1 = .ok (.iconst 0, 1) := by decide +kernel
theorem dX8_swaps_2 : decode cX8_swaps 2 = .ok (.iconst 2, 1) := by decide +kernel
theorem dX8_swaps_3 : decode cX8_swaps 3 = .ok (.invokestatic 44, 3) := by decide +kernel
theorem dX8_swaps_6 : decode cX8_swaps 6 = .ok (.ifCond .ne 5, 3) := by decide +kernel
theorem dX8_swaps_9 : decode cX8_swaps 9 = .ok (.iconst (-1), 1) := by decide +kernel
theorem dX8_swaps_10 : decode cX8_swaps 10 = .ok (.ireturn, 1) := by decide +kernel
theorem dX8_swaps_11 : decode cX8_swaps 11 = .ok (.iconst 0, 1) := by decide +kernel
theorem dX8_swaps_12 : decode cX8_swaps 12 = .ok (.istore_n 2, 1) := by decide +kernel
theorem dX8_swaps_13 : decode cX8_swaps 13 = .ok (.iconst 0, 1) := by decide +kernel
theorem dX8_swaps_14 : decode cX8_swaps 14 = .ok (.istore_n 3, 1) := by decide +kernel
theorem dX8_swaps_15 : decode cX8_swaps 15 = .ok (.iload_n 3, 1) := by decide +kernel
theorem dX8_swaps_16 : decode cX8_swaps 16 = .ok (.aload_n 0, 1) := by decide +kernel
theorem dX8_swaps_17 : decode cX8_swaps 17 = .ok (.getfield 7, 3) := by decide +kernel
theorem dX8_swaps_20 : decode cX8_swaps 20 = .ok (.iconst 1, 1) := by decide +kernel
theorem dX8_swaps_21 : decode cX8_swaps 21 = .ok (.iaload, 1) := by decide +kernel
theorem dX8_swaps_22 : decode cX8_swaps 22 = .ok (.if_icmp .ge 55, 3) := by decide +kernel
theorem dX8_swaps_25 : decode cX8_swaps 25 = .ok (.iload_n 3, 1) := by decide +kernel
theorem dX8_swaps_26 : decode cX8_swaps 26 = .ok (.iconst 1, 1) := by decide +kernel
theorem dX8_swaps_27 : decode cX8_swaps 27 = .ok (.iadd, 1) := by decide +kernel
theorem dX8_swaps_28 : decode cX8_swaps 28 = .ok (.istore 4, 2) := by decide +kernel
theorem dX8_swaps_30 : decode cX8_swaps 30 = .ok (.iload 4, 2) := by decide +kernel
theorem dX8_swaps_32 : decode cX8_swaps 32 = .ok (.aload_n 0, 1) := by decide +kernel
theorem dX8_swaps_33 : decode cX8_swaps 33 = .ok (.getfield 7, 3) := by decide +kernel
theorem dX8_swaps_36 : decode cX8_swaps 36 = .ok (.iconst 1, 1) := by decide +kernel
theorem dX8_swaps_37 : decode cX8_swaps 37 = .ok (.iaload, 1) := by decide +kernel
theorem dX8_swaps_38 : decode cX8_swaps 38 = .ok (.if_icmp .ge 33, 3) := by decide +kernel
theorem dX8_swaps_41 : decode cX8_swaps 41 = .ok (.iload_n 2, 1) := by decide +kernel
theorem dX8_swaps_42 : decode cX8_swaps 42 = .ok (.aload_n 0, 1) := by decide +kernel
theorem dX8_swaps_43 : decode cX8_swaps 43 = .ok (.iload_n 3, 1) := by decide +kernel
theorem dX8_swaps_44 : decode cX8_swaps 44 = .ok (.iload_n 1, 1) := by decide +kernel
theorem dX8_swaps_45 : decode cX8_swaps 45 = .ok (.invokevirtual 138, 3) := by decide +kernel
theorem dX8_swaps_48 : decode cX8_swaps 48 = .ok (.aload_n 0, 1) := by decide +kernel
theorem dX8_swaps_49 : decode cX8_swaps 49 = .ok (.iload 4, 2) := by decide +kernel
theorem dX8_swaps_51 : decode cX8_swaps 51 = .ok (.iload_n 1, 1) := by decide +kernel
theorem dX8_swaps_52 : decode cX8_swaps 52 = .ok (.invokevirtual 138, 3) := by decide +kernel
theorem dX8_swaps_55 : decode cX8_swaps 55 = .ok (.if_icmp .le 7, 3) := by decide +kernel
theorem dX8_swaps_58 : decode cX8_swaps 58 = .ok (.iconst 1, 1) := by decide +kernel
theorem dX8_swaps_59 : decode cX8_swaps 59 = .ok (.goto 4, 3) := by decide +kernel
theorem dX8_swaps_62 : decode cX8_swaps 62 = .ok (.iconst 0, 1) := by decide +kernel
theorem dX8_swaps_63 : decode cX8_swaps 63 = .ok (.iadd, 1) := by decide +kernel
theorem dX8_swaps_64 : decode cX8_swaps 64 = .ok (.istore_n 2, 1) := by decide +kernel
theorem dX8_swaps_65 : decode cX8_swaps 65 = .ok (.iinc 4 1, 3) := by decide +kernel
theorem dX8_swaps_68 : decode cX8_swaps 68 = .ok (.goto (-38), 3) := by decide +kernel
theorem dX8_swaps_71 : decode cX8_swaps 71 = .ok (.iinc 3 1, 3) := by decide +kernel
theorem dX8_swaps_74 : decode cX8_swaps 74 = .ok (.goto (-59), 3) := by decide +kernel
theorem dX8_swaps_77 : decode cX8_swaps 77 = .ok (.iload_n 2, 1) := by decide +kernel
theorem dX8_swaps_78 : decode cX8_swaps 78 = .ok (.ireturn, 1) := by decide +kernel
theorem dX8_isOrder_0 : decode cX8_isOrder 0 = .ok (.iconst 1, 1) := by decide +kernel
theorem dX8_isOrder_1 : decode cX8_isOrder 1 = .ok (.istore_n 3, 1) := by decide +kernel
theorem dX8_isOrder_2 : decode cX8_isOrder 2 = .ok (.iconst (-1), 1) := by decide +kernel
theorem dX8_isOrder_3 : decode cX8_isOrder 3 = .ok (.istore 4, 2) := by decide +kernel
theorem dX8_isOrder_5 : decode cX8_isOrder 5 = .ok (.iconst 0, 1) := by decide +kernel
theorem dX8_isOrder_6 : decode cX8_isOrder 6 = .ok (.istore 5, 2) := by decide +kernel
theorem dX8_isOrder_8 : decode cX8_isOrder 8 = .ok (.iload 5, 2) := by decide +kernel
theorem dX8_isOrder_10 : decode cX8_isOrder 10 = .ok (.aload_n 0, 1) := by decide +kernel
theorem dX8_isOrder_11 : decode cX8_isOrder 11 = .ok (.getfield 7, 3) := by decide +kernel
theorem dX8_isOrder_14 : decode cX8_isOrder 14 = .ok (.iconst 1, 1) := by decide +kernel
theorem dX8_isOrder_15 : decode cX8_isOrder 15 = .ok (.iaload, 1) := by decide +kernel
theorem dX8_isOrder_16 : decode cX8_isOrder 16 = .ok (.if_icmp .ge 49, 3) := by decide +kernel
theorem dX8_isOrder_19 : decode cX8_isOrder 19 = .ok (.iload_n 1, 1) := by decide +kernel
theorem dX8_isOrder_20 : decode cX8_isOrder 20 = .ok (.iload 5, 2) := by decide +kernel
theorem dX8_isOrder_22 : decode cX8_isOrder 22 = .ok (.invokestatic 79, 3) := by decide +kernel
theorem dX8_isOrder_25 : decode cX8_isOrder 25 = .ok (.ifCond .eq 34, 3) := by decide +kernel
theorem dX8_isOrder_28 : decode cX8_isOrder 28 = .ok (.iload_n 3, 1) := by decide +kernel
theorem dX8_isOrder_29 : decode cX8_isOrder 29 = .ok (.ifCond .eq 19, 3) := by decide +kernel
theorem dX8_isOrder_32 : decode cX8_isOrder 32 = .ok (.aload_n 0, 1) := by decide +kernel
theorem dX8_isOrder_33 : decode cX8_isOrder 33 = .ok (.iload 5, 2) := by decide +kernel
theorem dX8_isOrder_35 : decode cX8_isOrder 35 = .ok (.iload_n 2, 1) := by decide +kernel
theorem dX8_isOrder_36 : decode cX8_isOrder 36 = .ok (.invokevirtual 138, 3) := by decide +kernel
theorem dX8_isOrder_39 : decode cX8_isOrder 39 = .ok (.iload 4, 2) := by decide +kernel
theorem dX8_isOrder_41 : decode cX8_isOrder 41 = .ok (.if_icmp .le 7, 3) := by decide +kernel
theorem dX8_isOrder_44 : decode cX8_isOrder 44 = .ok (.iconst 1, 1) := by decide +kernel
theorem dX8_isOrder_45 : decode cX8_isOrder 45 = .ok (.goto 4, 3) := by decide +kernel
theorem dX8_isOrder_48 : decode cX8_isOrder 48 = .ok (.iconst 0, 1) := by decide +kernel
theorem dX8_isOrder_49 : decode cX8_isOrder 49 = .ok (.istore_n 3, 1) := by decide +kernel
theorem dX8_isOrder_50 : decode cX8_isOrder 50 = .ok (.aload_n 0, 1) := by decide +kernel
theorem dX8_isOrder_51 : decode cX8_isOrder 51 = .ok (.iload 5, 2) := by decide +kernel
theorem dX8_isOrder_53 : decode cX8_isOrder 53 = .ok (.iload_n 2, 1) := by decide +kernel
theorem dX8_isOrder_54 : decode cX8_isOrder 54 = .ok (.invokevirtual 138, 3) := by decide +kernel
theorem dX8_isOrder_57 : decode cX8_isOrder 57 = .ok (.istore 4, 2) := by decide +kernel
theorem dX8_isOrder_59 : decode cX8_isOrder 59 = .ok (.iinc 5 1, 3) := by decide +kernel
theorem dX8_isOrder_62 : decode cX8_isOrder 62 = .ok (.goto (-54), 3) := by decide +kernel
theorem dX8_isOrder_65 : decode cX8_isOrder 65 = .ok (.iload_n 3, 1) := by decide +kernel
theorem dX8_isOrder_66 : decode cX8_isOrder 66 = .ok (.ireturn, 1) := by decide +kernel
theorem dX8_isAhead_0 : decode cX8_isAhead 0 = .ok (.iload_n 0, 1) := by decide +kernel
theorem dX8_isAhead_1 : decode cX8_isAhead 1 = .ok (.iload_n 1, 1) := by decide +kernel
theorem dX8_isAhead_2 : decode cX8_isAhead 2 = .ok (.ixor, 1) := by decide +kernel
theorem dX8_isAhead_3 : decode cX8_isAhead 3 = .ok (.istore_n 2, 1) := by decide +kernel
theorem dX8_isAhead_4 : decode cX8_isAhead 4 = .ok (.iload_n 2, 1) := by decide +kernel
theorem dX8_isAhead_5 : decode cX8_isAhead 5 = .ok (.iload_n 2, 1) := by decide +kernel
theorem dX8_isAhead_6 : decode cX8_isAhead 6 = .ok (.ineg, 1) := by decide +kernel
theorem dX8_isAhead_7 : decode cX8_isAhead 7 = .ok (.iand, 1) := by decide +kernel
theorem dX8_isAhead_8 : decode cX8_isAhead 8 = .ok (.iload_n 0, 1) := by decide +kernel
theorem dX8_isAhead_9 : decode cX8_isAhead 9 = .ok (.iand, 1) := by decide +kernel
theorem dX8_isAhead_10 : decode cX8_isAhead 10 = .ok (.ifCond .eq 7, 3) := by decide +kernel
theorem dX8_isAhead_13 : decode cX8_isAhead 13 = .ok (.iconst 1, 1) := by decide +kernel
theorem dX8_isAhead_14 : decode cX8_isAhead 14 = .ok (.goto 4, 3) := by decide +kernel
theorem dX8_isAhead_17 : decode cX8_isAhead 17 = .ok (.iconst 0, 1) := by decide +kernel
theorem dX8_isAhead_18 : decode cX8_isAhead 18 = .ok (.ireturn, 1) := by decide +kernel
theorem dX8_stay_0 : decode cX8_stay 0 = .ok (.iload_n 1, 1) := by decide +kernel
theorem dX8_stay_1 : decode cX8_stay 1 = .ok (.iconst 0, 1) := by decide +kernel
theorem dX8_stay_2 : decode cX8_stay 2 = .ok (.iconst 2, 1) := by decide +kernel
theorem dX8_stay_3 : decode cX8_stay 3 = .ok (.invokestatic 44, 3) := by decide +kernel
theorem dX8_stay_6 : decode cX8_stay 6 = .ok (.ifCond .eq 12, 3) := by decide +kernel
theorem dX8_stay_9 : decode cX8_stay 9 = .ok (.iload_n 2, 1) := by decide +kernel
theorem dX8_stay_10 : decode cX8_stay 10 = .ok (.iconst 0, 1) := by decide +kernel
theorem dX8_stay_11 : decode cX8_stay 11 = .ok (.iconst 1, 1) := by decide +kernel
theorem dX8_stay_12 : decode cX8_stay 12 = .ok (.invokestatic 44, 3) := by decide +kernel
theorem dX8_stay_15 : decode cX8_stay 15 = .ok (.ifCond .ne 5, 3) := by decide +kernel
theorem dX8_stay_18 : decode cX8_stay 18 = .ok (.iconst (-1), 1) := by decide +kernel
theorem dX8_stay_19 : decode cX8_stay 19 = .ok (.ireturn, 1) := by decide +kernel
theorem dX8_stay_20 : decode cX8_stay 20 = .ok (.iconst 0, 1) := by decide +kernel
theorem dX8_stay_21 : decode cX8_stay 21 = .ok (.istore_n 3, 1) := by decide +kernel
theorem dX8_stay_22 : decode cX8_stay 22 = .ok (.iconst 1, 1) := by decide +kernel
theorem dX8_stay_23 : decode cX8_stay 23 = .ok (.istore 4, 2) := by decide +kernel
theorem dX8_stay_25 : decode cX8_stay 25 = .ok (.iload 4, 2) := by decide +kernel
theorem dX8_stay_27 : decode cX8_stay 27 = .ok (.iconst 1, 1) := by decide +kernel
theorem dX8_stay_28 : decode cX8_stay 28 = .ok (.aload_n 0, 1) := by decide +kernel
theorem dX8_stay_29 : decode cX8_stay 29 = .ok (.getfield 7, 3) := by decide +kernel
theorem dX8_stay_32 : decode cX8_stay 32 = .ok (.iconst 1, 1) := by decide +kernel
theorem dX8_stay_33 : decode cX8_stay 33 = .ok (.iaload, 1) := by decide +kernel
theorem dX8_stay_34 : decode cX8_stay 34 = .ok (.ishl, 1) := by decide +kernel
theorem dX8_stay_35 : decode cX8_stay 35 = .ok (.if_icmp .ge 71, 3) := by decide +kernel
theorem dX8_stay_38 : decode cX8_stay 38 = .ok (.iload 4, 2) := by decide +kernel
theorem dX8_stay_40 : decode cX8_stay 40 = .ok (.invokestatic 72, 3) := by decide +kernel
theorem dX8_stay_43 : decode cX8_stay 43 = .ok (.iload_n 3, 1) := by decide +kernel
theorem dX8_stay_44 : decode cX8_stay 44 = .ok (.invokestatic 72, 3) := by decide +kernel
theorem dX8_stay_47 : decode cX8_stay 47 = .ok (.if_icmp .gt 24, 3) := by decide +kernel
theorem dX8_stay_50 : decode cX8_stay 50 = .ok (.iload 4, 2) := by decide +kernel
theorem dX8_stay_52 : decode cX8_stay 52 = .ok (.invokestatic 72, 3) := by decide +kernel
theorem dX8_stay_55 : decode cX8_stay 55 = .ok (.iload_n 3, 1) := by decide +kernel
theorem dX8_stay_56 : decode cX8_stay 56 = .ok (.invokestatic 72, 3) := by decide +kernel
theorem dX8_stay_59 : decode cX8_stay 59 = .ok (.if_icmp .ne 16, 3) := by decide +kernel
theorem dX8_stay_62 : decode cX8_stay 62 = .ok (.iload 4, 2) := by decide +kernel
theorem dX8_stay_64 : decode cX8_stay 64 = .ok (.iload_n 3, 1) := by decide +kernel
theorem dX8_stay_65 : decode cX8_stay 65 = .ok (.invokestatic 142, 3) := by decide +kernel
theorem dX8_stay_68 : decode cX8_stay 68 = .ok (.ifCond .eq 7, 3) := by decide +kernel
theorem dX8_stay_71 : decode cX8_stay 71 = .ok (.iconst 1, 1) := by decide +kernel
theorem dX8_stay_72 : decode cX8_stay 72 = .ok (.goto 4, 3) := by decide +kernel
theorem dX8_stay_75 : decode cX8_stay 75 = .ok (.iconst 0, 1) := by decide +kernel
theorem dX8_stay_76 : decode cX8_stay 76 = .ok (.istore 5, 2) := by decide +kernel
theorem dX8_stay_78 : decode cX8_stay 78 = .ok (.iload 5, 2) := by decide +kernel
theorem dX8_stay_80 : decode cX8_stay 80 = .ok (.ifCond .eq 18, 3) := by decide +kernel
theorem dX8_stay_83 : decode cX8_stay 83 = .ok (.aload_n 0, 1) := by decide +kernel
theorem dX8_stay_84 : decode cX8_stay 84 = .ok (.iload 4, 2) := by decide +kernel
theorem dX8_stay_86 : decode cX8_stay 86 = .ok (.iload_n 1, 1) := by decide +kernel
theorem dX8_stay_87 : decode cX8_stay 87 = .ok (.invokevirtual 145, 3) := by decide +kernel
theorem dX8_stay_90 : decode cX8_stay 90 = .ok (.ifCond .eq 8, 3) := by decide +kernel
theorem dX8_stay_93 : decode cX8_stay 93 = .ok (.iload 4, 2) := by decide +kernel
theorem dX8_stay_95 : decode cX8_stay 95 = .ok (.goto 4, 3) := by decide +kernel
theorem dX8_stay_98 : decode cX8_stay 98 = .ok (.iload_n 3, 1) := by decide +kernel
theorem dX8_stay_99 : decode cX8_stay 99 = .ok (.istore_n 3, 1) := by decide +kernel
theorem dX8_stay_100 : decode cX8_stay 100 = .ok (.iinc 4 1, 3) := by decide +kernel
theorem dX8_stay_103 : decode cX8_stay 103 = .ok (.goto (-78), 3) := by decide +kernel
theorem dX8_stay_106 : decode cX8_stay 106 = .ok (.iconst 0, 1) := by decide +kernel
theorem dX8_stay_107 : decode cX8_stay 107 = .ok (.istore 4, 2) := by decide +kernel
theorem dX8_stay_109 : decode cX8_stay 109 = .ok (.iconst 0, 1) := by decide +kernel
theorem dX8_stay_110 : decode cX8_stay 110 = .ok (.istore 5, 2) := by decide +kernel
theorem dX8_stay_112 : decode cX8_stay 112 = .ok (.iload 5, 2) := by decide +kernel
theorem dX8_stay_114 : decode cX8_stay 114 = .ok (.aload_n 0, 1) := by decide +kernel
theorem dX8_stay_115 : decode cX8_stay 115 = .ok (.getfield 7, 3) := by decide +kernel
theorem dX8_stay_118 : decode cX8_stay 118 = .ok (.iconst 1, 1) := by decide +kernel
theorem dX8_stay_119 : decode cX8_stay 119 = .ok (.iaload, 1) := by decide +kernel
theorem dX8_stay_120 : decode cX8_stay 120 = .ok (.if_icmp .ge 39, 3) := by decide +kernel
theorem dX8_stay_123 : decode cX8_stay 123 = .ok (.iload 4, 2) := by decide +kernel
theorem dX8_stay_125 : decode cX8_stay 125 = .ok (.iload_n 3, 1) := by decide +kernel
theorem dX8_stay_126 : decode cX8_stay 126 = .ok (.iload 5, 2) := by decide +kernel
theorem dX8_stay_128 : decode cX8_stay 128 = .ok (.invokestatic 79, 3) := by decide +kernel
theorem dX8_stay_131 : decode cX8_stay 131 = .ok (.ifCond .eq 18, 3) := by decide +kernel
theorem dX8_stay_134 : decode cX8_stay 134 = .ok (.iconst 1, 1) := by decide +kernel
theorem dX8_stay_135 : decode cX8_stay 135 = .ok (.aload_n 0, 1) := by decide +kernel
theorem dX8_stay_136 : decode cX8_stay 136 = .ok (.getfield 7, 3) := by decide +kernel
theorem dX8_stay_139 : decode cX8_stay 139 = .ok (.bipush 10, 2) := by decide +kernel
theorem dX8_stay_141 : decode cX8_stay 141 = .ok (.iload 5, 2) := by decide +kernel
theorem dX8_stay_143 : decode cX8_stay 143 = .ok (.iadd, 1) := by decide +kernel
theorem dX8_stay_144 : decode cX8_stay 144 = .ok (.iaload, 1) := by decide +kernel
theorem dX8_stay_145 : decode cX8_stay 145 = .ok (.ishl, 1) := by decide +kernel
theorem dX8_stay_146 : decode cX8_stay 146 = .ok (.goto 4, 3) := by decide +kernel
theorem dX8_stay_149 : decode cX8_stay 149 = .ok (.iconst 0, 1) := by decide +kernel
theorem dX8_stay_150 : decode cX8_stay 150 = .ok (.ior, 1) := by decide +kernel
theorem dX8_stay_151 : decode cX8_stay 151 = .ok (.istore 4, 2) := by decide +kernel
theorem dX8_stay_153 : decode cX8_stay 153 = .ok (.iinc 5 1, 3) := by decide +kernel
theorem dX8_stay_156 : decode cX8_stay 156 = .ok (.goto (-44), 3) := by decide +kernel
theorem dX8_stay_159 : decode cX8_stay 159 = .ok (.iload_n 2, 1) := by decide +kernel
theorem dX8_stay_160 : decode cX8_stay 160 = .ok (.ifCond .ne 10, 3) := by decide +kernel
theorem dX8_stay_163 : decode cX8_stay 163 = .ok (.iload_n 3, 1) := by decide +kernel
theorem dX8_stay_164 : decode cX8_stay 164 = .ok (.invokestatic 72, 3) := by decide +kernel
theorem dX8_stay_167 : decode cX8_stay 167 = .ok (.goto 5, 3) := by decide +kernel
theorem dX8_stay_170 : decode cX8_stay 170 = .ok (.iload 4, 2) := by decide +kernel
theorem dX8_stay_172 : decode cX8_stay 172 = .ok (.ireturn, 1) := by decide +kernel
theorem dX8_firstOrder_0 : decode cX8_firstOrder 0 = .ok (.aload_n 0, 1) := by decide +kernel
theorem dX8_firstOrder_1 : decode cX8_firstOrder 1 = .ok (.invokevirtual 75, 3) := by decide +kernel
theorem dX8_firstOrder_4 : decode cX8_firstOrder 4 = .ok (.istore_n 1, 1) := by decide +kernel
theorem dX8_firstOrder_5 : decode cX8_firstOrder 5 = .ok (.iconst 0, 1) := by decide +kernel
theorem dX8_firstOrder_6 : decode cX8_firstOrder 6 = .ok (.istore_n 2, 1) := by decide +kernel
theorem dX8_firstOrder_7 : decode cX8_firstOrder 7 = .ok (.iconst 0, 1) := by decide +kernel
theorem dX8_firstOrder_8 : decode cX8_firstOrder 8 = .ok (.istore_n 3, 1) := by decide +kernel
theorem dX8_firstOrder_9 : decode cX8_firstOrder 9 = .ok (.iload_n 3, 1) := by decide +kernel
theorem dX8_firstOrder_10 : decode cX8_firstOrder 10 = .ok (.bipush 6, 2) := by decide +kernel
theorem dX8_firstOrder_12 : decode cX8_firstOrder 12 = .ok (.if_icmp .ge 30, 3) := by decide +kernel
theorem dX8_firstOrder_15 : decode cX8_firstOrder 15 = .ok (.iload_n 1, 1) := by decide +kernel
theorem dX8_firstOrder_16 : decode cX8_firstOrder 16 = .ok (.iload_n 3, 1) := by decide +kernel
theorem dX8_firstOrder_17 : decode cX8_firstOrder 17 = .ok (.invokestatic 79, 3) := by decide +kernel
theorem dX8_firstOrder_20 : decode cX8_firstOrder 20 = .ok (.ifCond .eq 16, 3) := by decide +kernel
theorem dX8_firstOrder_23 : decode cX8_firstOrder 23 = .ok (.aload_n 0, 1) := by decide +kernel
theorem dX8_firstOrder_24 : decode cX8_firstOrder 24 = .ok (.getfield 7, 3) := by decide +kernel
theorem dX8_firstOrder_27 : decode cX8_firstOrder 27 = .ok (.bipush 10, 2) := by decide +kernel
theorem dX8_firstOrder_29 : decode cX8_firstOrder 29 = .ok (.iload_n 2, 1) := by decide +kernel
theorem dX8_firstOrder_30 : decode cX8_firstOrder 30 = .ok (.iadd, 1) := by decide +kernel
theorem dX8_firstOrder_31 : decode cX8_firstOrder 31 = .ok (.iload_n 3, 1) := by decide +kernel
theorem dX8_firstOrder_32 : decode cX8_firstOrder 32 = .ok (.iastore, 1) := by decide +kernel
theorem dX8_firstOrder_33 : decode cX8_firstOrder 33 = .ok (.iinc 2 1, 3) := by decide +kernel
theorem dX8_firstOrder_36 : decode cX8_firstOrder 36 = .ok (.iinc 3 1, 3) := by decide +kernel
theorem dX8_firstOrder_39 : decode cX8_firstOrder 39 = .ok (.goto (-30), 3) := by decide +kernel
theorem dX8_firstOrder_42 : decode cX8_firstOrder 42 = .ok (.return_, 1) := by decide +kernel
theorem dX8_nextOrder_0 : decode cX8_nextOrder 0 = .ok (.aload_n 0, 1) := by decide +kernel
theorem dX8_nextOrder_1 : decode cX8_nextOrder 1 = .ok (.getfield 7, 3) := by decide +kernel
theorem dX8_nextOrder_4 : decode cX8_nextOrder 4 = .ok (.iconst 1, 1) := by decide +kernel
theorem dX8_nextOrder_5 : decode cX8_nextOrder 5 = .ok (.iaload, 1) := by decide +kernel
theorem dX8_nextOrder_6 : decode cX8_nextOrder 6 = .ok (.iconst 2, 1) := by decide +kernel
theorem dX8_nextOrder_7 : decode cX8_nextOrder 7 = .ok (.isub, 1) := by decide +kernel
theorem dX8_nextOrder_8 : decode cX8_nextOrder 8 = .ok (.istore_n 1, 1) := by decide +kernel
theorem dX8_nextOrder_9 : decode cX8_nextOrder 9 = .ok (.iload_n 1, 1) := by decide +kernel
theorem dX8_nextOrder_10 : decode cX8_nextOrder 10 = .ok (.ifCond .lt 32, 3) := by decide +kernel
theorem dX8_nextOrder_13 : decode cX8_nextOrder 13 = .ok (.aload_n 0, 1) := by decide +kernel
theorem dX8_nextOrder_14 : decode cX8_nextOrder 14 = .ok (.getfield 7, 3) := by decide +kernel
theorem dX8_nextOrder_17 : decode cX8_nextOrder 17 = .ok (.bipush 10, 2) := by decide +kernel
theorem dX8_nextOrder_19 : decode cX8_nextOrder 19 = .ok (.iload_n 1, 1) := by decide +kernel
theorem dX8_nextOrder_20 : decode cX8_nextOrder 20 = .ok (.iadd, 1) := by decide +kernel
theorem dX8_nextOrder_21 : decode cX8_nextOrder 21 = .ok (.iaload, 1) := by decide +kernel
theorem dX8_nextOrder_22 : decode cX8_nextOrder 22 = .ok (.aload_n 0, 1) := by decide +kernel
theorem dX8_nextOrder_23 : decode cX8_nextOrder 23 = .ok (.getfield 7, 3) := by decide +kernel
theorem dX8_nextOrder_26 : decode cX8_nextOrder 26 = .ok (.bipush 10, 2) := by decide +kernel
theorem dX8_nextOrder_28 : decode cX8_nextOrder 28 = .ok (.iload_n 1, 1) := by decide +kernel
theorem dX8_nextOrder_29 : decode cX8_nextOrder 29 = .ok (.iadd, 1) := by decide +kernel
theorem dX8_nextOrder_30 : decode cX8_nextOrder 30 = .ok (.iconst 1, 1) := by decide +kernel
theorem dX8_nextOrder_31 : decode cX8_nextOrder 31 = .ok (.iadd, 1) := by decide +kernel
theorem dX8_nextOrder_32 : decode cX8_nextOrder 32 = .ok (.iaload, 1) := by decide +kernel
theorem dX8_nextOrder_33 : decode cX8_nextOrder 33 = .ok (.if_icmp .le 9, 3) := by decide +kernel
theorem dX8_nextOrder_36 : decode cX8_nextOrder 36 = .ok (.iinc 1 (-1), 3) := by decide +kernel
theorem dX8_nextOrder_39 : decode cX8_nextOrder 39 = .ok (.goto (-30), 3) := by decide +kernel
theorem dX8_nextOrder_42 : decode cX8_nextOrder 42 = .ok (.iload_n 1, 1) := by decide +kernel
theorem dX8_nextOrder_43 : decode cX8_nextOrder 43 = .ok (.ifCond .ge 5, 3) := by decide +kernel
theorem dX8_nextOrder_46 : decode cX8_nextOrder 46 = .ok (.iconst 0, 1) := by decide +kernel
theorem dX8_nextOrder_47 : decode cX8_nextOrder 47 = .ok (.ireturn, 1) := by decide +kernel
theorem dX8_nextOrder_48 : decode cX8_nextOrder 48 = .ok (.aload_n 0, 1) := by decide +kernel
theorem dX8_nextOrder_49 : decode cX8_nextOrder 49 = .ok (.getfield 7, 3) := by decide +kernel
theorem dX8_nextOrder_52 : decode cX8_nextOrder 52 = .ok (.iconst 1, 1) := by decide +kernel
theorem dX8_nextOrder_53 : decode cX8_nextOrder 53 = .ok (.iaload, 1) := by decide +kernel
theorem dX8_nextOrder_54 : decode cX8_nextOrder 54 = .ok (.iconst 1, 1) := by decide +kernel
theorem dX8_nextOrder_55 : decode cX8_nextOrder 55 = .ok (.isub, 1) := by decide +kernel
theorem dX8_nextOrder_56 : decode cX8_nextOrder 56 = .ok (.istore_n 2, 1) := by decide +kernel
theorem dX8_nextOrder_57 : decode cX8_nextOrder 57 = .ok (.aload_n 0, 1) := by decide +kernel
theorem dX8_nextOrder_58 : decode cX8_nextOrder 58 = .ok (.getfield 7, 3) := by decide +kernel
theorem dX8_nextOrder_61 : decode cX8_nextOrder 61 = .ok (.bipush 10, 2) := by decide +kernel
theorem dX8_nextOrder_63 : decode cX8_nextOrder 63 = .ok (.iload_n 2, 1) := by decide +kernel
theorem dX8_nextOrder_64 : decode cX8_nextOrder 64 = .ok (.iadd, 1) := by decide +kernel
theorem dX8_nextOrder_65 : decode cX8_nextOrder 65 = .ok (.iaload, 1) := by decide +kernel
theorem dX8_nextOrder_66 : decode cX8_nextOrder 66 = .ok (.aload_n 0, 1) := by decide +kernel
theorem dX8_nextOrder_67 : decode cX8_nextOrder 67 = .ok (.getfield 7, 3) := by decide +kernel
theorem dX8_nextOrder_70 : decode cX8_nextOrder 70 = .ok (.bipush 10, 2) := by decide +kernel
theorem dX8_nextOrder_72 : decode cX8_nextOrder 72 = .ok (.iload_n 1, 1) := by decide +kernel
theorem dX8_nextOrder_73 : decode cX8_nextOrder 73 = .ok (.iadd, 1) := by decide +kernel
theorem dX8_nextOrder_74 : decode cX8_nextOrder 74 = .ok (.iaload, 1) := by decide +kernel
theorem dX8_nextOrder_75 : decode cX8_nextOrder 75 = .ok (.if_icmp .ge 9, 3) := by decide +kernel
theorem dX8_nextOrder_78 : decode cX8_nextOrder 78 = .ok (.iinc 2 (-1), 3) := by decide +kernel
theorem dX8_nextOrder_81 : decode cX8_nextOrder 81 = .ok (.goto (-24), 3) := by decide +kernel
theorem dX8_nextOrder_84 : decode cX8_nextOrder 84 = .ok (.aload_n 0, 1) := by decide +kernel
theorem dX8_nextOrder_85 : decode cX8_nextOrder 85 = .ok (.getfield 7, 3) := by decide +kernel
theorem dX8_nextOrder_88 : decode cX8_nextOrder 88 = .ok (.bipush 10, 2) := by decide +kernel
theorem dX8_nextOrder_90 : decode cX8_nextOrder 90 = .ok (.iload_n 1, 1) := by decide +kernel
theorem dX8_nextOrder_91 : decode cX8_nextOrder 91 = .ok (.iadd, 1) := by decide +kernel
theorem dX8_nextOrder_92 : decode cX8_nextOrder 92 = .ok (.iaload, 1) := by decide +kernel
theorem dX8_nextOrder_93 : decode cX8_nextOrder 93 = .ok (.istore_n 3, 1) := by decide +kernel
theorem dX8_nextOrder_94 : decode cX8_nextOrder 94 = .ok (.aload_n 0, 1) := by decide +kernel
theorem dX8_nextOrder_95 : decode cX8_nextOrder 95 = .ok (.getfield 7, 3) := by decide +kernel
theorem dX8_nextOrder_98 : decode cX8_nextOrder 98 = .ok (.bipush 10, 2) := by decide +kernel
theorem dX8_nextOrder_100 : decode cX8_nextOrder 100 = .ok (.iload_n 1, 1) := by decide +kernel
theorem dX8_nextOrder_101 : decode cX8_nextOrder 101 = .ok (.iadd, 1) := by decide +kernel
theorem dX8_nextOrder_102 : decode cX8_nextOrder 102 = .ok (.aload_n 0, 1) := by decide +kernel
theorem dX8_nextOrder_103 : decode cX8_nextOrder 103 = .ok (.getfield 7, 3) := by decide +kernel
theorem dX8_nextOrder_106 : decode cX8_nextOrder 106 = .ok (.bipush 10, 2) := by decide +kernel
theorem dX8_nextOrder_108 : decode cX8_nextOrder 108 = .ok (.iload_n 2, 1) := by decide +kernel
theorem dX8_nextOrder_109 : decode cX8_nextOrder 109 = .ok (.iadd, 1) := by decide +kernel
theorem dX8_nextOrder_110 : decode cX8_nextOrder 110 = .ok (.iaload, 1) := by decide +kernel
theorem dX8_nextOrder_111 : decode cX8_nextOrder 111 = .ok (.iastore, 1) := by decide +kernel
theorem dX8_nextOrder_112 : decode cX8_nextOrder 112 = .ok (.aload_n 0, 1) := by decide +kernel
theorem dX8_nextOrder_113 : decode cX8_nextOrder 113 = .ok (.getfield 7, 3) := by decide +kernel
theorem dX8_nextOrder_116 : decode cX8_nextOrder 116 = .ok (.bipush 10, 2) := by decide +kernel
theorem dX8_nextOrder_118 : decode cX8_nextOrder 118 = .ok (.iload_n 2, 1) := by decide +kernel
theorem dX8_nextOrder_119 : decode cX8_nextOrder 119 = .ok (.iadd, 1) := by decide +kernel
theorem dX8_nextOrder_120 : decode cX8_nextOrder 120 = .ok (.iload_n 3, 1) := by decide +kernel
theorem dX8_nextOrder_121 : decode cX8_nextOrder 121 = .ok (.iastore, 1) := by decide +kernel
theorem dX8_nextOrder_122 : decode cX8_nextOrder 122 = .ok (.iload_n 1, 1) := by decide +kernel
theorem dX8_nextOrder_123 : decode cX8_nextOrder 123 = .ok (.iconst 1, 1) := by decide +kernel
theorem dX8_nextOrder_124 : decode cX8_nextOrder 124 = .ok (.iadd, 1) := by decide +kernel
theorem dX8_nextOrder_125 : decode cX8_nextOrder 125 = .ok (.istore 4, 2) := by decide +kernel
theorem dX8_nextOrder_127 : decode cX8_nextOrder 127 = .ok (.aload_n 0, 1) := by decide +kernel
theorem dX8_nextOrder_128 : decode cX8_nextOrder 128 = .ok (.getfield 7, 3) := by decide +kernel
theorem dX8_nextOrder_131 : decode cX8_nextOrder 131 = .ok (.iconst 1, 1) := by decide +kernel
theorem dX8_nextOrder_132 : decode cX8_nextOrder 132 = .ok (.iaload, 1) := by decide +kernel
theorem dX8_nextOrder_133 : decode cX8_nextOrder 133 = .ok (.iconst 1, 1) := by decide +kernel
theorem dX8_nextOrder_134 : decode cX8_nextOrder 134 = .ok (.isub, 1) := by decide +kernel
theorem dX8_nextOrder_135 : decode cX8_nextOrder 135 = .ok (.istore 5, 2) := by decide +kernel
theorem dX8_nextOrder_137 : decode cX8_nextOrder 137 = .ok (.iload 4, 2) := by decide +kernel
theorem dX8_nextOrder_139 : decode cX8_nextOrder 139 = .ok (.iload 5, 2) := by decide +kernel
theorem dX8_nextOrder_141 : decode cX8_nextOrder 141 = .ok (.if_icmp .ge 54, 3) := by decide +kernel
theorem dX8_nextOrder_144 : decode cX8_nextOrder 144 = .ok (.aload_n 0, 1) := by decide +kernel
theorem dX8_nextOrder_145 : decode cX8_nextOrder 145 = .ok (.getfield 7, 3) := by decide +kernel
theorem dX8_nextOrder_148 : decode cX8_nextOrder 148 = .ok (.bipush 10, 2) := by decide +kernel
theorem dX8_nextOrder_150 : decode cX8_nextOrder 150 = .ok (.iload 4, 2) := by decide +kernel
theorem dX8_nextOrder_152 : decode cX8_nextOrder 152 = .ok (.iadd, 1) := by decide +kernel
theorem dX8_nextOrder_153 : decode cX8_nextOrder 153 = .ok (.iaload, 1) := by decide +kernel
theorem dX8_nextOrder_154 : decode cX8_nextOrder 154 = .ok (.istore_n 3, 1) := by decide +kernel
theorem dX8_nextOrder_155 : decode cX8_nextOrder 155 = .ok (.aload_n 0, 1) := by decide +kernel
theorem dX8_nextOrder_156 : decode cX8_nextOrder 156 = .ok (.getfield 7, 3) := by decide +kernel
theorem dX8_nextOrder_159 : decode cX8_nextOrder 159 = .ok (.bipush 10, 2) := by decide +kernel
theorem dX8_nextOrder_161 : decode cX8_nextOrder 161 = .ok (.iload 4, 2) := by decide +kernel
theorem dX8_nextOrder_163 : decode cX8_nextOrder 163 = .ok (.iadd, 1) := by decide +kernel
theorem dX8_nextOrder_164 : decode cX8_nextOrder 164 = .ok (.aload_n 0, 1) := by decide +kernel
theorem dX8_nextOrder_165 : decode cX8_nextOrder 165 = .ok (.getfield 7, 3) := by decide +kernel
theorem dX8_nextOrder_168 : decode cX8_nextOrder 168 = .ok (.bipush 10, 2) := by decide +kernel
theorem dX8_nextOrder_170 : decode cX8_nextOrder 170 = .ok (.iload 5, 2) := by decide +kernel
theorem dX8_nextOrder_172 : decode cX8_nextOrder 172 = .ok (.iadd, 1) := by decide +kernel
theorem dX8_nextOrder_173 : decode cX8_nextOrder 173 = .ok (.iaload, 1) := by decide +kernel
theorem dX8_nextOrder_174 : decode cX8_nextOrder 174 = .ok (.iastore, 1) := by decide +kernel
theorem dX8_nextOrder_175 : decode cX8_nextOrder 175 = .ok (.aload_n 0, 1) := by decide +kernel
theorem dX8_nextOrder_176 : decode cX8_nextOrder 176 = .ok (.getfield 7, 3) := by decide +kernel
theorem dX8_nextOrder_179 : decode cX8_nextOrder 179 = .ok (.bipush 10, 2) := by decide +kernel
theorem dX8_nextOrder_181 : decode cX8_nextOrder 181 = .ok (.iload 5, 2) := by decide +kernel
theorem dX8_nextOrder_183 : decode cX8_nextOrder 183 = .ok (.iadd, 1) := by decide +kernel
theorem dX8_nextOrder_184 : decode cX8_nextOrder 184 = .ok (.iload_n 3, 1) := by decide +kernel
theorem dX8_nextOrder_185 : decode cX8_nextOrder 185 = .ok (.iastore, 1) := by decide +kernel
theorem dX8_nextOrder_186 : decode cX8_nextOrder 186 = .ok (.iinc 4 1, 3) := by decide +kernel
theorem dX8_nextOrder_189 : decode cX8_nextOrder 189 = .ok (.iinc 5 (-1), 3) := by decide +kernel
theorem dX8_nextOrder_192 : decode cX8_nextOrder 192 = .ok (.goto (-55), 3) := by decide +kernel
theorem dX8_nextOrder_195 : decode cX8_nextOrder 195 = .ok (.iconst 1, 1) := by decide +kernel
theorem dX8_nextOrder_196 : decode cX8_nextOrder 196 = .ok (.ireturn, 1) := by decide +kernel
theorem dX8_ways_0 : decode cX8_ways 0 = .ok (.aload_n 0, 1) := by decide +kernel
theorem dX8_ways_1 : decode cX8_ways 1 = .ok (.invokevirtual 132, 3) := by decide +kernel
theorem dX8_ways_4 : decode cX8_ways 4 = .ok (.aload_n 0, 1) := by decide +kernel
theorem dX8_ways_5 : decode cX8_ways 5 = .ok (.invokevirtual 148, 3) := by decide +kernel
theorem dX8_ways_8 : decode cX8_ways 8 = .ok (.iconst 0, 1) := by decide +kernel
theorem dX8_ways_9 : decode cX8_ways 9 = .ok (.istore_n 1, 1) := by decide +kernel
theorem dX8_ways_10 : decode cX8_ways 10 = .ok (.iconst 1, 1) := by decide +kernel
theorem dX8_ways_11 : decode cX8_ways 11 = .ok (.istore_n 2, 1) := by decide +kernel
theorem dX8_ways_12 : decode cX8_ways 12 = .ok (.iload_n 2, 1) := by decide +kernel
theorem dX8_ways_13 : decode cX8_ways 13 = .ok (.ifCond .eq 26, 3) := by decide +kernel
theorem dX8_ways_16 : decode cX8_ways 16 = .ok (.iload_n 1, 1) := by decide +kernel
theorem dX8_ways_17 : decode cX8_ways 17 = .ok (.aload_n 0, 1) := by decide +kernel
theorem dX8_ways_18 : decode cX8_ways 18 = .ok (.invokevirtual 116, 3) := by decide +kernel
theorem dX8_ways_21 : decode cX8_ways 21 = .ok (.ifCond .ne 7, 3) := by decide +kernel
theorem dX8_ways_24 : decode cX8_ways 24 = .ok (.iconst 1, 1) := by decide +kernel
theorem dX8_ways_25 : decode cX8_ways 25 = .ok (.goto 4, 3) := by decide +kernel
theorem dX8_ways_28 : decode cX8_ways 28 = .ok (.iconst 0, 1) := by decide +kernel
theorem dX8_ways_29 : decode cX8_ways 29 = .ok (.iadd, 1) := by decide +kernel
theorem dX8_ways_30 : decode cX8_ways 30 = .ok (.istore_n 1, 1) := by decide +kernel
theorem dX8_ways_31 : decode cX8_ways 31 = .ok (.aload_n 0, 1) := by decide +kernel
theorem dX8_ways_32 : decode cX8_ways 32 = .ok (.invokevirtual 151, 3) := by decide +kernel
theorem dX8_ways_35 : decode cX8_ways 35 = .ok (.istore_n 2, 1) := by decide +kernel
theorem dX8_ways_36 : decode cX8_ways 36 = .ok (.goto (-24), 3) := by decide +kernel
theorem dX8_ways_39 : decode cX8_ways 39 = .ok (.aload_n 0, 1) := by decide +kernel
theorem dX8_ways_40 : decode cX8_ways 40 = .ok (.invokevirtual 135, 3) := by decide +kernel
theorem dX8_ways_43 : decode cX8_ways 43 = .ok (.iload_n 1, 1) := by decide +kernel
theorem dX8_ways_44 : decode cX8_ways 44 = .ok (.ireturn, 1) := by decide +kernel
theorem dX8_ease_0 : decode cX8_ease 0 = .ok (.iload_n 1, 1) := by decide +kernel
theorem dX8_ease_1 : decode cX8_ease 1 = .ok (.iconst (-1), 1) := by decide +kernel
theorem dX8_ease_2 : decode cX8_ease 2 = .ok (.if_icmp .ge 5, 3) := by decide +kernel
theorem dX8_ease_5 : decode cX8_ease 5 = .ok (.iconst (-1), 1) := by decide +kernel
theorem dX8_ease_6 : decode cX8_ease 6 = .ok (.ireturn, 1) := by decide +kernel
theorem dX8_ease_7 : decode cX8_ease 7 = .ok (.aload_n 0, 1) := by decide +kernel
theorem dX8_ease_8 : decode cX8_ease 8 = .ok (.invokevirtual 132, 3) := by decide +kernel
theorem dX8_ease_11 : decode cX8_ease 11 = .ok (.aload_n 0, 1) := by decide +kernel
theorem dX8_ease_12 : decode cX8_ease 12 = .ok (.invokevirtual 148, 3) := by decide +kernel
theorem dX8_ease_15 : decode cX8_ease 15 = .ok (.bipush 99, 2) := by decide +kernel
theorem dX8_ease_17 : decode cX8_ease 17 = .ok (.istore_n 2, 1) := by decide +kernel
theorem dX8_ease_18 : decode cX8_ease 18 = .ok (.bipush (-4), 2) := by decide +kernel
theorem dX8_ease_20 : decode cX8_ease 20 = .ok (.istore_n 3, 1) := by decide +kernel
theorem dX8_ease_21 : decode cX8_ease 21 = .ok (.iconst 1, 1) := by decide +kernel
theorem dX8_ease_22 : decode cX8_ease 22 = .ok (.istore 4, 2) := by decide +kernel
theorem dX8_ease_24 : decode cX8_ease 24 = .ok (.iload 4, 2) := by decide +kernel
theorem dX8_ease_26 : decode cX8_ease 26 = .ok (.ifCond .eq 47, 3) := by decide +kernel
theorem dX8_ease_29 : decode cX8_ease 29 = .ok (.aload_n 0, 1) := by decide +kernel
theorem dX8_ease_30 : decode cX8_ease 30 = .ok (.invokevirtual 116, 3) := by decide +kernel
theorem dX8_ease_33 : decode cX8_ease 33 = .ok (.istore 5, 2) := by decide +kernel
theorem dX8_ease_35 : decode cX8_ease 35 = .ok (.iload 5, 2) := by decide +kernel
theorem dX8_ease_37 : decode cX8_ease 37 = .ok (.iload_n 2, 1) := by decide +kernel
theorem dX8_ease_38 : decode cX8_ease 38 = .ok (.if_icmp .ge 11, 3) := by decide +kernel
theorem dX8_ease_41 : decode cX8_ease 41 = .ok (.aload_n 0, 1) := by decide +kernel
theorem dX8_ease_42 : decode cX8_ease 42 = .ok (.iload_n 1, 1) := by decide +kernel
theorem dX8_ease_43 : decode cX8_ease 43 = .ok (.invokevirtual 63, 3) := by decide +kernel
theorem dX8_ease_46 : decode cX8_ease 46 = .ok (.goto 4, 3) := by decide +kernel
theorem dX8_ease_49 : decode cX8_ease 49 = .ok (.iload_n 3, 1) := by decide +kernel
theorem dX8_ease_50 : decode cX8_ease 50 = .ok (.istore_n 3, 1) := by decide +kernel
theorem dX8_ease_51 : decode cX8_ease 51 = .ok (.iload 5, 2) := by decide +kernel
theorem dX8_ease_53 : decode cX8_ease 53 = .ok (.iload_n 2, 1) := by decide +kernel
theorem dX8_ease_54 : decode cX8_ease 54 = .ok (.if_icmp .ge 8, 3) := by decide +kernel
theorem dX8_ease_57 : decode cX8_ease 57 = .ok (.iload 5, 2) := by decide +kernel
theorem dX8_ease_59 : decode cX8_ease 59 = .ok (.goto 4, 3) := by decide +kernel
theorem dX8_ease_62 : decode cX8_ease 62 = .ok (.iload_n 2, 1) := by decide +kernel
theorem dX8_ease_63 : decode cX8_ease 63 = .ok (.istore_n 2, 1) := by decide +kernel
theorem dX8_ease_64 : decode cX8_ease 64 = .ok (.aload_n 0, 1) := by decide +kernel
theorem dX8_ease_65 : decode cX8_ease 65 = .ok (.invokevirtual 151, 3) := by decide +kernel
theorem dX8_ease_68 : decode cX8_ease 68 = .ok (.istore 4, 2) := by decide +kernel
theorem dX8_ease_70 : decode cX8_ease 70 = .ok (.goto (-46), 3) := by decide +kernel
theorem dX8_ease_73 : decode cX8_ease 73 = .ok (.aload_n 0, 1) := by decide +kernel
theorem dX8_ease_74 : decode cX8_ease 74 = .ok (.invokevirtual 135, 3) := by decide +kernel
theorem dX8_ease_77 : decode cX8_ease 77 = .ok (.iload_n 1, 1) := by decide +kernel
theorem dX8_ease_78 : decode cX8_ease 78 = .ok (.iconst (-1), 1) := by decide +kernel
theorem dX8_ease_79 : decode cX8_ease 79 = .ok (.if_icmp .ne 7, 3) := by decide +kernel
theorem dX8_ease_82 : decode cX8_ease 82 = .ok (.iload_n 2, 1) := by decide +kernel
theorem dX8_ease_83 : decode cX8_ease 83 = .ok (.goto 4, 3) := by decide +kernel
theorem dX8_ease_86 : decode cX8_ease 86 = .ok (.iload_n 3, 1) := by decide +kernel
theorem dX8_ease_87 : decode cX8_ease 87 = .ok (.ireturn, 1) := by decide +kernel
theorem dX8_left_0 : decode cX8_left 0 = .ok (.iload_n 1, 1) := by decide +kernel
theorem dX8_left_1 : decode cX8_left 1 = .ok (.iconst 0, 1) := by decide +kernel
theorem dX8_left_2 : decode cX8_left 2 = .ok (.bipush 30, 2) := by decide +kernel
theorem dX8_left_4 : decode cX8_left 4 = .ok (.invokestatic 44, 3) := by decide +kernel
theorem dX8_left_7 : decode cX8_left 7 = .ok (.ifCond .eq 9, 3) := by decide +kernel
theorem dX8_left_10 : decode cX8_left 10 = .ok (.iload_n 2, 1) := by decide +kernel
theorem dX8_left_11 : decode cX8_left 11 = .ok (.bipush (-2), 2) := by decide +kernel
theorem dX8_left_13 : decode cX8_left 13 = .ok (.if_icmp .ge 5, 3) := by decide +kernel
theorem dX8_left_16 : decode cX8_left 16 = .ok (.iconst (-1), 1) := by decide +kernel
theorem dX8_left_17 : decode cX8_left 17 = .ok (.ireturn, 1) := by decide +kernel
theorem dX8_left_18 : decode cX8_left 18 = .ok (.aload_n 0, 1) := by decide +kernel
theorem dX8_left_19 : decode cX8_left 19 = .ok (.invokevirtual 132, 3) := by decide +kernel
theorem dX8_left_22 : decode cX8_left 22 = .ok (.aload_n 0, 1) := by decide +kernel
theorem dX8_left_23 : decode cX8_left 23 = .ok (.invokevirtual 148, 3) := by decide +kernel
theorem dX8_left_26 : decode cX8_left 26 = .ok (.iconst (-1), 1) := by decide +kernel
theorem dX8_left_27 : decode cX8_left 27 = .ok (.istore_n 3, 1) := by decide +kernel
theorem dX8_left_28 : decode cX8_left 28 = .ok (.iconst (-1), 1) := by decide +kernel
theorem dX8_left_29 : decode cX8_left 29 = .ok (.istore 4, 2) := by decide +kernel
theorem dX8_left_31 : decode cX8_left 31 = .ok (.bipush (-4), 2) := by decide +kernel
theorem dX8_left_33 : decode cX8_left 33 = .ok (.istore 5, 2) := by decide +kernel
theorem dX8_left_35 : decode cX8_left 35 = .ok (.iconst 1, 1) := by decide +kernel
theorem dX8_left_36 : decode cX8_left 36 = .ok (.istore 6, 2) := by decide +kernel
theorem dX8_left_38 : decode cX8_left 38 = .ok (.iload 6, 2) := by decide +kernel
theorem dX8_left_40 : decode cX8_left 40 = .ok (.ifCond .eq 144, 3) := by decide +kernel
theorem dX8_left_43 : decode cX8_left 43 = .ok (.iconst 0, 1) := by decide +kernel
theorem dX8_left_44 : decode cX8_left 44 = .ok (.istore 7, 2) := by decide +kernel
theorem dX8_left_46 : decode cX8_left 46 = .ok (.iload 7, 2) := by decide +kernel
theorem dX8_left_48 : decode cX8_left 48 = .ok (.bipush 40, 2) := by decide +kernel
theorem dX8_left_50 : decode cX8_left 50 = .ok (.if_icmp .ge 23, 3) := by decide +kernel
theorem dX8_left_53 : decode cX8_left 53 = .ok (.aload_n 0, 1) := by decide +kernel
theorem dX8_left_54 : decode cX8_left 54 = .ok (.getfield 41, 3) := by decide +kernel
theorem dX8_left_57 : decode cX8_left 57 = .ok (.iload 7, 2) := by decide +kernel
theorem dX8_left_59 : decode cX8_left 59 = .ok (.aload_n 0, 1) := by decide +kernel
theorem dX8_left_60 : decode cX8_left 60 = .ok (.getfield 7, 3) := by decide +kernel
theorem dX8_left_63 : decode cX8_left 63 = .ok (.iload 7, 2) := by decide +kernel
theorem dX8_left_65 : decode cX8_left 65 = .ok (.iaload, 1) := by decide +kernel
theorem dX8_left_66 : decode cX8_left 66 = .ok (.iastore, 1) := by decide +kernel
theorem dX8_left_67 : decode cX8_left 67 = .ok (.iinc 7 1, 3) := by decide +kernel
theorem dX8_left_70 : decode cX8_left 70 = .ok (.goto (-24), 3) := by decide +kernel
theorem dX8_left_73 : decode cX8_left 73 = .ok (.aload_n 0, 1) := by decide +kernel
theorem dX8_left_74 : decode cX8_left 74 = .ok (.iload_n 2, 1) := by decide +kernel
theorem dX8_left_75 : decode cX8_left 75 = .ok (.invokevirtual 63, 3) := by decide +kernel
theorem dX8_left_78 : decode cX8_left 78 = .ok (.istore 7, 2) := by decide +kernel
theorem dX8_left_80 : decode cX8_left 80 = .ok (.iconst 0, 1) := by decide +kernel
theorem dX8_left_81 : decode cX8_left 81 = .ok (.istore 8, 2) := by decide +kernel
theorem dX8_left_83 : decode cX8_left 83 = .ok (.iload 8, 2) := by decide +kernel
theorem dX8_left_85 : decode cX8_left 85 = .ok (.iload_n 1, 1) := by decide +kernel
theorem dX8_left_86 : decode cX8_left 86 = .ok (.if_icmp .ge 13, 3) := by decide +kernel
theorem dX8_left_89 : decode cX8_left 89 = .ok (.aload_n 0, 1) := by decide +kernel
theorem dX8_left_90 : decode cX8_left 90 = .ok (.invokevirtual 122, 3) := by decide +kernel
theorem dX8_left_93 : decode cX8_left 93 = .ok (.iinc 8 1, 3) := by decide +kernel
theorem dX8_left_96 : decode cX8_left 96 = .ok (.goto (-13), 3) := by decide +kernel
theorem dX8_left_99 : decode cX8_left 99 = .ok (.aload_n 0, 1) := by decide +kernel
theorem dX8_left_100 : decode cX8_left 100 = .ok (.getfield 7, 3) := by decide +kernel
theorem dX8_left_103 : decode cX8_left 103 = .ok (.iconst 1, 1) := by decide +kernel
theorem dX8_left_104 : decode cX8_left 104 = .ok (.iaload, 1) := by decide +kernel
theorem dX8_left_105 : decode cX8_left 105 = .ok (.iload_n 3, 1) := by decide +kernel
theorem dX8_left_106 : decode cX8_left 106 = .ok (.if_icmp .gt 22, 3) := by decide +kernel
theorem dX8_left_109 : decode cX8_left 109 = .ok (.aload_n 0, 1) := by decide +kernel
theorem dX8_left_110 : decode cX8_left 110 = .ok (.getfield 7, 3) := by decide +kernel
theorem dX8_left_113 : decode cX8_left 113 = .ok (.iconst 1, 1) := by decide +kernel
theorem dX8_left_114 : decode cX8_left 114 = .ok (.iaload, 1) := by decide +kernel
theorem dX8_left_115 : decode cX8_left 115 = .ok (.iload_n 3, 1) := by decide +kernel
theorem dX8_left_116 : decode cX8_left 116 = .ok (.if_icmp .ne 29, 3) := by decide +kernel
theorem dX8_left_119 : decode cX8_left 119 = .ok (.aload_n 0, 1) := by decide +kernel
theorem dX8_left_120 : decode cX8_left 120 = .ok (.invokevirtual 113, 3) := by decide +kernel
theorem dX8_left_123 : decode cX8_left 123 = .ok (.iload 4, 2) := by decide +kernel
theorem dX8_left_125 : decode cX8_left 125 = .ok (.if_icmp .le 20, 3) := by decide +kernel
theorem dX8_left_128 : decode cX8_left 128 = .ok (.aload_n 0, 1) := by decide +kernel
theorem dX8_left_129 : decode cX8_left 129 = .ok (.getfield 7, 3) := by decide +kernel
theorem dX8_left_132 : decode cX8_left 132 = .ok (.iconst 1, 1) := by decide +kernel
theorem dX8_left_133 : decode cX8_left 133 = .ok (.iaload, 1) := by decide +kernel
theorem dX8_left_134 : decode cX8_left 134 = .ok (.istore_n 3, 1) := by decide +kernel
theorem dX8_left_135 : decode cX8_left 135 = .ok (.aload_n 0, 1) := by decide +kernel
theorem dX8_left_136 : decode cX8_left 136 = .ok (.invokevirtual 113, 3) := by decide +kernel
theorem dX8_left_139 : decode cX8_left 139 = .ok (.istore 4, 2) := by decide +kernel
theorem dX8_left_141 : decode cX8_left 141 = .ok (.iload 7, 2) := by decide +kernel
theorem dX8_left_143 : decode cX8_left 143 = .ok (.istore 5, 2) := by decide +kernel
theorem dX8_left_145 : decode cX8_left 145 = .ok (.iconst 0, 1) := by decide +kernel
theorem dX8_left_146 : decode cX8_left 146 = .ok (.istore 8, 2) := by decide +kernel
theorem dX8_left_148 : decode cX8_left 148 = .ok (.iload 8, 2) := by decide +kernel
theorem dX8_left_150 : decode cX8_left 150 = .ok (.bipush 40, 2) := by decide +kernel
theorem dX8_left_152 : decode cX8_left 152 = .ok (.if_icmp .ge 23, 3) := by decide +kernel
theorem dX8_left_155 : decode cX8_left 155 = .ok (.aload_n 0, 1) := by decide +kernel
theorem dX8_left_156 : decode cX8_left 156 = .ok (.getfield 7, 3) := by decide +kernel
theorem dX8_left_159 : decode cX8_left 159 = .ok (.iload 8, 2) := by decide +kernel
theorem dX8_left_161 : decode cX8_left 161 = .ok (.aload_n 0, 1) := by decide +kernel
theorem dX8_left_162 : decode cX8_left 162 = .ok (.getfield 41, 3) := by decide +kernel
theorem dX8_left_165 : decode cX8_left 165 = .ok (.iload 8, 2) := by decide +kernel
theorem dX8_left_167 : decode cX8_left 167 = .ok (.iaload, 1) := by decide +kernel
theorem dX8_left_168 : decode cX8_left 168 = .ok (.iastore, 1) := by decide +kernel
theorem dX8_left_169 : decode cX8_left 169 = .ok (.iinc 8 1, 3) := by decide +kernel
theorem dX8_left_172 : decode cX8_left 172 = .ok (.goto (-24), 3) := by decide +kernel
theorem dX8_left_175 : decode cX8_left 175 = .ok (.aload_n 0, 1) := by decide +kernel
theorem dX8_left_176 : decode cX8_left 176 = .ok (.invokevirtual 151, 3) := by decide +kernel
theorem dX8_left_179 : decode cX8_left 179 = .ok (.istore 6, 2) := by decide +kernel
theorem dX8_left_181 : decode cX8_left 181 = .ok (.goto (-143), 3) := by decide +kernel
theorem dX8_left_184 : decode cX8_left 184 = .ok (.aload_n 0, 1) := by decide +kernel
theorem dX8_left_185 : decode cX8_left 185 = .ok (.invokevirtual 135, 3) := by decide +kernel
theorem dX8_left_188 : decode cX8_left 188 = .ok (.iload_n 2, 1) := by decide +kernel
theorem dX8_left_189 : decode cX8_left 189 = .ok (.iconst (-1), 1) := by decide +kernel
theorem dX8_left_190 : decode cX8_left 190 = .ok (.if_icmp .ne 7, 3) := by decide +kernel
theorem dX8_left_193 : decode cX8_left 193 = .ok (.iload_n 3, 1) := by decide +kernel
theorem dX8_left_194 : decode cX8_left 194 = .ok (.goto 16, 3) := by decide +kernel
theorem dX8_left_197 : decode cX8_left 197 = .ok (.iload_n 2, 1) := by decide +kernel
theorem dX8_left_198 : decode cX8_left 198 = .ok (.bipush (-2), 2) := by decide +kernel
theorem dX8_left_200 : decode cX8_left 200 = .ok (.if_icmp .ne 8, 3) := by decide +kernel
theorem dX8_left_203 : decode cX8_left 203 = .ok (.iload 4, 2) := by decide +kernel
theorem dX8_left_205 : decode cX8_left 205 = .ok (.goto 5, 3) := by decide +kernel
theorem dX8_left_208 : decode cX8_left 208 = .ok (.iload 5, 2) := by decide +kernel
theorem dX8_left_210 : decode cX8_left 210 = .ok (.ireturn, 1) := by decide +kernel
theorem dX8_winter_0 : decode cX8_winter 0 = .ok (.iload_n 1, 1) := by decide +kernel
theorem dX8_winter_1 : decode cX8_winter 1 = .ok (.iconst 0, 1) := by decide +kernel
theorem dX8_winter_2 : decode cX8_winter 2 = .ok (.bipush 6, 2) := by decide +kernel
theorem dX8_winter_4 : decode cX8_winter 4 = .ok (.invokestatic 44, 3) := by decide +kernel
theorem dX8_winter_7 : decode cX8_winter 7 = .ok (.ifCond .eq 22, 3) := by decide +kernel
theorem dX8_winter_10 : decode cX8_winter 10 = .ok (.iload_n 2, 1) := by decide +kernel
theorem dX8_winter_11 : decode cX8_winter 11 = .ok (.iconst 0, 1) := by decide +kernel
theorem dX8_winter_12 : decode cX8_winter 12 = .ok (.bipush 10, 2) := by decide +kernel
theorem dX8_winter_14 : decode cX8_winter 14 = .ok (.invokestatic 44, 3) := by decide +kernel
theorem dX8_winter_17 : decode cX8_winter 17 = .ok (.ifCond .eq 12, 3) := by decide +kernel
theorem dX8_winter_20 : decode cX8_winter 20 = .ok (.iload_n 3, 1) := by decide +kernel
theorem dX8_winter_21 : decode cX8_winter 21 = .ok (.iconst 0, 1) := by decide +kernel
theorem dX8_winter_22 : decode cX8_winter 22 = .ok (.iconst 1, 1) := by decide +kernel
theorem dX8_winter_23 : decode cX8_winter 23 = .ok (.invokestatic 44, 3) := by decide +kernel
theorem dX8_winter_26 : decode cX8_winter 26 = .ok (.ifCond .ne 5, 3) := by decide +kernel
theorem dX8_winter_29 : decode cX8_winter 29 = .ok (.iconst (-1), 1) := by decide +kernel
theorem dX8_winter_30 : decode cX8_winter 30 = .ok (.ireturn, 1) := by decide +kernel
theorem dX8_winter_31 : decode cX8_winter 31 = .ok (.iconst 0, 1) := by decide +kernel
theorem dX8_winter_32 : decode cX8_winter 32 = .ok (.istore 4, 2) := by decide +kernel
theorem dX8_winter_34 : decode cX8_winter 34 = .ok (.iconst 1, 1) := by decide +kernel
theorem dX8_winter_35 : decode cX8_winter 35 = .ok (.istore 5, 2) := by decide +kernel
theorem dX8_winter_37 : decode cX8_winter 37 = .ok (.iconst 0, 1) := by decide +kernel
theorem dX8_winter_38 : decode cX8_winter 38 = .ok (.istore 6, 2) := by decide +kernel
theorem dX8_winter_40 : decode cX8_winter 40 = .ok (.iload 6, 2) := by decide +kernel
theorem dX8_winter_42 : decode cX8_winter 42 = .ok (.aload_n 0, 1) := by decide +kernel
theorem dX8_winter_43 : decode cX8_winter 43 = .ok (.getfield 7, 3) := by decide +kernel
theorem dX8_winter_46 : decode cX8_winter 46 = .ok (.iconst 1, 1) := by decide +kernel
theorem dX8_winter_47 : decode cX8_winter 47 = .ok (.iaload, 1) := by decide +kernel
theorem dX8_winter_48 : decode cX8_winter 48 = .ok (.if_icmp .ge 16, 3) := by decide +kernel
theorem dX8_winter_51 : decode cX8_winter 51 = .ok (.iload 5, 2) := by decide +kernel
theorem dX8_winter_53 : decode cX8_winter 53 = .ok (.bipush 10, 2) := by decide +kernel
theorem dX8_winter_55 : decode cX8_winter 55 = .ok (.imul, 1) := by decide +kernel
theorem dX8_winter_56 : decode cX8_winter 56 = .ok (.istore 5, 2) := by decide +kernel
theorem dX8_winter_58 : decode cX8_winter 58 = .ok (.iinc 6 1, 3) := by decide +kernel
theorem dX8_winter_61 : decode cX8_winter 61 = .ok (.goto (-21), 3) := by decide +kernel
theorem dX8_winter_64 : decode cX8_winter 64 = .ok (.iconst 0, 1) := by decide +kernel
theorem dX8_winter_65 : decode cX8_winter 65 = .ok (.istore 6, 2) := by decide +kernel
theorem dX8_winter_67 : decode cX8_winter 67 = .ok (.iload 6, 2) := by decide +kernel
theorem dX8_winter_69 : decode cX8_winter 69 = .ok (.iconst 1, 1) := by decide +kernel
theorem dX8_winter_70 : decode cX8_winter 70 = .ok (.aload_n 0, 1) := by decide +kernel
theorem dX8_winter_71 : decode cX8_winter 71 = .ok (.getfield 7, 3) := by decide +kernel
theorem dX8_winter_74 : decode cX8_winter 74 = .ok (.iconst 1, 1) := by decide +kernel
theorem dX8_winter_75 : decode cX8_winter 75 = .ok (.iaload, 1) := by decide +kernel
theorem dX8_winter_76 : decode cX8_winter 76 = .ok (.ishl, 1) := by decide +kernel
theorem dX8_winter_77 : decode cX8_winter 77 = .ok (.if_icmp .ge 151, 3) := by decide +kernel
theorem dX8_winter_80 : decode cX8_winter 80 = .ok (.iconst 1, 1) := by decide +kernel
theorem dX8_winter_81 : decode cX8_winter 81 = .ok (.istore 7, 2) := by decide +kernel
theorem dX8_winter_83 : decode cX8_winter 83 = .ok (.bipush (-4), 2) := by decide +kernel
theorem dX8_winter_85 : decode cX8_winter 85 = .ok (.istore 8, 2) := by decide +kernel
theorem dX8_winter_87 : decode cX8_winter 87 = .ok (.iload 6, 2) := by decide +kernel
theorem dX8_winter_89 : decode cX8_winter 89 = .ok (.invokestatic 72, 3) := by decide +kernel
theorem dX8_winter_92 : decode cX8_winter 92 = .ok (.iload_n 1, 1) := by decide +kernel
theorem dX8_winter_93 : decode cX8_winter 93 = .ok (.if_icmp .lt 7, 3) := by decide +kernel
theorem dX8_winter_96 : decode cX8_winter 96 = .ok (.iconst 1, 1) := by decide +kernel
theorem dX8_winter_97 : decode cX8_winter 97 = .ok (.goto 4, 3) := by decide +kernel
theorem dX8_winter_100 : decode cX8_winter 100 = .ok (.iconst 0, 1) := by decide +kernel
theorem dX8_winter_101 : decode cX8_winter 101 = .ok (.istore 9, 2) := by decide +kernel
theorem dX8_winter_103 : decode cX8_winter 103 = .ok (.iconst 0, 1) := by decide +kernel
theorem dX8_winter_104 : decode cX8_winter 104 = .ok (.istore 10, 2) := by decide +kernel
theorem dX8_winter_106 : decode cX8_winter 106 = .ok (.iload 10, 2) := by decide +kernel
theorem dX8_winter_108 : decode cX8_winter 108 = .ok (.aload_n 0, 1) := by decide +kernel
theorem dX8_winter_109 : decode cX8_winter 109 = .ok (.getfield 7, 3) := by decide +kernel
theorem dX8_winter_112 : decode cX8_winter 112 = .ok (.iconst 1, 1) := by decide +kernel
theorem dX8_winter_113 : decode cX8_winter 113 = .ok (.iaload, 1) := by decide +kernel
theorem dX8_winter_114 : decode cX8_winter 114 = .ok (.if_icmp .ge 92, 3) := by decide +kernel
theorem dX8_winter_117 : decode cX8_winter 117 = .ok (.iload 7, 2) := by decide +kernel
theorem dX8_winter_119 : decode cX8_winter 119 = .ok (.iload 6, 2) := by decide +kernel
theorem dX8_winter_121 : decode cX8_winter 121 = .ok (.iload 10, 2) := by decide +kernel
theorem dX8_winter_123 : decode cX8_winter 123 = .ok (.invokestatic 79, 3) := by decide +kernel
theorem dX8_winter_126 : decode cX8_winter 126 = .ok (.ifCond .eq 10, 3) := by decide +kernel
theorem dX8_winter_129 : decode cX8_winter 129 = .ok (.bipush 10, 2) := by decide +kernel
theorem dX8_winter_131 : decode cX8_winter 131 = .ok (.iload_n 2, 1) := by decide +kernel
theorem dX8_winter_132 : decode cX8_winter 132 = .ok (.isub, 1) := by decide +kernel
theorem dX8_winter_133 : decode cX8_winter 133 = .ok (.goto 4, 3) := by decide +kernel
theorem dX8_winter_136 : decode cX8_winter 136 = .ok (.iload_n 2, 1) := by decide +kernel
theorem dX8_winter_137 : decode cX8_winter 137 = .ok (.imul, 1) := by decide +kernel
theorem dX8_winter_138 : decode cX8_winter 138 = .ok (.istore 7, 2) := by decide +kernel
theorem dX8_winter_140 : decode cX8_winter 140 = .ok (.iload 6, 2) := by decide +kernel
theorem dX8_winter_142 : decode cX8_winter 142 = .ok (.iload 10, 2) := by decide +kernel
theorem dX8_winter_144 : decode cX8_winter 144 = .ok (.invokestatic 79, 3) := by decide +kernel
theorem dX8_winter_147 : decode cX8_winter 147 = .ok (.ifCond .eq 53, 3) := by decide +kernel
theorem dX8_winter_150 : decode cX8_winter 150 = .ok (.iload 9, 2) := by decide +kernel
theorem dX8_winter_152 : decode cX8_winter 152 = .ok (.ifCond .eq 33, 3) := by decide +kernel
theorem dX8_winter_155 : decode cX8_winter 155 = .ok (.iload 8, 2) := by decide +kernel
theorem dX8_winter_157 : decode cX8_winter 157 = .ok (.bipush (-4), 2) := by decide +kernel
theorem dX8_winter_159 : decode cX8_winter 159 = .ok (.if_icmp .eq 22, 3) := by decide +kernel
theorem dX8_winter_162 : decode cX8_winter 162 = .ok (.aload_n 0, 1) := by decide +kernel
theorem dX8_winter_163 : decode cX8_winter 163 = .ok (.iload 8, 2) := by decide +kernel
theorem dX8_winter_165 : decode cX8_winter 165 = .ok (.aload_n 0, 1) := by decide +kernel
theorem dX8_winter_166 : decode cX8_winter 166 = .ok (.getfield 7, 3) := by decide +kernel
theorem dX8_winter_169 : decode cX8_winter 169 = .ok (.bipush 10, 2) := by decide +kernel
theorem dX8_winter_171 : decode cX8_winter 171 = .ok (.iload 10, 2) := by decide +kernel
theorem dX8_winter_173 : decode cX8_winter 173 = .ok (.iadd, 1) := by decide +kernel
theorem dX8_winter_174 : decode cX8_winter 174 = .ok (.iaload, 1) := by decide +kernel
theorem dX8_winter_175 : decode cX8_winter 175 = .ok (.invokevirtual 56, 3) := by decide +kernel
theorem dX8_winter_178 : decode cX8_winter 178 = .ok (.ifCond .eq 7, 3) := by decide +kernel
theorem dX8_winter_181 : decode cX8_winter 181 = .ok (.iconst 1, 1) := by decide +kernel
theorem dX8_winter_182 : decode cX8_winter 182 = .ok (.goto 4, 3) := by decide +kernel
theorem dX8_winter_185 : decode cX8_winter 185 = .ok (.iconst 0, 1) := by decide +kernel
theorem dX8_winter_186 : decode cX8_winter 186 = .ok (.istore 9, 2) := by decide +kernel
theorem dX8_winter_188 : decode cX8_winter 188 = .ok (.aload_n 0, 1) := by decide +kernel
theorem dX8_winter_189 : decode cX8_winter 189 = .ok (.getfield 7, 3) := by decide +kernel
theorem dX8_winter_192 : decode cX8_winter 192 = .ok (.bipush 10, 2) := by decide +kernel
theorem dX8_winter_194 : decode cX8_winter 194 = .ok (.iload 10, 2) := by decide +kernel
theorem dX8_winter_196 : decode cX8_winter 196 = .ok (.iadd, 1) := by decide +kernel
theorem dX8_winter_197 : decode cX8_winter 197 = .ok (.iaload, 1) := by decide +kernel
theorem dX8_winter_198 : decode cX8_winter 198 = .ok (.istore 8, 2) := by decide +kernel
theorem dX8_winter_200 : decode cX8_winter 200 = .ok (.iinc 10 1, 3) := by decide +kernel
theorem dX8_winter_203 : decode cX8_winter 203 = .ok (.goto (-97), 3) := by decide +kernel
theorem dX8_winter_206 : decode cX8_winter 206 = .ok (.iload 4, 2) := by decide +kernel
theorem dX8_winter_208 : decode cX8_winter 208 = .ok (.iload 9, 2) := by decide +kernel
theorem dX8_winter_210 : decode cX8_winter 210 = .ok (.ifCond .eq 8, 3) := by decide +kernel
theorem dX8_winter_213 : decode cX8_winter 213 = .ok (.iload 7, 2) := by decide +kernel
theorem dX8_winter_215 : decode cX8_winter 215 = .ok (.goto 4, 3) := by decide +kernel
theorem dX8_winter_218 : decode cX8_winter 218 = .ok (.iconst 0, 1) := by decide +kernel
theorem dX8_winter_219 : decode cX8_winter 219 = .ok (.iadd, 1) := by decide +kernel
theorem dX8_winter_220 : decode cX8_winter 220 = .ok (.istore 4, 2) := by decide +kernel
theorem dX8_winter_222 : decode cX8_winter 222 = .ok (.iinc 6 1, 3) := by decide +kernel
theorem dX8_winter_225 : decode cX8_winter 225 = .ok (.goto (-158), 3) := by decide +kernel
theorem dX8_winter_228 : decode cX8_winter 228 = .ok (.iload 4, 2) := by decide +kernel
theorem dX8_winter_230 : decode cX8_winter 230 = .ok (.istore 6, 2) := by decide +kernel
theorem dX8_winter_232 : decode cX8_winter 232 = .ok (.iload 5, 2) := by decide +kernel
theorem dX8_winter_234 : decode cX8_winter 234 = .ok (.istore 7, 2) := by decide +kernel
theorem dX8_winter_236 : decode cX8_winter 236 = .ok (.iload 7, 2) := by decide +kernel
theorem dX8_winter_238 : decode cX8_winter 238 = .ok (.ifCond .le 21, 3) := by decide +kernel
theorem dX8_winter_241 : decode cX8_winter 241 = .ok (.iload 6, 2) := by decide +kernel
theorem dX8_winter_243 : decode cX8_winter 243 = .ok (.iload 7, 2) := by decide +kernel
theorem dX8_winter_245 : decode cX8_winter 245 = .ok (.irem, 1) := by decide +kernel
theorem dX8_winter_246 : decode cX8_winter 246 = .ok (.istore 8, 2) := by decide +kernel
theorem dX8_winter_248 : decode cX8_winter 248 = .ok (.iload 7, 2) := by decide +kernel
theorem dX8_winter_250 : decode cX8_winter 250 = .ok (.istore 6, 2) := by decide +kernel
theorem dX8_winter_252 : decode cX8_winter 252 = .ok (.iload 8, 2) := by decide +kernel
theorem dX8_winter_254 : decode cX8_winter 254 = .ok (.istore 7, 2) := by decide +kernel
theorem dX8_winter_256 : decode cX8_winter 256 = .ok (.goto (-20), 3) := by decide +kernel
theorem dX8_winter_259 : decode cX8_winter 259 = .ok (.iload_n 3, 1) := by decide +kernel
theorem dX8_winter_260 : decode cX8_winter 260 = .ok (.ifCond .ne 11, 3) := by decide +kernel
theorem dX8_winter_263 : decode cX8_winter 263 = .ok (.iload 4, 2) := by decide +kernel
theorem dX8_winter_265 : decode cX8_winter 265 = .ok (.iload 6, 2) := by decide +kernel
theorem dX8_winter_267 : decode cX8_winter 267 = .ok (.idiv, 1) := by decide +kernel
theorem dX8_winter_268 : decode cX8_winter 268 = .ok (.goto 8, 3) := by decide +kernel
theorem dX8_winter_271 : decode cX8_winter 271 = .ok (.iload 5, 2) := by decide +kernel
theorem dX8_winter_273 : decode cX8_winter 273 = .ok (.iload 6, 2) := by decide +kernel
theorem dX8_winter_275 : decode cX8_winter 275 = .ok (.idiv, 1) := by decide +kernel
theorem dX8_winter_276 : decode cX8_winter 276 = .ok (.ireturn, 1) := by decide +kernel
theorem dX8_image_0 : decode cX8_image 0 = .ok (.iconst 0, 1) := by decide +kernel
theorem dX8_image_1 : decode cX8_image 1 = .ok (.istore_n 1, 1) := by decide +kernel
theorem dX8_image_2 : decode cX8_image 2 = .ok (.iload_n 1, 1) := by decide +kernel
theorem dX8_image_3 : decode cX8_image 3 = .ok (.sipush 161, 3) := by decide +kernel
theorem dX8_image_6 : decode cX8_image 6 = .ok (.if_icmp .ge 21, 3) := by decide +kernel
theorem dX8_image_9 : decode cX8_image 9 = .ok (.aload_n 0, 1) := by decide +kernel
theorem dX8_image_10 : decode cX8_image 10 = .ok (.getfield 13, 3) := by decide +kernel
theorem dX8_image_13 : decode cX8_image 13 = .ok (.iload_n 1, 1) := by decide +kernel
theorem dX8_image_14 : decode cX8_image 14 = .ok (.aload_n 0, 1) := by decide +kernel
theorem dX8_image_15 : decode cX8_image 15 = .ok (.getfield 7, 3) := by decide +kernel
theorem dX8_image_18 : decode cX8_image 18 = .ok (.iload_n 1, 1) := by decide +kernel
theorem dX8_image_19 : decode cX8_image 19 = .ok (.iaload, 1) := by decide +kernel
theorem dX8_image_20 : decode cX8_image 20 = .ok (.iastore, 1) := by decide +kernel
theorem dX8_image_21 : decode cX8_image 21 = .ok (.iinc 1 1, 3) := by decide +kernel
theorem dX8_image_24 : decode cX8_image 24 = .ok (.goto (-22), 3) := by decide +kernel
theorem dX8_image_27 : decode cX8_image 27 = .ok (.aload_n 0, 1) := by decide +kernel
theorem dX8_image_28 : decode cX8_image 28 = .ok (.iconst 1, 1) := by decide +kernel
theorem dX8_image_29 : decode cX8_image 29 = .ok (.putfield 155, 3) := by decide +kernel
theorem dX8_image_32 : decode cX8_image 32 = .ok (.iconst 1, 1) := by decide +kernel
theorem dX8_image_33 : decode cX8_image 33 = .ok (.ireturn, 1) := by decide +kernel
theorem dX8_restore_0 : decode cX8_restore 0 = .ok (.aload_n 0, 1) := by decide +kernel
theorem dX8_restore_1 : decode cX8_restore 1 = .ok (.getfield 155, 3) := by decide +kernel
theorem dX8_restore_4 : decode cX8_restore 4 = .ok (.ifCond .ne 6, 3) := by decide +kernel
theorem dX8_restore_7 : decode cX8_restore 7 = .ok (.bipush (-4), 2) := by decide +kernel
theorem dX8_restore_9 : decode cX8_restore 9 = .ok (.ireturn, 1) := by decide +kernel
theorem dX8_restore_10 : decode cX8_restore 10 = .ok (.iconst 0, 1) := by decide +kernel
theorem dX8_restore_11 : decode cX8_restore 11 = .ok (.istore_n 1, 1) := by decide +kernel
theorem dX8_restore_12 : decode cX8_restore 12 = .ok (.iload_n 1, 1) := by decide +kernel
theorem dX8_restore_13 : decode cX8_restore 13 = .ok (.sipush 161, 3) := by decide +kernel
theorem dX8_restore_16 : decode cX8_restore 16 = .ok (.if_icmp .ge 21, 3) := by decide +kernel
theorem dX8_restore_19 : decode cX8_restore 19 = .ok (.aload_n 0, 1) := by decide +kernel
theorem dX8_restore_20 : decode cX8_restore 20 = .ok (.getfield 7, 3) := by decide +kernel
theorem dX8_restore_23 : decode cX8_restore 23 = .ok (.iload_n 1, 1) := by decide +kernel
theorem dX8_restore_24 : decode cX8_restore 24 = .ok (.aload_n 0, 1) := by decide +kernel
theorem dX8_restore_25 : decode cX8_restore 25 = .ok (.getfield 13, 3) := by decide +kernel
theorem dX8_restore_28 : decode cX8_restore 28 = .ok (.iload_n 1, 1) := by decide +kernel
theorem dX8_restore_29 : decode cX8_restore 29 = .ok (.iaload, 1) := by decide +kernel
theorem dX8_restore_30 : decode cX8_restore 30 = .ok (.iastore, 1) := by decide +kernel
theorem dX8_restore_31 : decode cX8_restore 31 = .ok (.iinc 1 1, 3) := by decide +kernel
theorem dX8_restore_34 : decode cX8_restore 34 = .ok (.goto (-22), 3) := by decide +kernel
theorem dX8_restore_37 : decode cX8_restore 37 = .ok (.iconst 1, 1) := by decide +kernel
theorem dX8_restore_38 : decode cX8_restore 38 = .ok (.ireturn, 1) := by decide +kernel
theorem dX8_isSheet_0 : decode cX8_isSheet 0 = .ok (.iload_n 0, 1) := by decide +kernel
theorem dX8_isSheet_1 : decode cX8_isSheet 1 = .ok (.iconst 0, 1) := by decide +kernel
theorem dX8_isSheet_2 : decode cX8_isSheet 2 = .ok (.iconst 3, 1) := by decide +kernel
theorem dX8_isSheet_3 : decode cX8_isSheet 3 = .ok (.invokestatic 44, 3) := by decide +kernel
theorem dX8_isSheet_6 : decode cX8_isSheet 6 = .ok (.ireturn, 1) := by decide +kernel
theorem dX8_barred_0 : decode cX8_barred 0 = .ok (.aload_n 0, 1) := by decide +kernel
theorem dX8_barred_1 : decode cX8_barred 1 = .ok (.getfield 29, 3) := by decide +kernel
theorem dX8_barred_4 : decode cX8_barred 4 = .ok (.iload_n 1, 1) := by decide +kernel
theorem dX8_barred_5 : decode cX8_barred 5 = .ok (.iaload, 1) := by decide +kernel
theorem dX8_barred_6 : decode cX8_barred 6 = .ok (.ifCond .ge 6, 3) := by decide +kernel
theorem dX8_barred_9 : decode cX8_barred 9 = .ok (.bipush (-11), 2) := by decide +kernel
theorem dX8_barred_11 : decode cX8_barred 11 = .ok (.ireturn, 1) := by decide +kernel
theorem dX8_barred_12 : decode cX8_barred 12 = .ok (.aload_n 0, 1) := by decide +kernel
theorem dX8_barred_13 : decode cX8_barred 13 = .ok (.getfield 32, 3) := by decide +kernel
theorem dX8_barred_16 : decode cX8_barred 16 = .ok (.iload_n 1, 1) := by decide +kernel
theorem dX8_barred_17 : decode cX8_barred 17 = .ok (.iaload, 1) := by decide +kernel
theorem dX8_barred_18 : decode cX8_barred 18 = .ok (.iload_n 2, 1) := by decide +kernel
theorem dX8_barred_19 : decode cX8_barred 19 = .ok (.if_icmp .eq 6, 3) := by decide +kernel
theorem dX8_barred_22 : decode cX8_barred 22 = .ok (.bipush (-12), 2) := by decide +kernel
theorem dX8_barred_24 : decode cX8_barred 24 = .ok (.ireturn, 1) := by decide +kernel
theorem dX8_barred_25 : decode cX8_barred 25 = .ok (.iload_n 3, 1) := by decide +kernel
theorem dX8_barred_26 : decode cX8_barred 26 = .ok (.ifCond .lt 32, 3) := by decide +kernel
theorem dX8_barred_29 : decode cX8_barred 29 = .ok (.iload 4, 2) := by decide +kernel
theorem dX8_barred_31 : decode cX8_barred 31 = .ok (.ifCond .lt 27, 3) := by decide +kernel
theorem dX8_barred_34 : decode cX8_barred 34 = .ok (.iload 4, 2) := by decide +kernel
theorem dX8_barred_36 : decode cX8_barred 36 = .ok (.aload_n 0, 1) := by decide +kernel
theorem dX8_barred_37 : decode cX8_barred 37 = .ok (.getfield 29, 3) := by decide +kernel
theorem dX8_barred_40 : decode cX8_barred 40 = .ok (.iload_n 1, 1) := by decide +kernel
theorem dX8_barred_41 : decode cX8_barred 41 = .ok (.iaload, 1) := by decide +kernel
theorem dX8_barred_42 : decode cX8_barred 42 = .ok (.if_icmp .gt 16, 3) := by decide +kernel
theorem dX8_barred_45 : decode cX8_barred 45 = .ok (.iload_n 3, 1) := by decide +kernel
theorem dX8_barred_46 : decode cX8_barred 46 = .ok (.aload_n 0, 1) := by decide +kernel
theorem dX8_barred_47 : decode cX8_barred 47 = .ok (.getfield 29, 3) := by decide +kernel
theorem dX8_barred_50 : decode cX8_barred 50 = .ok (.iload_n 1, 1) := by decide +kernel
theorem dX8_barred_51 : decode cX8_barred 51 = .ok (.iaload, 1) := by decide +kernel
theorem dX8_barred_52 : decode cX8_barred 52 = .ok (.iload 4, 2) := by decide +kernel
theorem dX8_barred_54 : decode cX8_barred 54 = .ok (.isub, 1) := by decide +kernel
theorem dX8_barred_55 : decode cX8_barred 55 = .ok (.if_icmp .le 8, 3) := by decide +kernel
theorem dX8_barred_58 : decode cX8_barred 58 = .ok (.bipush (-13), 2) := by decide +kernel
theorem dX8_barred_60 : decode cX8_barred 60 = .ok (.goto 4, 3) := by decide +kernel
theorem dX8_barred_63 : decode cX8_barred 63 = .ok (.iconst 0, 1) := by decide +kernel
theorem dX8_barred_64 : decode cX8_barred 64 = .ok (.ireturn, 1) := by decide +kernel
theorem dX8_cut_0 : decode cX8_cut 0 = .ok (.iload_n 0, 1) := by decide +kernel
theorem dX8_cut_1 : decode cX8_cut 1 = .ok (.ifCond .ne 10, 3) := by decide +kernel
theorem dX8_cut_4 : decode cX8_cut 4 = .ok (.lload_n 1, 1) := by decide +kernel
theorem dX8_cut_5 : decode cX8_cut 5 = .ok (.l2i, 1) := by decide +kernel
theorem dX8_cut_6 : decode cX8_cut 6 = .ok (.i2b, 1) := by decide +kernel
theorem dX8_cut_7 : decode cX8_cut 7 = .ok (.i2l, 1) := by decide +kernel
theorem dX8_cut_8 : decode cX8_cut 8 = .ok (.goto 27, 3) := by decide +kernel
theorem dX8_cut_11 : decode cX8_cut 11 = .ok (.iload_n 0, 1) := by decide +kernel
theorem dX8_cut_12 : decode cX8_cut 12 = .ok (.iconst 1, 1) := by decide +kernel
theorem dX8_cut_13 : decode cX8_cut 13 = .ok (.if_icmp .ne 10, 3) := by decide +kernel
theorem dX8_cut_16 : decode cX8_cut 16 = .ok (.lload_n 1, 1) := by decide +kernel
theorem dX8_cut_17 : decode cX8_cut 17 = .ok (.l2i, 1) := by decide +kernel
theorem dX8_cut_18 : decode cX8_cut 18 = .ok (.i2s, 1) := by decide +kernel
theorem dX8_cut_19 : decode cX8_cut 19 = .ok (.i2l, 1) := by decide +kernel
theorem dX8_cut_20 : decode cX8_cut 20 = .ok (.goto 15, 3) := by decide +kernel
theorem dX8_cut_23 : decode cX8_cut 23 = .ok (.iload_n 0, 1) := by decide +kernel
theorem dX8_cut_24 : decode cX8_cut 24 = .ok (.iconst 2, 1) := by decide +kernel
theorem dX8_cut_25 : decode cX8_cut 25 = .ok (.if_icmp .ne 9, 3) := by decide +kernel
theorem dX8_cut_28 : decode cX8_cut 28 = .ok (.lload_n 1, 1) := by decide +kernel
theorem dX8_cut_29 : decode cX8_cut 29 = .ok (.l2i, 1) := by decide +kernel
theorem dX8_cut_30 : decode cX8_cut 30 = .ok (.i2l, 1) := by decide +kernel
theorem dX8_cut_31 : decode cX8_cut 31 = .ok (.goto 4, 3) := by decide +kernel
theorem dX8_cut_34 : decode cX8_cut 34 = .ok (.lload_n 1, 1) := by decide +kernel
theorem dX8_cut_35 : decode cX8_cut 35 = .ok (.lreturn, 1) := by decide +kernel
theorem dX8_isSo_0 : decode cX8_isSo 0 = .ok (.iconst 1, 1) := by decide +kernel
theorem dX8_isSo_1 : decode cX8_isSo 1 = .ok (.istore 4, 2) := by decide +kernel
theorem dX8_isSo_3 : decode cX8_isSo 3 = .ok (.iconst 0, 1) := by decide +kernel
theorem dX8_isSo_4 : decode cX8_isSo 4 = .ok (.istore 5, 2) := by decide +kernel
theorem dX8_isSo_6 : decode cX8_isSo 6 = .ok (.iload 5, 2) := by decide +kernel
theorem dX8_isSo_8 : decode cX8_isSo 8 = .ok (.iload_n 3, 1) := by decide +kernel
theorem dX8_isSo_9 : decode cX8_isSo 9 = .ok (.if_icmp .ge 47, 3) := by decide +kernel
theorem dX8_isSo_12 : decode cX8_isSo 12 = .ok (.iload 4, 2) := by decide +kernel
theorem dX8_isSo_14 : decode cX8_isSo 14 = .ok (.ifCond .eq 42, 3) := by decide +kernel
theorem dX8_isSo_17 : decode cX8_isSo 17 = .ok (.aload_n 0, 1) := by decide +kernel
theorem dX8_isSo_18 : decode cX8_isSo 18 = .ok (.invokevirtual 122, 3) := by decide +kernel
theorem dX8_isSo_21 : decode cX8_isSo 21 = .ok (.aload_n 0, 1) := by decide +kernel
theorem dX8_isSo_22 : decode cX8_isSo 22 = .ok (.getfield 22, 3) := by decide +kernel
theorem dX8_isSo_25 : decode cX8_isSo 25 = .ok (.iload_n 2, 1) := by decide +kernel
theorem dX8_isSo_26 : decode cX8_isSo 26 = .ok (.iload 5, 2) := by decide +kernel
theorem dX8_isSo_28 : decode cX8_isSo 28 = .ok (.iadd, 1) := by decide +kernel
theorem dX8_isSo_29 : decode cX8_isSo 29 = .ok (.laload, 1) := by decide +kernel
theorem dX8_isSo_30 : decode cX8_isSo 30 = .ok (.aload_n 0, 1) := by decide +kernel
theorem dX8_isSo_31 : decode cX8_isSo 31 = .ok (.getfield 7, 3) := by decide +kernel
theorem dX8_isSo_34 : decode cX8_isSo 34 = .ok (.iconst 4, 1) := by decide +kernel
theorem dX8_isSo_35 : decode cX8_isSo 35 = .ok (.iload_n 1, 1) := by decide +kernel
theorem dX8_isSo_36 : decode cX8_isSo 36 = .ok (.iadd, 1) := by decide +kernel
theorem dX8_isSo_37 : decode cX8_isSo 37 = .ok (.iaload, 1) := by decide +kernel
theorem dX8_isSo_38 : decode cX8_isSo 38 = .ok (.i2l, 1) := by decide +kernel
theorem dX8_isSo_39 : decode cX8_isSo 39 = .ok (.lcmp, 1) := by decide +kernel
theorem dX8_isSo_40 : decode cX8_isSo 40 = .ok (.ifCond .ne 7, 3) := by decide +kernel
theorem dX8_isSo_43 : decode cX8_isSo 43 = .ok (.iconst 1, 1) := by decide +kernel
theorem dX8_isSo_44 : decode cX8_isSo 44 = .ok (.goto 4, 3) := by decide +kernel
theorem dX8_isSo_47 : decode cX8_isSo 47 = .ok (.iconst 0, 1) := by decide +kernel
theorem dX8_isSo_48 : decode cX8_isSo 48 = .ok (.istore 4, 2) := by decide +kernel
theorem dX8_isSo_50 : decode cX8_isSo 50 = .ok (.iinc 5 1, 3) := by decide +kernel
theorem dX8_isSo_53 : decode cX8_isSo 53 = .ok (.goto (-47), 3) := by decide +kernel
theorem dX8_isSo_56 : decode cX8_isSo 56 = .ok (.aload_n 0, 1) := by decide +kernel
theorem dX8_isSo_57 : decode cX8_isSo 57 = .ok (.invokevirtual 135, 3) := by decide +kernel
theorem dX8_isSo_60 : decode cX8_isSo 60 = .ok (.iload 4, 2) := by decide +kernel
theorem dX8_isSo_62 : decode cX8_isSo 62 = .ok (.ireturn, 1) := by decide +kernel
theorem dX8_failed_0 : decode cX8_failed 0 = .ok (.aload_n 0, 1) := by decide +kernel
theorem dX8_failed_1 : decode cX8_failed 1 = .ok (.iload_n 1, 1) := by decide +kernel
theorem dX8_failed_2 : decode cX8_failed 2 = .ok (.invokevirtual 52, 3) := by decide +kernel
theorem dX8_failed_5 : decode cX8_failed 5 = .ok (.ifCond .eq 40, 3) := by decide +kernel
theorem dX8_failed_8 : decode cX8_failed 8 = .ok (.iload_n 2, 1) := by decide +kernel
theorem dX8_failed_9 : decode cX8_failed 9 = .ok (.invokestatic 159, 3) := by decide +kernel
theorem dX8_failed_12 : decode cX8_failed 12 = .ok (.ifCond .eq 33, 3) := by decide +kernel
theorem dX8_failed_15 : decode cX8_failed 15 = .ok (.iload_n 3, 1) := by decide +kernel
theorem dX8_failed_16 : decode cX8_failed 16 = .ok (.iconst 0, 1) := by decide +kernel
theorem dX8_failed_17 : decode cX8_failed 17 = .ok (.iconst 3, 1) := by decide +kernel
theorem dX8_failed_18 : decode cX8_failed 18 = .ok (.invokestatic 44, 3) := by decide +kernel
theorem dX8_failed_21 : decode cX8_failed 21 = .ok (.ifCond .eq 24, 3) := by decide +kernel
theorem dX8_failed_24 : decode cX8_failed 24 = .ok (.iload 5, 2) := by decide +kernel
theorem dX8_failed_26 : decode cX8_failed 26 = .ok (.iconst 1, 1) := by decide +kernel
theorem dX8_failed_27 : decode cX8_failed 27 = .ok (.bipush 8, 2) := by decide +kernel
theorem dX8_failed_29 : decode cX8_failed 29 = .ok (.invokestatic 44, 3) := by decide +kernel
theorem dX8_failed_32 : decode cX8_failed 32 = .ok (.ifCond .eq 13, 3) := by decide +kernel
theorem dX8_failed_35 : decode cX8_failed 35 = .ok (.iload 6, 2) := by decide +kernel
theorem dX8_failed_37 : decode cX8_failed 37 = .ok (.iconst 0, 1) := by decide +kernel
theorem dX8_failed_38 : decode cX8_failed 38 = .ok (.iconst 2, 1) := by decide +kernel
theorem dX8_failed_39 : decode cX8_failed 39 = .ok (.invokestatic 44, 3) := by decide +kernel
theorem dX8_failed_42 : decode cX8_failed 42 = .ok (.ifCond .ne 5, 3) := by decide +kernel
theorem dX8_failed_45 : decode cX8_failed 45 = .ok (.iconst (-1), 1) := by decide +kernel
theorem dX8_failed_46 : decode cX8_failed 46 = .ok (.ireturn, 1) := by decide +kernel
theorem dX8_failed_47 : decode cX8_failed 47 = .ok (.aload_n 0, 1) := by decide +kernel
theorem dX8_failed_48 : decode cX8_failed 48 = .ok (.iload_n 2, 1) := by decide +kernel
theorem dX8_failed_49 : decode cX8_failed 49 = .ok (.iload_n 3, 1) := by decide +kernel
theorem dX8_failed_50 : decode cX8_failed 50 = .ok (.iload 4, 2) := by decide +kernel
theorem dX8_failed_52 : decode cX8_failed 52 = .ok (.iload 5, 2) := by decide +kernel
theorem dX8_failed_54 : decode cX8_failed 54 = .ok (.invokevirtual 162, 3) := by decide +kernel
theorem dX8_failed_57 : decode cX8_failed 57 = .ok (.istore 7, 2) := by decide +kernel
theorem dX8_failed_59 : decode cX8_failed 59 = .ok (.iload 7, 2) := by decide +kernel
theorem dX8_failed_61 : decode cX8_failed 61 = .ok (.ifCond .eq 6, 3) := by decide +kernel
theorem dX8_failed_64 : decode cX8_failed 64 = .ok (.iload 7, 2) := by decide +kernel
theorem dX8_failed_66 : decode cX8_failed 66 = .ok (.ireturn, 1) := by decide +kernel
theorem dX8_failed_67 : decode cX8_failed 67 = .ok (.aload_n 0, 1) := by decide +kernel
theorem dX8_failed_68 : decode cX8_failed 68 = .ok (.iload_n 1, 1) := by decide +kernel
theorem dX8_failed_69 : decode cX8_failed 69 = .ok (.invokevirtual 59, 3) := by decide +kernel
theorem dX8_failed_72 : decode cX8_failed 72 = .ok (.bipush (-4), 2) := by decide +kernel
theorem dX8_failed_74 : decode cX8_failed 74 = .ok (.if_icmp .ne 6, 3) := by decide +kernel
theorem dX8_failed_77 : decode cX8_failed 77 = .ok (.bipush (-2), 2) := by decide +kernel
theorem dX8_failed_79 : decode cX8_failed 79 = .ok (.ireturn, 1) := by decide +kernel
theorem dX8_failed_80 : decode cX8_failed 80 = .ok (.aload_n 0, 1) := by decide +kernel
theorem dX8_failed_81 : decode cX8_failed 81 = .ok (.invokevirtual 132, 3) := by decide +kernel
theorem dX8_failed_84 : decode cX8_failed 84 = .ok (.bipush 24, 2) := by decide +kernel
theorem dX8_failed_86 : decode cX8_failed 86 = .ok (.iload_n 2, 1) := by decide +kernel
theorem dX8_failed_87 : decode cX8_failed 87 = .ok (.imul, 1) := by decide +kernel
theorem dX8_failed_88 : decode cX8_failed 88 = .ok (.iload 4, 2) := by decide +kernel
theorem dX8_failed_90 : decode cX8_failed 90 = .ok (.iadd, 1) := by decide +kernel
theorem dX8_failed_91 : decode cX8_failed 91 = .ok (.istore 8, 2) := by decide +kernel
theorem dX8_failed_93 : decode cX8_failed 93 = .ok (.iconst 0, 1) := by decide +kernel
theorem dX8_failed_94 : decode cX8_failed 94 = .ok (.istore 9, 2) := by decide +kernel
theorem dX8_failed_96 : decode cX8_failed 96 = .ok (.iconst 0, 1) := by decide +kernel
theorem dX8_failed_97 : decode cX8_failed 97 = .ok (.istore 10, 2) := by decide +kernel
theorem dX8_failed_99 : decode cX8_failed 99 = .ok (.iload 10, 2) := by decide +kernel
theorem dX8_failed_101 : decode cX8_failed 101 = .ok (.iconst 4, 1) := by decide +kernel
theorem dX8_failed_102 : decode cX8_failed 102 = .ok (.if_icmp .gt 45, 3) := by decide +kernel
theorem dX8_failed_105 : decode cX8_failed 105 = .ok (.aload_n 0, 1) := by decide +kernel
theorem dX8_failed_106 : decode cX8_failed 106 = .ok (.getfield 7, 3) := by decide +kernel
theorem dX8_failed_109 : decode cX8_failed 109 = .ok (.bipush 16, 2) := by decide +kernel
theorem dX8_failed_111 : decode cX8_failed 111 = .ok (.iload_n 1, 1) := by decide +kernel
theorem dX8_failed_112 : decode cX8_failed 112 = .ok (.iadd, 1) := by decide +kernel
theorem dX8_failed_113 : decode cX8_failed 113 = .ok (.iload 10, 2) := by decide +kernel
theorem dX8_failed_115 : decode cX8_failed 115 = .ok (.iastore, 1) := by decide +kernel
theorem dX8_failed_116 : decode cX8_failed 116 = .ok (.iload 9, 2) := by decide +kernel
theorem dX8_failed_118 : decode cX8_failed 118 = .ok (.aload_n 0, 1) := by decide +kernel
theorem dX8_failed_119 : decode cX8_failed 119 = .ok (.iload_n 1, 1) := by decide +kernel
theorem dX8_failed_120 : decode cX8_failed 120 = .ok (.iload 8, 2) := by decide +kernel
theorem dX8_failed_122 : decode cX8_failed 122 = .ok (.iload 5, 2) := by decide +kernel
theorem dX8_failed_124 : decode cX8_failed 124 = .ok (.invokevirtual 166, 3) := by decide +kernel
theorem dX8_failed_127 : decode cX8_failed 127 = .ok (.ifCond .eq 10, 3) := by decide +kernel
theorem dX8_failed_130 : decode cX8_failed 130 = .ok (.iconst 1, 1) := by decide +kernel
theorem dX8_failed_131 : decode cX8_failed 131 = .ok (.iload 10, 2) := by decide +kernel
theorem dX8_failed_133 : decode cX8_failed 133 = .ok (.ishl, 1) := by decide +kernel
theorem dX8_failed_134 : decode cX8_failed 134 = .ok (.goto 4, 3) := by decide +kernel
theorem dX8_failed_137 : decode cX8_failed 137 = .ok (.iconst 0, 1) := by decide +kernel
theorem dX8_failed_138 : decode cX8_failed 138 = .ok (.ior, 1) := by decide +kernel
theorem dX8_failed_139 : decode cX8_failed 139 = .ok (.istore 9, 2) := by decide +kernel
theorem dX8_failed_141 : decode cX8_failed 141 = .ok (.iinc 10 1, 3) := by decide +kernel
theorem dX8_failed_144 : decode cX8_failed 144 = .ok (.goto (-45), 3) := by decide +kernel
theorem dX8_failed_147 : decode cX8_failed 147 = .ok (.iconst 0, 1) := by decide +kernel
theorem dX8_failed_148 : decode cX8_failed 148 = .ok (.istore 10, 2) := by decide +kernel
theorem dX8_failed_150 : decode cX8_failed 150 = .ok (.bipush (-4), 2) := by decide +kernel
theorem dX8_failed_152 : decode cX8_failed 152 = .ok (.istore 11, 2) := by decide +kernel
theorem dX8_failed_154 : decode cX8_failed 154 = .ok (.bipush 60, 2) := by decide +kernel
theorem dX8_failed_156 : decode cX8_failed 156 = .ok (.istore 12, 2) := by decide +kernel
theorem dX8_failed_158 : decode cX8_failed 158 = .ok (.iload 12, 2) := by decide +kernel
theorem dX8_failed_160 : decode cX8_failed 160 = .ok (.ifCond .le 59, 3) := by decide +kernel
theorem dX8_failed_163 : decode cX8_failed 163 = .ok (.aload_n 0, 1) := by decide +kernel
theorem dX8_failed_164 : decode cX8_failed 164 = .ok (.getfield 7, 3) := by decide +kernel
theorem dX8_failed_167 : decode cX8_failed 167 = .ok (.iconst 4, 1) := by decide +kernel
theorem dX8_failed_168 : decode cX8_failed 168 = .ok (.iload_n 1, 1) := by decide +kernel
theorem dX8_failed_169 : decode cX8_failed 169 = .ok (.iadd, 1) := by decide +kernel
theorem dX8_failed_170 : decode cX8_failed 170 = .ok (.iload 12, 2) := by decide +kernel
theorem dX8_failed_172 : decode cX8_failed 172 = .ok (.iastore, 1) := by decide +kernel
theorem dX8_failed_173 : decode cX8_failed 173 = .ok (.aload_n 0, 1) := by decide +kernel
theorem dX8_failed_174 : decode cX8_failed 174 = .ok (.iload_n 1, 1) := by decide +kernel
theorem dX8_failed_175 : decode cX8_failed 175 = .ok (.iload 8, 2) := by decide +kernel
theorem dX8_failed_177 : decode cX8_failed 177 = .ok (.iload 5, 2) := by decide +kernel
theorem dX8_failed_179 : decode cX8_failed 179 = .ok (.invokevirtual 166, 3) := by decide +kernel
theorem dX8_failed_182 : decode cX8_failed 182 = .ok (.istore 13, 2) := by decide +kernel
theorem dX8_failed_184 : decode cX8_failed 184 = .ok (.iload 10, 2) := by decide +kernel
theorem dX8_failed_186 : decode cX8_failed 186 = .ok (.iload 13, 2) := by decide +kernel
theorem dX8_failed_188 : decode cX8_failed 188 = .ok (.ifCond .eq 7, 3) := by decide +kernel
theorem dX8_failed_191 : decode cX8_failed 191 = .ok (.iconst 1, 1) := by decide +kernel
theorem dX8_failed_192 : decode cX8_failed 192 = .ok (.goto 4, 3) := by decide +kernel
theorem dX8_failed_195 : decode cX8_failed 195 = .ok (.iconst 0, 1) := by decide +kernel
theorem dX8_failed_196 : decode cX8_failed 196 = .ok (.iadd, 1) := by decide +kernel
theorem dX8_failed_197 : decode cX8_failed 197 = .ok (.istore 10, 2) := by decide +kernel
theorem dX8_failed_199 : decode cX8_failed 199 = .ok (.iload 13, 2) := by decide +kernel
theorem dX8_failed_201 : decode cX8_failed 201 = .ok (.ifCond .eq 8, 3) := by decide +kernel
theorem dX8_failed_204 : decode cX8_failed 204 = .ok (.iload 12, 2) := by decide +kernel
theorem dX8_failed_206 : decode cX8_failed 206 = .ok (.goto 5, 3) := by decide +kernel
theorem dX8_failed_209 : decode cX8_failed 209 = .ok (.iload 11, 2) := by decide +kernel
theorem dX8_failed_211 : decode cX8_failed 211 = .ok (.istore 11, 2) := by decide +kernel
theorem dX8_failed_213 : decode cX8_failed 213 = .ok (.iinc 12 (-1), 3) := by decide +kernel
theorem dX8_failed_216 : decode cX8_failed 216 = .ok (.goto (-58), 3) := by decide +kernel
theorem dX8_failed_219 : decode cX8_failed 219 = .ok (.iload 6, 2) := by decide +kernel
theorem dX8_failed_221 : decode cX8_failed 221 = .ok (.ifCond .ne 8, 3) := by decide +kernel
theorem dX8_failed_224 : decode cX8_failed 224 = .ok (.iload 9, 2) := by decide +kernel
theorem dX8_failed_226 : decode cX8_failed 226 = .ok (.goto 16, 3) := by decide +kernel
theorem dX8_failed_229 : decode cX8_failed 229 = .ok (.iload 6, 2) := by decide +kernel
theorem dX8_failed_231 : decode cX8_failed 231 = .ok (.iconst 1, 1) := by decide +kernel
theorem dX8_failed_232 : decode cX8_failed 232 = .ok (.if_icmp .ne 8, 3) := by decide +kernel
theorem dX8_failed_235 : decode cX8_failed 235 = .ok (.iload 10, 2) := by decide +kernel
theorem dX8_failed_237 : decode cX8_failed 237 = .ok (.goto 5, 3) := by decide +kernel
theorem dX8_failed_240 : decode cX8_failed 240 = .ok (.iload 11, 2) := by decide +kernel
theorem dX8_failed_242 : decode cX8_failed 242 = .ok (.ireturn, 1) := by decide +kernel
theorem dX8_film_0 : decode cX8_film 0 = .ok (.aload_n 0, 1) := by decide +kernel
theorem dX8_film_1 : decode cX8_film 1 = .ok (.iload_n 1, 1) := by decide +kernel
theorem dX8_film_2 : decode cX8_film 2 = .ok (.invokevirtual 52, 3) := by decide +kernel
theorem dX8_film_5 : decode cX8_film 5 = .ok (.ifCond .eq 30, 3) := by decide +kernel
theorem dX8_film_8 : decode cX8_film 8 = .ok (.iload_n 2, 1) := by decide +kernel
theorem dX8_film_9 : decode cX8_film 9 = .ok (.iconst 1, 1) := by decide +kernel
theorem dX8_film_10 : decode cX8_film 10 = .ok (.bipush 24, 2) := by decide +kernel
theorem dX8_film_12 : decode cX8_film 12 = .ok (.invokestatic 44, 3) := by decide +kernel
theorem dX8_film_15 : decode cX8_film 15 = .ok (.ifCond .eq 20, 3) := by decide +kernel
theorem dX8_film_18 : decode cX8_film 18 = .ok (.iload_n 3, 1) := by decide +kernel
theorem dX8_film_19 : decode cX8_film 19 = .ok (.invokestatic 159, 3) := by decide +kernel
theorem dX8_film_22 : decode cX8_film 22 = .ok (.ifCond .eq 13, 3) := by decide +kernel
theorem dX8_film_25 : decode cX8_film 25 = .ok (.iload 4, 2) := by decide +kernel
theorem dX8_film_27 : decode cX8_film 27 = .ok (.iconst 0, 1) := by decide +kernel
theorem dX8_film_28 : decode cX8_film 28 = .ok (.iconst 3, 1) := by decide +kernel
theorem dX8_film_29 : decode cX8_film 29 = .ok (.invokestatic 44, 3) := by decide +kernel
theorem dX8_film_32 : decode cX8_film 32 = .ok (.ifCond .ne 5, 3) := by decide +kernel
theorem dX8_film_35 : decode cX8_film 35 = .ok (.iconst (-1), 1) := by decide +kernel
theorem dX8_film_36 : decode cX8_film 36 = .ok (.ireturn, 1) := by decide +kernel
theorem dX8_film_37 : decode cX8_film 37 = .ok (.aload_n 0, 1) := by decide +kernel
theorem dX8_film_38 : decode cX8_film 38 = .ok (.iload_n 3, 1) := by decide +kernel
theorem dX8_film_39 : decode cX8_film 39 = .ok (.iload 4, 2) := by decide +kernel
theorem dX8_film_41 : decode cX8_film 41 = .ok (.iload 5, 2) := by decide +kernel
theorem dX8_film_43 : decode cX8_film 43 = .ok (.iload_n 2, 1) := by decide +kernel
theorem dX8_film_44 : decode cX8_film 44 = .ok (.invokevirtual 162, 3) := by decide +kernel
theorem dX8_film_47 : decode cX8_film 47 = .ok (.istore 6, 2) := by decide +kernel
theorem dX8_film_49 : decode cX8_film 49 = .ok (.iload 6, 2) := by decide +kernel
theorem dX8_film_51 : decode cX8_film 51 = .ok (.ifCond .eq 6, 3) := by decide +kernel
theorem dX8_film_54 : decode cX8_film 54 = .ok (.iload 6, 2) := by decide +kernel
theorem dX8_film_56 : decode cX8_film 56 = .ok (.ireturn, 1) := by decide +kernel
theorem dX8_film_57 : decode cX8_film 57 = .ok (.aload_n 0, 1) := by decide +kernel
theorem dX8_film_58 : decode cX8_film 58 = .ok (.invokevirtual 132, 3) := by decide +kernel
theorem dX8_film_61 : decode cX8_film 61 = .ok (.iconst 0, 1) := by decide +kernel
theorem dX8_film_62 : decode cX8_film 62 = .ok (.istore 7, 2) := by decide +kernel
theorem dX8_film_64 : decode cX8_film 64 = .ok (.iload 7, 2) := by decide +kernel
theorem dX8_film_66 : decode cX8_film 66 = .ok (.iload_n 2, 1) := by decide +kernel
theorem dX8_film_67 : decode cX8_film 67 = .ok (.if_icmp .ge 37, 3) := by decide +kernel
theorem dX8_film_70 : decode cX8_film 70 = .ok (.aload_n 0, 1) := by decide +kernel
theorem dX8_film_71 : decode cX8_film 71 = .ok (.invokevirtual 122, 3) := by decide +kernel
theorem dX8_film_74 : decode cX8_film 74 = .ok (.aload_n 0, 1) := by decide +kernel
theorem dX8_film_75 : decode cX8_film 75 = .ok (.getfield 22, 3) := by decide +kernel
theorem dX8_film_78 : decode cX8_film 78 = .ok (.bipush 24, 2) := by decide +kernel
theorem dX8_film_80 : decode cX8_film 80 = .ok (.iload_n 3, 1) := by decide +kernel
theorem dX8_film_81 : decode cX8_film 81 = .ok (.imul, 1) := by decide +kernel
theorem dX8_film_82 : decode cX8_film 82 = .ok (.iload 5, 2) := by decide +kernel
theorem dX8_film_84 : decode cX8_film 84 = .ok (.iadd, 1) := by decide +kernel
theorem dX8_film_85 : decode cX8_film 85 = .ok (.iload 7, 2) := by decide +kernel
theorem dX8_film_87 : decode cX8_film 87 = .ok (.iadd, 1) := by decide +kernel
theorem dX8_film_88 : decode cX8_film 88 = .ok (.aload_n 0, 1) := by decide +kernel
theorem dX8_film_89 : decode cX8_film 89 = .ok (.getfield 7, 3) := by decide +kernel
theorem dX8_film_92 : decode cX8_film 92 = .ok (.iconst 4, 1) := by decide +kernel
theorem dX8_film_93 : decode cX8_film 93 = .ok (.iload_n 1, 1) := by decide +kernel
theorem dX8_film_94 : decode cX8_film 94 = .ok (.iadd, 1) := by decide +kernel
theorem dX8_film_95 : decode cX8_film 95 = .ok (.iaload, 1) := by decide +kernel
theorem dX8_film_96 : decode cX8_film 96 = .ok (.i2l, 1) := by decide +kernel
theorem dX8_film_97 : decode cX8_film 97 = .ok (.lastore, 1) := by decide +kernel
theorem dX8_film_98 : decode cX8_film 98 = .ok (.iinc 7 1, 3) := by decide +kernel
theorem dX8_film_101 : decode cX8_film 101 = .ok (.goto (-37), 3) := by decide +kernel
theorem dX8_film_104 : decode cX8_film 104 = .ok (.aload_n 0, 1) := by decide +kernel
theorem dX8_film_105 : decode cX8_film 105 = .ok (.invokevirtual 135, 3) := by decide +kernel
theorem dX8_film_108 : decode cX8_film 108 = .ok (.iload_n 2, 1) := by decide +kernel
theorem dX8_film_109 : decode cX8_film 109 = .ok (.ireturn, 1) := by decide +kernel
theorem dX8_sheet_0 : decode cX8_sheet 0 = .ok (.iload_n 1, 1) := by decide +kernel
theorem dX8_sheet_1 : decode cX8_sheet 1 = .ok (.invokestatic 159, 3) := by decide +kernel
theorem dX8_sheet_4 : decode cX8_sheet 4 = .ok (.ifCond .eq 18, 3) := by decide +kernel
theorem dX8_sheet_7 : decode cX8_sheet 7 = .ok (.iload_n 2, 1) := by decide +kernel
theorem dX8_sheet_8 : decode cX8_sheet 8 = .ok (.iconst 0, 1) := by decide +kernel
theorem dX8_sheet_9 : decode cX8_sheet 9 = .ok (.iconst 3, 1) := by decide +kernel
theorem dX8_sheet_10 : decode cX8_sheet 10 = .ok (.invokestatic 44, 3) := by decide +kernel
theorem dX8_sheet_13 : decode cX8_sheet 13 = .ok (.ifCond .eq 9, 3) := by decide +kernel
theorem dX8_sheet_16 : decode cX8_sheet 16 = .ok (.iload_n 3, 1) := by decide +kernel
theorem dX8_sheet_17 : decode cX8_sheet 17 = .ok (.bipush 24, 2) := by decide +kernel
theorem dX8_sheet_19 : decode cX8_sheet 19 = .ok (.if_icmp .le 5, 3) := by decide +kernel
theorem dX8_sheet_22 : decode cX8_sheet 22 = .ok (.iconst (-1), 1) := by decide +kernel
theorem dX8_sheet_23 : decode cX8_sheet 23 = .ok (.ireturn, 1) := by decide +kernel
theorem dX8_sheet_24 : decode cX8_sheet 24 = .ok (.iload_n 3, 1) := by decide +kernel
theorem dX8_sheet_25 : decode cX8_sheet 25 = .ok (.ifCond .ge 6, 3) := by decide +kernel
theorem dX8_sheet_28 : decode cX8_sheet 28 = .ok (.bipush (-14), 2) := by decide +kernel
theorem dX8_sheet_30 : decode cX8_sheet 30 = .ok (.ireturn, 1) := by decide +kernel
theorem dX8_sheet_31 : decode cX8_sheet 31 = .ok (.aload_n 0, 1) := by decide +kernel
theorem dX8_sheet_32 : decode cX8_sheet 32 = .ok (.getfield 29, 3) := by decide +kernel
theorem dX8_sheet_35 : decode cX8_sheet 35 = .ok (.iload_n 1, 1) := by decide +kernel
theorem dX8_sheet_36 : decode cX8_sheet 36 = .ok (.iload_n 3, 1) := by decide +kernel
theorem dX8_sheet_37 : decode cX8_sheet 37 = .ok (.iastore, 1) := by decide +kernel
theorem dX8_sheet_38 : decode cX8_sheet 38 = .ok (.aload_n 0, 1) := by decide +kernel
theorem dX8_sheet_39 : decode cX8_sheet 39 = .ok (.getfield 32, 3) := by decide +kernel
theorem dX8_sheet_42 : decode cX8_sheet 42 = .ok (.iload_n 1, 1) := by decide +kernel
theorem dX8_sheet_43 : decode cX8_sheet 43 = .ok (.iload_n 2, 1) := by decide +kernel
theorem dX8_sheet_44 : decode cX8_sheet 44 = .ok (.iastore, 1) := by decide +kernel
theorem dX8_sheet_45 : decode cX8_sheet 45 = .ok (.iconst 0, 1) := by decide +kernel
theorem dX8_sheet_46 : decode cX8_sheet 46 = .ok (.istore 4, 2) := by decide +kernel
theorem dX8_sheet_48 : decode cX8_sheet 48 = .ok (.iload 4, 2) := by decide +kernel
theorem dX8_sheet_50 : decode cX8_sheet 50 = .ok (.bipush 24, 2) := by decide +kernel
theorem dX8_sheet_52 : decode cX8_sheet 52 = .ok (.if_icmp .ge 22, 3) := by decide +kernel
theorem dX8_sheet_55 : decode cX8_sheet 55 = .ok (.aload_n 0, 1) := by decide +kernel
theorem dX8_sheet_56 : decode cX8_sheet 56 = .ok (.getfield 22, 3) := by decide +kernel
theorem dX8_sheet_59 : decode cX8_sheet 59 = .ok (.bipush 24, 2) := by decide +kernel
theorem dX8_sheet_61 : decode cX8_sheet 61 = .ok (.iload_n 1, 1) := by decide +kernel
theorem dX8_sheet_62 : decode cX8_sheet 62 = .ok (.imul, 1) := by decide +kernel
theorem dX8_sheet_63 : decode cX8_sheet 63 = .ok (.iload 4, 2) := by decide +kernel
theorem dX8_sheet_65 : decode cX8_sheet 65 = .ok (.iadd, 1) := by decide +kernel
theorem dX8_sheet_66 : decode cX8_sheet 66 = .ok (.lconst 0, 1) := by decide +kernel
theorem dX8_sheet_67 : decode cX8_sheet 67 = .ok (.lastore, 1) := by decide +kernel
theorem dX8_sheet_68 : decode cX8_sheet 68 = .ok (.iinc 4 1, 3) := by decide +kernel
theorem dX8_sheet_71 : decode cX8_sheet 71 = .ok (.goto (-23), 3) := by decide +kernel
theorem dX8_sheet_74 : decode cX8_sheet 74 = .ok (.iload_n 3, 1) := by decide +kernel
theorem dX8_sheet_75 : decode cX8_sheet 75 = .ok (.ireturn, 1) := by decide +kernel
theorem dX8_drop_0 : decode cX8_drop 0 = .ok (.iload_n 1, 1) := by decide +kernel
theorem dX8_drop_1 : decode cX8_drop 1 = .ok (.invokestatic 159, 3) := by decide +kernel
theorem dX8_drop_4 : decode cX8_drop 4 = .ok (.ifCond .ne 5, 3) := by decide +kernel
theorem dX8_drop_7 : decode cX8_drop 7 = .ok (.iconst (-1), 1) := by decide +kernel
theorem dX8_drop_8 : decode cX8_drop 8 = .ok (.ireturn, 1) := by decide +kernel
theorem dX8_drop_9 : decode cX8_drop 9 = .ok (.aload_n 0, 1) := by decide +kernel
theorem dX8_drop_10 : decode cX8_drop 10 = .ok (.getfield 29, 3) := by decide +kernel
theorem dX8_drop_13 : decode cX8_drop 13 = .ok (.iload_n 1, 1) := by decide +kernel
theorem dX8_drop_14 : decode cX8_drop 14 = .ok (.iaload, 1) := by decide +kernel
theorem dX8_drop_15 : decode cX8_drop 15 = .ok (.ifCond .ge 6, 3) := by decide +kernel
theorem dX8_drop_18 : decode cX8_drop 18 = .ok (.bipush (-11), 2) := by decide +kernel
theorem dX8_drop_20 : decode cX8_drop 20 = .ok (.ireturn, 1) := by decide +kernel
theorem dX8_drop_21 : decode cX8_drop 21 = .ok (.aload_n 0, 1) := by decide +kernel
theorem dX8_drop_22 : decode cX8_drop 22 = .ok (.getfield 29, 3) := by decide +kernel
theorem dX8_drop_25 : decode cX8_drop 25 = .ok (.iload_n 1, 1) := by decide +kernel
theorem dX8_drop_26 : decode cX8_drop 26 = .ok (.iaload, 1) := by decide +kernel
theorem dX8_drop_27 : decode cX8_drop 27 = .ok (.istore_n 2, 1) := by decide +kernel
theorem dX8_drop_28 : decode cX8_drop 28 = .ok (.aload_n 0, 1) := by decide +kernel
theorem dX8_drop_29 : decode cX8_drop 29 = .ok (.getfield 29, 3) := by decide +kernel
theorem dX8_drop_32 : decode cX8_drop 32 = .ok (.iload_n 1, 1) := by decide +kernel
theorem dX8_drop_33 : decode cX8_drop 33 = .ok (.iconst (-1), 1) := by decide +kernel
theorem dX8_drop_34 : decode cX8_drop 34 = .ok (.iastore, 1) := by decide +kernel
theorem dX8_drop_35 : decode cX8_drop 35 = .ok (.iload_n 2, 1) := by decide +kernel
theorem dX8_drop_36 : decode cX8_drop 36 = .ok (.ireturn, 1) := by decide +kernel
theorem dX8_item_0 : decode cX8_item 0 = .ok (.iload_n 1, 1) := by decide +kernel
theorem dX8_item_1 : decode cX8_item 1 = .ok (.invokestatic 159, 3) := by decide +kernel
theorem dX8_item_4 : decode cX8_item 4 = .ok (.ifCond .eq 12, 3) := by decide +kernel
theorem dX8_item_7 : decode cX8_item 7 = .ok (.iload_n 2, 1) := by decide +kernel
theorem dX8_item_8 : decode cX8_item 8 = .ok (.iconst 0, 1) := by decide +kernel
theorem dX8_item_9 : decode cX8_item 9 = .ok (.iconst 3, 1) := by decide +kernel
theorem dX8_item_10 : decode cX8_item 10 = .ok (.invokestatic 44, 3) := by decide +kernel
theorem dX8_item_13 : decode cX8_item 13 = .ok (.ifCond .ne 5, 3) := by decide +kernel
theorem dX8_item_16 : decode cX8_item 16 = .ok (.iconst (-1), 1) := by decide +kernel
theorem dX8_item_17 : decode cX8_item 17 = .ok (.ireturn, 1) := by decide +kernel
theorem dX8_item_18 : decode cX8_item 18 = .ok (.aload_n 0, 1) := by decide +kernel
theorem dX8_item_19 : decode cX8_item 19 = .ok (.iload_n 1, 1) := by decide +kernel
theorem dX8_item_20 : decode cX8_item 20 = .ok (.iload_n 2, 1) := by decide +kernel
theorem dX8_item_21 : decode cX8_item 21 = .ok (.iload_n 3, 1) := by decide +kernel
theorem dX8_item_22 : decode cX8_item 22 = .ok (.iconst 1, 1) := by decide +kernel
theorem dX8_item_23 : decode cX8_item 23 = .ok (.invokevirtual 162, 3) := by decide +kernel
theorem dX8_item_26 : decode cX8_item 26 = .ok (.istore 6, 2) := by decide +kernel
theorem dX8_item_28 : decode cX8_item 28 = .ok (.iload 6, 2) := by decide +kernel
theorem dX8_item_30 : decode cX8_item 30 = .ok (.ifCond .eq 6, 3) := by decide +kernel
theorem dX8_item_33 : decode cX8_item 33 = .ok (.iload 6, 2) := by decide +kernel
theorem dX8_item_35 : decode cX8_item 35 = .ok (.ireturn, 1) := by decide +kernel
theorem dX8_item_36 : decode cX8_item 36 = .ok (.aload_n 0, 1) := by decide +kernel
theorem dX8_item_37 : decode cX8_item 37 = .ok (.getfield 22, 3) := by decide +kernel
theorem dX8_item_40 : decode cX8_item 40 = .ok (.bipush 24, 2) := by decide +kernel
theorem dX8_item_42 : decode cX8_item 42 = .ok (.iload_n 1, 1) := by decide +kernel
theorem dX8_item_43 : decode cX8_item 43 = .ok (.imul, 1) := by decide +kernel
theorem dX8_item_44 : decode cX8_item 44 = .ok (.iload_n 3, 1) := by decide +kernel
theorem dX8_item_45 : decode cX8_item 45 = .ok (.iadd, 1) := by decide +kernel
theorem dX8_item_46 : decode cX8_item 46 = .ok (.iload_n 2, 1) := by decide +kernel
theorem dX8_item_47 : decode cX8_item 47 = .ok (.lload 4, 2) := by decide +kernel
theorem dX8_item_49 : decode cX8_item 49 = .ok (.invokestatic 169, 3) := by decide +kernel
theorem dX8_item_52 : decode cX8_item 52 = .ok (.lastore, 1) := by decide +kernel
theorem dX8_item_53 : decode cX8_item 53 = .ok (.iconst 1, 1) := by decide +kernel
theorem dX8_item_54 : decode cX8_item 54 = .ok (.ireturn, 1) := by decide +kernel
theorem dX8_copy_0 : decode cX8_copy 0 = .ok (.iload_n 1, 1) := by decide +kernel
theorem dX8_copy_1 : decode cX8_copy 1 = .ok (.invokestatic 159, 3) := by decide +kernel
theorem dX8_copy_4 : decode cX8_copy 4 = .ok (.ifCond .eq 10, 3) := by decide +kernel
theorem dX8_copy_7 : decode cX8_copy 7 = .ok (.iload_n 3, 1) := by decide +kernel
theorem dX8_copy_8 : decode cX8_copy 8 = .ok (.invokestatic 159, 3) := by decide +kernel
theorem dX8_copy_11 : decode cX8_copy 11 = .ok (.ifCond .ne 5, 3) := by decide +kernel
theorem dX8_copy_14 : decode cX8_copy 14 = .ok (.iconst (-1), 1) := by decide +kernel
theorem dX8_copy_15 : decode cX8_copy 15 = .ok (.ireturn, 1) := by decide +kernel
theorem dX8_copy_16 : decode cX8_copy 16 = .ok (.aload_n 0, 1) := by decide +kernel
theorem dX8_copy_17 : decode cX8_copy 17 = .ok (.getfield 29, 3) := by decide +kernel
theorem dX8_copy_20 : decode cX8_copy 20 = .ok (.iload_n 1, 1) := by decide +kernel
theorem dX8_copy_21 : decode cX8_copy 21 = .ok (.iaload, 1) := by decide +kernel
theorem dX8_copy_22 : decode cX8_copy 22 = .ok (.ifCond .lt 12, 3) := by decide +kernel
theorem dX8_copy_25 : decode cX8_copy 25 = .ok (.aload_n 0, 1) := by decide +kernel
theorem dX8_copy_26 : decode cX8_copy 26 = .ok (.getfield 29, 3) := by decide +kernel
theorem dX8_copy_29 : decode cX8_copy 29 = .ok (.iload_n 3, 1) := by decide +kernel
theorem dX8_copy_30 : decode cX8_copy 30 = .ok (.iaload, 1) := by decide +kernel
theorem dX8_copy_31 : decode cX8_copy 31 = .ok (.ifCond .ge 6, 3) := by decide +kernel
theorem dX8_copy_34 : decode cX8_copy 34 = .ok (.bipush (-11), 2) := by decide +kernel
theorem dX8_copy_36 : decode cX8_copy 36 = .ok (.ireturn, 1) := by decide +kernel
theorem dX8_copy_37 : decode cX8_copy 37 = .ok (.aload_n 0, 1) := by decide +kernel
theorem dX8_copy_38 : decode cX8_copy 38 = .ok (.iload_n 1, 1) := by decide +kernel
theorem dX8_copy_39 : decode cX8_copy 39 = .ok (.aload_n 0, 1) := by decide +kernel
theorem dX8_copy_40 : decode cX8_copy 40 = .ok (.getfield 32, 3) := by decide +kernel
theorem dX8_copy_43 : decode cX8_copy 43 = .ok (.iload_n 3, 1) := by decide +kernel
theorem dX8_copy_44 : decode cX8_copy 44 = .ok (.iaload, 1) := by decide +kernel
theorem dX8_copy_45 : decode cX8_copy 45 = .ok (.iload_n 2, 1) := by decide +kernel
theorem dX8_copy_46 : decode cX8_copy 46 = .ok (.iload 5, 2) := by decide +kernel
theorem dX8_copy_48 : decode cX8_copy 48 = .ok (.invokevirtual 162, 3) := by decide +kernel
theorem dX8_copy_51 : decode cX8_copy 51 = .ok (.istore 6, 2) := by decide +kernel
theorem dX8_copy_53 : decode cX8_copy 53 = .ok (.aload_n 0, 1) := by decide +kernel
theorem dX8_copy_54 : decode cX8_copy 54 = .ok (.iload_n 3, 1) := by decide +kernel
theorem dX8_copy_55 : decode cX8_copy 55 = .ok (.aload_n 0, 1) := by decide +kernel
theorem dX8_copy_56 : decode cX8_copy 56 = .ok (.getfield 32, 3) := by decide +kernel
theorem dX8_copy_59 : decode cX8_copy 59 = .ok (.iload_n 3, 1) := by decide +kernel
theorem dX8_copy_60 : decode cX8_copy 60 = .ok (.iaload, 1) := by decide +kernel
theorem dX8_copy_61 : decode cX8_copy 61 = .ok (.iload 4, 2) := by decide +kernel
theorem dX8_copy_63 : decode cX8_copy 63 = .ok (.iload 5, 2) := by decide +kernel
theorem dX8_copy_65 : decode cX8_copy 65 = .ok (.invokevirtual 162, 3) := by decide +kernel
theorem dX8_copy_68 : decode cX8_copy 68 = .ok (.istore 7, 2) := by decide +kernel
theorem dX8_copy_70 : decode cX8_copy 70 = .ok (.iload 6, 2) := by decide +kernel
theorem dX8_copy_72 : decode cX8_copy 72 = .ok (.ifCond .ne 8, 3) := by decide +kernel
theorem dX8_copy_75 : decode cX8_copy 75 = .ok (.iload 7, 2) := by decide +kernel
theorem dX8_copy_77 : decode cX8_copy 77 = .ok (.ifCond .eq 16, 3) := by decide +kernel
theorem dX8_copy_80 : decode cX8_copy 80 = .ok (.iload 6, 2) := by decide +kernel
theorem dX8_copy_82 : decode cX8_copy 82 = .ok (.ifCond .eq 8, 3) := by decide +kernel
theorem dX8_copy_85 : decode cX8_copy 85 = .ok (.iload 6, 2) := by decide +kernel
theorem dX8_copy_87 : decode cX8_copy 87 = .ok (.goto 5, 3) := by decide +kernel
theorem dX8_copy_90 : decode cX8_copy 90 = .ok (.iload 7, 2) := by decide +kernel
theorem dX8_copy_92 : decode cX8_copy 92 = .ok (.ireturn, 1) := by decide +kernel
theorem dX8_copy_93 : decode cX8_copy 93 = .ok (.iconst 0, 1) := by decide +kernel
theorem dX8_copy_94 : decode cX8_copy 94 = .ok (.istore 8, 2) := by decide +kernel
theorem dX8_copy_96 : decode cX8_copy 96 = .ok (.iload 8, 2) := by decide +kernel
theorem dX8_copy_98 : decode cX8_copy 98 = .ok (.iload 5, 2) := by decide +kernel
theorem dX8_copy_100 : decode cX8_copy 100 = .ok (.if_icmp .ge 30, 3) := by decide +kernel
theorem dX8_copy_103 : decode cX8_copy 103 = .ok (.aload_n 0, 1) := by decide +kernel
theorem dX8_copy_104 : decode cX8_copy 104 = .ok (.getfield 26, 3) := by decide +kernel
theorem dX8_copy_107 : decode cX8_copy 107 = .ok (.iload 8, 2) := by decide +kernel
theorem dX8_copy_109 : decode cX8_copy 109 = .ok (.aload_n 0, 1) := by decide +kernel
theorem dX8_copy_110 : decode cX8_copy 110 = .ok (.getfield 22, 3) := by decide +kernel
theorem dX8_copy_113 : decode cX8_copy 113 = .ok (.bipush 24, 2) := by decide +kernel
theorem dX8_copy_115 : decode cX8_copy 115 = .ok (.iload_n 1, 1) := by decide +kernel
theorem dX8_copy_116 : decode cX8_copy 116 = .ok (.imul, 1) := by decide +kernel
theorem dX8_copy_117 : decode cX8_copy 117 = .ok (.iload_n 2, 1) := by decide +kernel
theorem dX8_copy_118 : decode cX8_copy 118 = .ok (.iadd, 1) := by decide +kernel
theorem dX8_copy_119 : decode cX8_copy 119 = .ok (.iload 8, 2) := by decide +kernel
theorem dX8_copy_121 : decode cX8_copy 121 = .ok (.iadd, 1) := by decide +kernel
theorem dX8_copy_122 : decode cX8_copy 122 = .ok (.laload, 1) := by decide +kernel
theorem dX8_copy_123 : decode cX8_copy 123 = .ok (.lastore, 1) := by decide +kernel
theorem dX8_copy_124 : decode cX8_copy 124 = .ok (.iinc 8 1, 3) := by decide +kernel
theorem dX8_copy_127 : decode cX8_copy 127 = .ok (.goto (-31), 3) := by decide +kernel
theorem dX8_copy_130 : decode cX8_copy 130 = .ok (.iconst 0, 1) := by decide +kernel
theorem dX8_copy_131 : decode cX8_copy 131 = .ok (.istore 8, 2) := by decide +kernel
theorem dX8_copy_133 : decode cX8_copy 133 = .ok (.iload 8, 2) := by decide +kernel
theorem dX8_copy_135 : decode cX8_copy 135 = .ok (.iload 5, 2) := by decide +kernel
theorem dX8_copy_137 : decode cX8_copy 137 = .ok (.if_icmp .ge 31, 3) := by decide +kernel
theorem dX8_copy_140 : decode cX8_copy 140 = .ok (.aload_n 0, 1) := by decide +kernel
theorem dX8_copy_141 : decode cX8_copy 141 = .ok (.getfield 22, 3) := by decide +kernel
theorem dX8_copy_144 : decode cX8_copy 144 = .ok (.bipush 24, 2) := by decide +kernel
theorem dX8_copy_146 : decode cX8_copy 146 = .ok (.iload_n 3, 1) := by decide +kernel
theorem dX8_copy_147 : decode cX8_copy 147 = .ok (.imul, 1) := by decide +kernel
theorem dX8_copy_148 : decode cX8_copy 148 = .ok (.iload 4, 2) := by decide +kernel
theorem dX8_copy_150 : decode cX8_copy 150 = .ok (.iadd, 1) := by decide +kernel
theorem dX8_copy_151 : decode cX8_copy 151 = .ok (.iload 8, 2) := by decide +kernel
theorem dX8_copy_153 : decode cX8_copy 153 = .ok (.iadd, 1) := by decide +kernel
theorem dX8_copy_154 : decode cX8_copy 154 = .ok (.aload_n 0, 1) := by decide +kernel
theorem dX8_copy_155 : decode cX8_copy 155 = .ok (.getfield 26, 3) := by decide +kernel
theorem dX8_copy_158 : decode cX8_copy 158 = .ok (.iload 8, 2) := by decide +kernel
theorem dX8_copy_160 : decode cX8_copy 160 = .ok (.laload, 1) := by decide +kernel
theorem dX8_copy_161 : decode cX8_copy 161 = .ok (.lastore, 1) := by decide +kernel
theorem dX8_copy_162 : decode cX8_copy 162 = .ok (.iinc 8 1, 3) := by decide +kernel
theorem dX8_copy_165 : decode cX8_copy 165 = .ok (.goto (-32), 3) := by decide +kernel
theorem dX8_copy_168 : decode cX8_copy 168 = .ok (.iload 5, 2) := by decide +kernel
theorem dX8_copy_170 : decode cX8_copy 170 = .ok (.ireturn, 1) := by decide +kernel
