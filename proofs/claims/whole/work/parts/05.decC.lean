theorem dX8_init_0 : decode cX8_init 0 = .ok (.aload_n 0, 1) := by decide +kernel
theorem dX8_init_1 : decode cX8_init 1 = .ok (.invokespecial 1, 3) := by decide +kernel
theorem dX8_init_4 : decode cX8_init 4 = .ok (.aload_n 0, 1) := by decide +kernel
theorem dX8_init_5 : decode cX8_init 5 = .ok (.sipush 161, 3) := by decide +kernel
theorem dX8_init_8 : decode cX8_init 8 = .ok (.newarray .int, 2) := by decide +kernel
theorem dX8_init_10 : decode cX8_init 10 = .ok (.putfield 7, 3) := by decide +kernel
theorem dX8_init_13 : decode cX8_init 13 = .ok (.aload_n 0, 1) := by decide +kernel
theorem dX8_init_14 : decode cX8_init 14 = .ok (.sipush 161, 3) := by decide +kernel
theorem dX8_init_17 : decode cX8_init 17 = .ok (.newarray .int, 2) := by decide +kernel
theorem dX8_init_19 : decode cX8_init 19 = .ok (.putfield 13, 3) := by decide +kernel
theorem dX8_init_22 : decode cX8_init 22 = .ok (.aload_n 0, 1) := by decide +kernel
theorem dX8_init_23 : decode cX8_init 23 = .ok (.bipush 70, 2) := by decide +kernel
theorem dX8_init_25 : decode cX8_init 25 = .ok (.newarray .int, 2) := by decide +kernel
theorem dX8_init_27 : decode cX8_init 27 = .ok (.putfield 16, 3) := by decide +kernel
theorem dX8_init_30 : decode cX8_init 30 = .ok (.aload_n 0, 1) := by decide +kernel
theorem dX8_init_31 : decode cX8_init 31 = .ok (.bipush 40, 2) := by decide +kernel
theorem dX8_init_33 : decode cX8_init 33 = .ok (.newarray .int, 2) := by decide +kernel
theorem dX8_init_35 : decode cX8_init 35 = .ok (.putfield 19, 3) := by decide +kernel
theorem dX8_init_38 : decode cX8_init 38 = .ok (.aload_n 0, 1) := by decide +kernel
theorem dX8_init_39 : decode cX8_init 39 = .ok (.bipush 96, 2) := by decide +kernel
theorem dX8_init_41 : decode cX8_init 41 = .ok (.newarray .long, 2) := by decide +kernel
theorem dX8_init_43 : decode cX8_init 43 = .ok (.putfield 22, 3) := by decide +kernel
theorem dX8_init_46 : decode cX8_init 46 = .ok (.aload_n 0, 1) := by decide +kernel
theorem dX8_init_47 : decode cX8_init 47 = .ok (.bipush 24, 2) := by decide +kernel
theorem dX8_init_49 : decode cX8_init 49 = .ok (.newarray .long, 2) := by decide +kernel
theorem dX8_init_51 : decode cX8_init 51 = .ok (.putfield 26, 3) := by decide +kernel
theorem dX8_init_54 : decode cX8_init 54 = .ok (.aload_n 0, 1) := by decide +kernel
theorem dX8_init_55 : decode cX8_init 55 = .ok (.iconst 4, 1) := by decide +kernel
theorem dX8_init_56 : decode cX8_init 56 = .ok (.newarray .int, 2) := by decide +kernel
theorem dX8_init_58 : decode cX8_init 58 = .ok (.putfield 29, 3) := by decide +kernel
theorem dX8_init_61 : decode cX8_init 61 = .ok (.aload_n 0, 1) := by decide +kernel
theorem dX8_init_62 : decode cX8_init 62 = .ok (.iconst 4, 1) := by decide +kernel
theorem dX8_init_63 : decode cX8_init 63 = .ok (.newarray .int, 2) := by decide +kernel
theorem dX8_init_65 : decode cX8_init 65 = .ok (.putfield 32, 3) := by decide +kernel
theorem dX8_init_68 : decode cX8_init 68 = .ok (.aload_n 0, 1) := by decide +kernel
theorem dX8_init_69 : decode cX8_init 69 = .ok (.bipush 6, 2) := by decide +kernel
theorem dX8_init_71 : decode cX8_init 71 = .ok (.newarray .int, 2) := by decide +kernel
theorem dX8_init_73 : decode cX8_init 73 = .ok (.putfield 35, 3) := by decide +kernel
theorem dX8_init_76 : decode cX8_init 76 = .ok (.aload_n 0, 1) := by decide +kernel
theorem dX8_init_77 : decode cX8_init 77 = .ok (.bipush 40, 2) := by decide +kernel
theorem dX8_init_79 : decode cX8_init 79 = .ok (.newarray .int, 2) := by decide +kernel
theorem dX8_init_81 : decode cX8_init 81 = .ok (.putfield 38, 3) := by decide +kernel
theorem dX8_init_84 : decode cX8_init 84 = .ok (.aload_n 0, 1) := by decide +kernel
theorem dX8_init_85 : decode cX8_init 85 = .ok (.bipush 40, 2) := by decide +kernel
theorem dX8_init_87 : decode cX8_init 87 = .ok (.newarray .int, 2) := by decide +kernel
theorem dX8_init_89 : decode cX8_init 89 = .ok (.putfield 41, 3) := by decide +kernel
theorem dX8_init_92 : decode cX8_init 92 = .ok (.aload_n 0, 1) := by decide +kernel
theorem dX8_init_93 : decode cX8_init 93 = .ok (.getfield 7, 3) := by decide +kernel
theorem dX8_init_96 : decode cX8_init 96 = .ok (.iconst 3, 1) := by decide +kernel
theorem dX8_init_97 : decode cX8_init 97 = .ok (.iconst 1, 1) := by decide +kernel
theorem dX8_init_98 : decode cX8_init 98 = .ok (.iastore, 1) := by decide +kernel
theorem dX8_init_99 : decode cX8_init 99 = .ok (.iconst 0, 1) := by decide +kernel
theorem dX8_init_100 : decode cX8_init 100 = .ok (.istore_n 1, 1) := by decide +kernel
theorem dX8_init_101 : decode cX8_init 101 = .ok (.iload_n 1, 1) := by decide +kernel
theorem dX8_init_102 : decode cX8_init 102 = .ok (.iconst 4, 1) := by decide +kernel
theorem dX8_init_103 : decode cX8_init 103 = .ok (.if_icmp .ge 16, 3) := by decide +kernel
theorem dX8_init_106 : decode cX8_init 106 = .ok (.aload_n 0, 1) := by decide +kernel
theorem dX8_init_107 : decode cX8_init 107 = .ok (.getfield 29, 3) := by decide +kernel
theorem dX8_init_110 : decode cX8_init 110 = .ok (.iload_n 1, 1) := by decide +kernel
theorem dX8_init_111 : decode cX8_init 111 = .ok (.iconst (-1), 1) := by decide +kernel
theorem dX8_init_112 : decode cX8_init 112 = .ok (.iastore, 1) := by decide +kernel
theorem dX8_init_113 : decode cX8_init 113 = .ok (.iinc 1 1, 3) := by decide +kernel
theorem dX8_init_116 : decode cX8_init 116 = .ok (.goto (-15), 3) := by decide +kernel
theorem dX8_init_119 : decode cX8_init 119 = .ok (.return_, 1) := by decide +kernel
theorem dX8_in_0 : decode cX8_in 0 = .ok (.iload_n 0, 1) := by decide +kernel
theorem dX8_in_1 : decode cX8_in 1 = .ok (.iload_n 1, 1) := by decide +kernel
theorem dX8_in_2 : decode cX8_in 2 = .ok (.if_icmp .lt 12, 3) := by decide +kernel
theorem dX8_in_5 : decode cX8_in 5 = .ok (.iload_n 0, 1) := by decide +kernel
theorem dX8_in_6 : decode cX8_in 6 = .ok (.iload_n 2, 1) := by decide +kernel
theorem dX8_in_7 : decode cX8_in 7 = .ok (.if_icmp .gt 7, 3) := by decide +kernel
theorem dX8_in_10 : decode cX8_in 10 = .ok (.iconst 1, 1) := by decide +kernel
theorem dX8_in_11 : decode cX8_in 11 = .ok (.goto 4, 3) := by decide +kernel
theorem dX8_in_14 : decode cX8_in 14 = .ok (.iconst 0, 1) := by decide +kernel
theorem dX8_in_15 : decode cX8_in 15 = .ok (.ireturn, 1) := by decide +kernel
theorem dX8_has_0 : decode cX8_has 0 = .ok (.iload_n 0, 1) := by decide +kernel
theorem dX8_has_1 : decode cX8_has 1 = .ok (.iload_n 1, 1) := by decide +kernel
theorem dX8_has_2 : decode cX8_has 2 = .ok (.ishr, 1) := by decide +kernel
theorem dX8_has_3 : decode cX8_has 3 = .ok (.iconst 1, 1) := by decide +kernel
theorem dX8_has_4 : decode cX8_has 4 = .ok (.iand, 1) := by decide +kernel
theorem dX8_has_5 : decode cX8_has 5 = .ok (.iconst 1, 1) := by decide +kernel
theorem dX8_has_6 : decode cX8_has 6 = .ok (.if_icmp .ne 7, 3) := by decide +kernel
theorem dX8_has_9 : decode cX8_has 9 = .ok (.iconst 1, 1) := by decide +kernel
theorem dX8_has_10 : decode cX8_has 10 = .ok (.goto 4, 3) := by decide +kernel
theorem dX8_has_13 : decode cX8_has 13 = .ok (.iconst 0, 1) := by decide +kernel
theorem dX8_has_14 : decode cX8_has 14 = .ok (.ireturn, 1) := by decide +kernel
theorem dX8_isMan_0 : decode cX8_isMan 0 = .ok (.iload_n 1, 1) := by decide +kernel
theorem dX8_isMan_1 : decode cX8_isMan 1 = .ok (.iconst 0, 1) := by decide +kernel
theorem dX8_isMan_2 : decode cX8_isMan 2 = .ok (.aload_n 0, 1) := by decide +kernel
theorem dX8_isMan_3 : decode cX8_isMan 3 = .ok (.getfield 7, 3) := by decide +kernel
theorem dX8_isMan_6 : decode cX8_isMan 6 = .ok (.iconst 0, 1) := by decide +kernel
theorem dX8_isMan_7 : decode cX8_isMan 7 = .ok (.iaload, 1) := by decide +kernel
theorem dX8_isMan_8 : decode cX8_isMan 8 = .ok (.iconst 1, 1) := by decide +kernel
theorem dX8_isMan_9 : decode cX8_isMan 9 = .ok (.isub, 1) := by decide +kernel
theorem dX8_isMan_10 : decode cX8_isMan 10 = .ok (.invokestatic 44, 3) := by decide +kernel
theorem dX8_isMan_13 : decode cX8_isMan 13 = .ok (.ireturn, 1) := by decide +kernel
theorem dX8_seatOf_0 : decode cX8_seatOf 0 = .ok (.bipush (-4), 2) := by decide +kernel
theorem dX8_seatOf_2 : decode cX8_seatOf 2 = .ok (.istore_n 2, 1) := by decide +kernel
theorem dX8_seatOf_3 : decode cX8_seatOf 3 = .ok (.iconst 0, 1) := by decide +kernel
theorem dX8_seatOf_4 : decode cX8_seatOf 4 = .ok (.istore_n 3, 1) := by decide +kernel
theorem dX8_seatOf_5 : decode cX8_seatOf 5 = .ok (.iload_n 3, 1) := by decide +kernel
theorem dX8_seatOf_6 : decode cX8_seatOf 6 = .ok (.aload_n 0, 1) := by decide +kernel
theorem dX8_seatOf_7 : decode cX8_seatOf 7 = .ok (.getfield 7, 3) := by decide +kernel
theorem dX8_seatOf_10 : decode cX8_seatOf 10 = .ok (.iconst 1, 1) := by decide +kernel
theorem dX8_seatOf_11 : decode cX8_seatOf 11 = .ok (.iaload, 1) := by decide +kernel
theorem dX8_seatOf_12 : decode cX8_seatOf 12 = .ok (.if_icmp .ge 28, 3) := by decide +kernel
theorem dX8_seatOf_15 : decode cX8_seatOf 15 = .ok (.aload_n 0, 1) := by decide +kernel
theorem dX8_seatOf_16 : decode cX8_seatOf 16 = .ok (.getfield 7, 3) := by decide +kernel
theorem dX8_seatOf_19 : decode cX8_seatOf 19 = .ok (.bipush 10, 2) := by decide +kernel
theorem dX8_seatOf_21 : decode cX8_seatOf 21 = .ok (.iload_n 3, 1) := by decide +kernel
theorem dX8_seatOf_22 : decode cX8_seatOf 22 = .ok (.iadd, 1) := by decide +kernel
theorem dX8_seatOf_23 : decode cX8_seatOf 23 = .ok (.iaload, 1) := by decide +kernel
theorem dX8_seatOf_24 : decode cX8_seatOf 24 = .ok (.iload_n 1, 1) := by decide +kernel
theorem dX8_seatOf_25 : decode cX8_seatOf 25 = .ok (.if_icmp .ne 7, 3) := by decide +kernel
theorem dX8_seatOf_28 : decode cX8_seatOf 28 = .ok (.iload_n 3, 1) := by decide +kernel
theorem dX8_seatOf_29 : decode cX8_seatOf 29 = .ok (.goto 4, 3) := by decide +kernel
theorem dX8_seatOf_32 : decode cX8_seatOf 32 = .ok (.iload_n 2, 1) := by decide +kernel
theorem dX8_seatOf_33 : decode cX8_seatOf 33 = .ok (.istore_n 2, 1) := by decide +kernel
theorem dX8_seatOf_34 : decode cX8_seatOf 34 = .ok (.iinc 3 1, 3) := by decide +kernel
theorem dX8_seatOf_37 : decode cX8_seatOf 37 = .ok (.goto (-32), 3) := by decide +kernel
theorem dX8_seatOf_40 : decode cX8_seatOf 40 = .ok (.iload_n 2, 1) := by decide +kernel
theorem dX8_seatOf_41 : decode cX8_seatOf 41 = .ok (.ireturn, 1) := by decide +kernel
theorem dX8_onSeat_0 : decode cX8_onSeat 0 = .ok (.iload_n 1, 1) := by decide +kernel
theorem dX8_onSeat_1 : decode cX8_onSeat 1 = .ok (.iconst 0, 1) := by decide +kernel
theorem dX8_onSeat_2 : decode cX8_onSeat 2 = .ok (.aload_n 0, 1) := by decide +kernel
theorem dX8_onSeat_3 : decode cX8_onSeat 3 = .ok (.getfield 7, 3) := by decide +kernel
theorem dX8_onSeat_6 : decode cX8_onSeat 6 = .ok (.iconst 1, 1) := by decide +kernel
theorem dX8_onSeat_7 : decode cX8_onSeat 7 = .ok (.iaload, 1) := by decide +kernel
theorem dX8_onSeat_8 : decode cX8_onSeat 8 = .ok (.iconst 1, 1) := by decide +kernel
theorem dX8_onSeat_9 : decode cX8_onSeat 9 = .ok (.isub, 1) := by decide +kernel
theorem dX8_onSeat_10 : decode cX8_onSeat 10 = .ok (.invokestatic 44, 3) := by decide +kernel
theorem dX8_onSeat_13 : decode cX8_onSeat 13 = .ok (.ifCond .eq 15, 3) := by decide +kernel
theorem dX8_onSeat_16 : decode cX8_onSeat 16 = .ok (.aload_n 0, 1) := by decide +kernel
theorem dX8_onSeat_17 : decode cX8_onSeat 17 = .ok (.getfield 7, 3) := by decide +kernel
theorem dX8_onSeat_20 : decode cX8_onSeat 20 = .ok (.bipush 10, 2) := by decide +kernel
theorem dX8_onSeat_22 : decode cX8_onSeat 22 = .ok (.iload_n 1, 1) := by decide +kernel
theorem dX8_onSeat_23 : decode cX8_onSeat 23 = .ok (.iadd, 1) := by decide +kernel
theorem dX8_onSeat_24 : decode cX8_onSeat 24 = .ok (.iaload, 1) := by decide +kernel
theorem dX8_onSeat_25 : decode cX8_onSeat 25 = .ok (.goto 5, 3) := by decide +kernel
theorem dX8_onSeat_28 : decode cX8_onSeat 28 = .ok (.bipush (-4), 2) := by decide +kernel
theorem dX8_onSeat_30 : decode cX8_onSeat 30 = .ok (.ireturn, 1) := by decide +kernel
theorem dX8_bench_0 : decode cX8_bench 0 = .ok (.iconst 0, 1) := by decide +kernel
theorem dX8_bench_1 : decode cX8_bench 1 = .ok (.istore_n 1, 1) := by decide +kernel
theorem dX8_bench_2 : decode cX8_bench 2 = .ok (.iconst 0, 1) := by decide +kernel
theorem dX8_bench_3 : decode cX8_bench 3 = .ok (.istore_n 2, 1) := by decide +kernel
theorem dX8_bench_4 : decode cX8_bench 4 = .ok (.iload_n 2, 1) := by decide +kernel
theorem dX8_bench_5 : decode cX8_bench 5 = .ok (.aload_n 0, 1) := by decide +kernel
theorem dX8_bench_6 : decode cX8_bench 6 = .ok (.getfield 7, 3) := by decide +kernel
theorem dX8_bench_9 : decode cX8_bench 9 = .ok (.iconst 1, 1) := by decide +kernel
theorem dX8_bench_10 : decode cX8_bench 10 = .ok (.iaload, 1) := by decide +kernel
theorem dX8_bench_11 : decode cX8_bench 11 = .ok (.if_icmp .ge 23, 3) := by decide +kernel
theorem dX8_bench_14 : decode cX8_bench 14 = .ok (.iload_n 1, 1) := by decide +kernel
theorem dX8_bench_15 : decode cX8_bench 15 = .ok (.iconst 1, 1) := by decide +kernel
theorem dX8_bench_16 : decode cX8_bench 16 = .ok (.aload_n 0, 1) := by decide +kernel
theorem dX8_bench_17 : decode cX8_bench 17 = .ok (.getfield 7, 3) := by decide +kernel
theorem dX8_bench_20 : decode cX8_bench 20 = .ok (.bipush 10, 2) := by decide +kernel
theorem dX8_bench_22 : decode cX8_bench 22 = .ok (.iload_n 2, 1) := by decide +kernel
theorem dX8_bench_23 : decode cX8_bench 23 = .ok (.iadd, 1) := by decide +kernel
theorem dX8_bench_24 : decode cX8_bench 24 = .ok (.iaload, 1) := by decide +kernel
theorem dX8_bench_25 : decode cX8_bench 25 = .ok (.ishl, 1) := by decide +kernel
theorem dX8_bench_26 : decode cX8_bench 26 = .ok (.ior, 1) := by decide +kernel
theorem dX8_bench_27 : decode cX8_bench 27 = .ok (.istore_n 1, 1) := by decide +kernel
theorem dX8_bench_28 : decode cX8_bench 28 = .ok (.iinc 2 1, 3) := by decide +kernel
theorem dX8_bench_31 : decode cX8_bench 31 = .ok (.goto (-27), 3) := by decide +kernel
theorem dX8_bench_34 : decode cX8_bench 34 = .ok (.iload_n 1, 1) := by decide +kernel
theorem dX8_bench_35 : decode cX8_bench 35 = .ok (.ireturn, 1) := by decide +kernel
theorem dX8_isTaken_0 : decode cX8_isTaken 0 = .ok (.iconst 0, 1) := by decide +kernel
theorem dX8_isTaken_1 : decode cX8_isTaken 1 = .ok (.istore_n 3, 1) := by decide +kernel
theorem dX8_isTaken_2 : decode cX8_isTaken 2 = .ok (.iconst 0, 1) := by decide +kernel
theorem dX8_isTaken_3 : decode cX8_isTaken 3 = .ok (.istore 4, 2) := by decide +kernel
theorem dX8_isTaken_5 : decode cX8_isTaken 5 = .ok (.iload 4, 2) := by decide +kernel
theorem dX8_isTaken_7 : decode cX8_isTaken 7 = .ok (.aload_n 0, 1) := by decide +kernel
theorem dX8_isTaken_8 : decode cX8_isTaken 8 = .ok (.getfield 7, 3) := by decide +kernel
theorem dX8_isTaken_11 : decode cX8_isTaken 11 = .ok (.iconst 0, 1) := by decide +kernel
theorem dX8_isTaken_12 : decode cX8_isTaken 12 = .ok (.iaload, 1) := by decide +kernel
theorem dX8_isTaken_13 : decode cX8_isTaken 13 = .ok (.if_icmp .ge 37, 3) := by decide +kernel
theorem dX8_isTaken_16 : decode cX8_isTaken 16 = .ok (.iload_n 3, 1) := by decide +kernel
theorem dX8_isTaken_17 : decode cX8_isTaken 17 = .ok (.ifCond .ne 21, 3) := by decide +kernel
theorem dX8_isTaken_20 : decode cX8_isTaken 20 = .ok (.aload_n 0, 1) := by decide +kernel
theorem dX8_isTaken_21 : decode cX8_isTaken 21 = .ok (.getfield 7, 3) := by decide +kernel
theorem dX8_isTaken_24 : decode cX8_isTaken 24 = .ok (.bipush 22, 2) := by decide +kernel
theorem dX8_isTaken_26 : decode cX8_isTaken 26 = .ok (.iconst 3, 1) := by decide +kernel
theorem dX8_isTaken_27 : decode cX8_isTaken 27 = .ok (.iload 4, 2) := by decide +kernel
theorem dX8_isTaken_29 : decode cX8_isTaken 29 = .ok (.imul, 1) := by decide +kernel
theorem dX8_isTaken_30 : decode cX8_isTaken 30 = .ok (.iadd, 1) := by decide +kernel
theorem dX8_isTaken_31 : decode cX8_isTaken 31 = .ok (.iload_n 1, 1) := by decide +kernel
theorem dX8_isTaken_32 : decode cX8_isTaken 32 = .ok (.iadd, 1) := by decide +kernel
theorem dX8_isTaken_33 : decode cX8_isTaken 33 = .ok (.iaload, 1) := by decide +kernel
theorem dX8_isTaken_34 : decode cX8_isTaken 34 = .ok (.iload_n 2, 1) := by decide +kernel
theorem dX8_isTaken_35 : decode cX8_isTaken 35 = .ok (.if_icmp .ne 7, 3) := by decide +kernel
theorem dX8_isTaken_38 : decode cX8_isTaken 38 = .ok (.iconst 1, 1) := by decide +kernel
theorem dX8_isTaken_39 : decode cX8_isTaken 39 = .ok (.goto 4, 3) := by decide +kernel
theorem dX8_isTaken_42 : decode cX8_isTaken 42 = .ok (.iconst 0, 1) := by decide +kernel
theorem dX8_isTaken_43 : decode cX8_isTaken 43 = .ok (.istore_n 3, 1) := by decide +kernel
theorem dX8_isTaken_44 : decode cX8_isTaken 44 = .ok (.iinc 4 1, 3) := by decide +kernel
theorem dX8_isTaken_47 : decode cX8_isTaken 47 = .ok (.goto (-42), 3) := by decide +kernel
theorem dX8_isTaken_50 : decode cX8_isTaken 50 = .ok (.iload_n 3, 1) := by decide +kernel
theorem dX8_isTaken_51 : decode cX8_isTaken 51 = .ok (.ireturn, 1) := by decide +kernel
theorem dX8_man_0 : decode cX8_man 0 = .ok (.iload_n 1, 1) := by decide +kernel
theorem dX8_man_1 : decode cX8_man 1 = .ok (.iconst 0, 1) := by decide +kernel
theorem dX8_man_2 : decode cX8_man 2 = .ok (.iconst 4, 1) := by decide +kernel
theorem dX8_man_3 : decode cX8_man 3 = .ok (.invokestatic 44, 3) := by decide +kernel
theorem dX8_man_6 : decode cX8_man 6 = .ok (.ifCond .eq 13, 3) := by decide +kernel
theorem dX8_man_9 : decode cX8_man 9 = .ok (.iload_n 2, 1) := by decide +kernel
theorem dX8_man_10 : decode cX8_man 10 = .ok (.iconst 1, 1) := by decide +kernel
theorem dX8_man_11 : decode cX8_man 11 = .ok (.bipush 60, 2) := by decide +kernel
theorem dX8_man_13 : decode cX8_man 13 = .ok (.invokestatic 44, 3) := by decide +kernel
theorem dX8_man_16 : decode cX8_man 16 = .ok (.ifCond .ne 5, 3) := by decide +kernel
theorem dX8_man_19 : decode cX8_man 19 = .ok (.iconst (-1), 1) := by decide +kernel
theorem dX8_man_20 : decode cX8_man 20 = .ok (.ireturn, 1) := by decide +kernel
theorem dX8_man_21 : decode cX8_man 21 = .ok (.aload_n 0, 1) := by decide +kernel
theorem dX8_man_22 : decode cX8_man 22 = .ok (.getfield 7, 3) := by decide +kernel
theorem dX8_man_25 : decode cX8_man 25 = .ok (.iconst 0, 1) := by decide +kernel
theorem dX8_man_26 : decode cX8_man 26 = .ok (.iaload, 1) := by decide +kernel
theorem dX8_man_27 : decode cX8_man 27 = .ok (.istore_n 3, 1) := by decide +kernel
theorem dX8_man_28 : decode cX8_man 28 = .ok (.iload_n 3, 1) := by decide +kernel
theorem dX8_man_29 : decode cX8_man 29 = .ok (.bipush 6, 2) := by decide +kernel
theorem dX8_man_31 : decode cX8_man 31 = .ok (.if_icmp .ne 6, 3) := by decide +kernel
theorem dX8_man_34 : decode cX8_man 34 = .ok (.bipush (-3), 2) := by decide +kernel
theorem dX8_man_36 : decode cX8_man 36 = .ok (.ireturn, 1) := by decide +kernel
theorem dX8_man_37 : decode cX8_man 37 = .ok (.aload_n 0, 1) := by decide +kernel
theorem dX8_man_38 : decode cX8_man 38 = .ok (.iconst 0, 1) := by decide +kernel
theorem dX8_man_39 : decode cX8_man 39 = .ok (.iload_n 3, 1) := by decide +kernel
theorem dX8_man_40 : decode cX8_man 40 = .ok (.invokevirtual 48, 3) := by decide +kernel
theorem dX8_man_43 : decode cX8_man 43 = .ok (.ifCond .ne 21, 3) := by decide +kernel
theorem dX8_man_46 : decode cX8_man 46 = .ok (.aload_n 0, 1) := by decide +kernel
theorem dX8_man_47 : decode cX8_man 47 = .ok (.iconst 1, 1) := by decide +kernel
theorem dX8_man_48 : decode cX8_man 48 = .ok (.iload_n 3, 1) := by decide +kernel
theorem dX8_man_49 : decode cX8_man 49 = .ok (.invokevirtual 48, 3) := by decide +kernel
theorem dX8_man_52 : decode cX8_man 52 = .ok (.ifCond .ne 12, 3) := by decide +kernel
theorem dX8_man_55 : decode cX8_man 55 = .ok (.aload_n 0, 1) := by decide +kernel
theorem dX8_man_56 : decode cX8_man 56 = .ok (.iconst 2, 1) := by decide +kernel
theorem dX8_man_57 : decode cX8_man 57 = .ok (.iload_n 3, 1) := by decide +kernel
theorem dX8_man_58 : decode cX8_man 58 = .ok (.invokevirtual 48, 3) := by decide +kernel
theorem dX8_man_61 : decode cX8_man 61 = .ok (.ifCond .eq 6, 3) := by decide +kernel
theorem dX8_man_64 : decode cX8_man 64 = .ok (.bipush (-2), 2) := by decide +kernel
theorem dX8_man_66 : decode cX8_man 66 = .ok (.ireturn, 1) := by decide +kernel
theorem dX8_man_67 : decode cX8_man 67 = .ok (.aload_n 0, 1) := by decide +kernel
theorem dX8_man_68 : decode cX8_man 68 = .ok (.getfield 7, 3) := by decide +kernel
theorem dX8_man_71 : decode cX8_man 71 = .ok (.bipush 16, 2) := by decide +kernel
theorem dX8_man_73 : decode cX8_man 73 = .ok (.iload_n 3, 1) := by decide +kernel
theorem dX8_man_74 : decode cX8_man 74 = .ok (.iadd, 1) := by decide +kernel
theorem dX8_man_75 : decode cX8_man 75 = .ok (.iload_n 1, 1) := by decide +kernel
theorem dX8_man_76 : decode cX8_man 76 = .ok (.iastore, 1) := by decide +kernel
theorem dX8_man_77 : decode cX8_man 77 = .ok (.aload_n 0, 1) := by decide +kernel
theorem dX8_man_78 : decode cX8_man 78 = .ok (.getfield 7, 3) := by decide +kernel
theorem dX8_man_81 : decode cX8_man 81 = .ok (.iconst 4, 1) := by decide +kernel
theorem dX8_man_82 : decode cX8_man 82 = .ok (.iload_n 3, 1) := by decide +kernel
theorem dX8_man_83 : decode cX8_man 83 = .ok (.iadd, 1) := by decide +kernel
theorem dX8_man_84 : decode cX8_man 84 = .ok (.iload_n 2, 1) := by decide +kernel
theorem dX8_man_85 : decode cX8_man 85 = .ok (.iastore, 1) := by decide +kernel
theorem dX8_man_86 : decode cX8_man 86 = .ok (.iconst 0, 1) := by decide +kernel
theorem dX8_man_87 : decode cX8_man 87 = .ok (.istore 4, 2) := by decide +kernel
theorem dX8_man_89 : decode cX8_man 89 = .ok (.iload 4, 2) := by decide +kernel
theorem dX8_man_91 : decode cX8_man 91 = .ok (.iconst 3, 1) := by decide +kernel
theorem dX8_man_92 : decode cX8_man 92 = .ok (.if_icmp .ge 24, 3) := by decide +kernel
theorem dX8_man_95 : decode cX8_man 95 = .ok (.aload_n 0, 1) := by decide +kernel
theorem dX8_man_96 : decode cX8_man 96 = .ok (.getfield 7, 3) := by decide +kernel
theorem dX8_man_99 : decode cX8_man 99 = .ok (.bipush 22, 2) := by decide +kernel
theorem dX8_man_101 : decode cX8_man 101 = .ok (.iconst 3, 1) := by decide +kernel
theorem dX8_man_102 : decode cX8_man 102 = .ok (.iload_n 3, 1) := by decide +kernel
theorem dX8_man_103 : decode cX8_man 103 = .ok (.imul, 1) := by decide +kernel
theorem dX8_man_104 : decode cX8_man 104 = .ok (.iadd, 1) := by decide +kernel
theorem dX8_man_105 : decode cX8_man 105 = .ok (.iload 4, 2) := by decide +kernel
theorem dX8_man_107 : decode cX8_man 107 = .ok (.iadd, 1) := by decide +kernel
theorem dX8_man_108 : decode cX8_man 108 = .ok (.iload_n 3, 1) := by decide +kernel
theorem dX8_man_109 : decode cX8_man 109 = .ok (.iastore, 1) := by decide +kernel
theorem dX8_man_110 : decode cX8_man 110 = .ok (.iinc 4 1, 3) := by decide +kernel
theorem dX8_man_113 : decode cX8_man 113 = .ok (.goto (-24), 3) := by decide +kernel
theorem dX8_man_116 : decode cX8_man 116 = .ok (.aload_n 0, 1) := by decide +kernel
theorem dX8_man_117 : decode cX8_man 117 = .ok (.getfield 7, 3) := by decide +kernel
theorem dX8_man_120 : decode cX8_man 120 = .ok (.bipush 10, 2) := by decide +kernel
theorem dX8_man_122 : decode cX8_man 122 = .ok (.aload_n 0, 1) := by decide +kernel
theorem dX8_man_123 : decode cX8_man 123 = .ok (.getfield 7, 3) := by decide +kernel
theorem dX8_man_126 : decode cX8_man 126 = .ok (.iconst 1, 1) := by decide +kernel
theorem dX8_man_127 : decode cX8_man 127 = .ok (.iaload, 1) := by decide +kernel
theorem dX8_man_128 : decode cX8_man 128 = .ok (.iadd, 1) := by decide +kernel
theorem dX8_man_129 : decode cX8_man 129 = .ok (.iload_n 3, 1) := by decide +kernel
theorem dX8_man_130 : decode cX8_man 130 = .ok (.iastore, 1) := by decide +kernel
theorem dX8_man_131 : decode cX8_man 131 = .ok (.aload_n 0, 1) := by decide +kernel
theorem dX8_man_132 : decode cX8_man 132 = .ok (.getfield 7, 3) := by decide +kernel
theorem dX8_man_135 : decode cX8_man 135 = .ok (.iconst 1, 1) := by decide +kernel
theorem dX8_man_136 : decode cX8_man 136 = .ok (.dup2, 1) := by decide +kernel
theorem dX8_man_137 : decode cX8_man 137 = .ok (.iaload, 1) := by decide +kernel
theorem dX8_man_138 : decode cX8_man 138 = .ok (.iconst 1, 1) := by decide +kernel
theorem dX8_man_139 : decode cX8_man 139 = .ok (.iadd, 1) := by decide +kernel
theorem dX8_man_140 : decode cX8_man 140 = .ok (.iastore, 1) := by decide +kernel
theorem dX8_man_141 : decode cX8_man 141 = .ok (.aload_n 0, 1) := by decide +kernel
theorem dX8_man_142 : decode cX8_man 142 = .ok (.getfield 7, 3) := by decide +kernel
theorem dX8_man_145 : decode cX8_man 145 = .ok (.iconst 0, 1) := by decide +kernel
theorem dX8_man_146 : decode cX8_man 146 = .ok (.dup2, 1) := by decide +kernel
theorem dX8_man_147 : decode cX8_man 147 = .ok (.iaload, 1) := by decide +kernel
theorem dX8_man_148 : decode cX8_man 148 = .ok (.iconst 1, 1) := by decide +kernel
theorem dX8_man_149 : decode cX8_man 149 = .ok (.iadd, 1) := by decide +kernel
theorem dX8_man_150 : decode cX8_man 150 = .ok (.iastore, 1) := by decide +kernel
theorem dX8_man_151 : decode cX8_man 151 = .ok (.aload_n 0, 1) := by decide +kernel
theorem dX8_man_152 : decode cX8_man 152 = .ok (.getfield 7, 3) := by decide +kernel
theorem dX8_man_155 : decode cX8_man 155 = .ok (.bipush 40, 2) := by decide +kernel
theorem dX8_man_157 : decode cX8_man 157 = .ok (.iconst 0, 1) := by decide +kernel
theorem dX8_man_158 : decode cX8_man 158 = .ok (.iastore, 1) := by decide +kernel
theorem dX8_man_159 : decode cX8_man 159 = .ok (.iload_n 3, 1) := by decide +kernel
theorem dX8_man_160 : decode cX8_man 160 = .ok (.ireturn, 1) := by decide +kernel
theorem dX8_stood_0 : decode cX8_stood 0 = .ok (.aload_n 0, 1) := by decide +kernel
theorem dX8_stood_1 : decode cX8_stood 1 = .ok (.iload_n 1, 1) := by decide +kernel
theorem dX8_stood_2 : decode cX8_stood 2 = .ok (.invokevirtual 52, 3) := by decide +kernel
theorem dX8_stood_5 : decode cX8_stood 5 = .ok (.ifCond .eq 22, 3) := by decide +kernel
theorem dX8_stood_8 : decode cX8_stood 8 = .ok (.iload_n 2, 1) := by decide +kernel
theorem dX8_stood_9 : decode cX8_stood 9 = .ok (.iconst 0, 1) := by decide +kernel
theorem dX8_stood_10 : decode cX8_stood 10 = .ok (.iconst 2, 1) := by decide +kernel
theorem dX8_stood_11 : decode cX8_stood 11 = .ok (.invokestatic 44, 3) := by decide +kernel
theorem dX8_stood_14 : decode cX8_stood 14 = .ok (.ifCond .eq 13, 3) := by decide +kernel
theorem dX8_stood_17 : decode cX8_stood 17 = .ok (.iload_n 3, 1) := by decide +kernel
theorem dX8_stood_18 : decode cX8_stood 18 = .ok (.iconst 0, 1) := by decide +kernel
theorem dX8_stood_19 : decode cX8_stood 19 = .ok (.bipush 9, 2) := by decide +kernel
theorem dX8_stood_21 : decode cX8_stood 21 = .ok (.invokestatic 44, 3) := by decide +kernel
theorem dX8_stood_24 : decode cX8_stood 24 = .ok (.ifCond .ne 5, 3) := by decide +kernel
theorem dX8_stood_27 : decode cX8_stood 27 = .ok (.iconst (-1), 1) := by decide +kernel
theorem dX8_stood_28 : decode cX8_stood 28 = .ok (.ireturn, 1) := by decide +kernel
theorem dX8_stood_29 : decode cX8_stood 29 = .ok (.aload_n 0, 1) := by decide +kernel
theorem dX8_stood_30 : decode cX8_stood 30 = .ok (.iload_n 2, 1) := by decide +kernel
theorem dX8_stood_31 : decode cX8_stood 31 = .ok (.iload_n 3, 1) := by decide +kernel
theorem dX8_stood_32 : decode cX8_stood 32 = .ok (.invokevirtual 48, 3) := by decide +kernel
theorem dX8_stood_35 : decode cX8_stood 35 = .ok (.ifCond .eq 6, 3) := by decide +kernel
theorem dX8_stood_38 : decode cX8_stood 38 = .ok (.bipush (-2), 2) := by decide +kernel
theorem dX8_stood_40 : decode cX8_stood 40 = .ok (.ireturn, 1) := by decide +kernel
theorem dX8_stood_41 : decode cX8_stood 41 = .ok (.aload_n 0, 1) := by decide +kernel
theorem dX8_stood_42 : decode cX8_stood 42 = .ok (.getfield 7, 3) := by decide +kernel
theorem dX8_stood_45 : decode cX8_stood 45 = .ok (.bipush 22, 2) := by decide +kernel
theorem dX8_stood_47 : decode cX8_stood 47 = .ok (.iconst 3, 1) := by decide +kernel
theorem dX8_stood_48 : decode cX8_stood 48 = .ok (.iload_n 1, 1) := by decide +kernel
theorem dX8_stood_49 : decode cX8_stood 49 = .ok (.imul, 1) := by decide +kernel
theorem dX8_stood_50 : decode cX8_stood 50 = .ok (.iadd, 1) := by decide +kernel
theorem dX8_stood_51 : decode cX8_stood 51 = .ok (.iload_n 2, 1) := by decide +kernel
theorem dX8_stood_52 : decode cX8_stood 52 = .ok (.iadd, 1) := by decide +kernel
theorem dX8_stood_53 : decode cX8_stood 53 = .ok (.iaload, 1) := by decide +kernel
theorem dX8_stood_54 : decode cX8_stood 54 = .ok (.istore 4, 2) := by decide +kernel
theorem dX8_stood_56 : decode cX8_stood 56 = .ok (.aload_n 0, 1) := by decide +kernel
theorem dX8_stood_57 : decode cX8_stood 57 = .ok (.getfield 7, 3) := by decide +kernel
theorem dX8_stood_60 : decode cX8_stood 60 = .ok (.bipush 22, 2) := by decide +kernel
theorem dX8_stood_62 : decode cX8_stood 62 = .ok (.iconst 3, 1) := by decide +kernel
theorem dX8_stood_63 : decode cX8_stood 63 = .ok (.iload_n 1, 1) := by decide +kernel
theorem dX8_stood_64 : decode cX8_stood 64 = .ok (.imul, 1) := by decide +kernel
theorem dX8_stood_65 : decode cX8_stood 65 = .ok (.iadd, 1) := by decide +kernel
theorem dX8_stood_66 : decode cX8_stood 66 = .ok (.iload_n 2, 1) := by decide +kernel
theorem dX8_stood_67 : decode cX8_stood 67 = .ok (.iadd, 1) := by decide +kernel
theorem dX8_stood_68 : decode cX8_stood 68 = .ok (.iload_n 3, 1) := by decide +kernel
theorem dX8_stood_69 : decode cX8_stood 69 = .ok (.iastore, 1) := by decide +kernel
theorem dX8_stood_70 : decode cX8_stood 70 = .ok (.iload 4, 2) := by decide +kernel
theorem dX8_stood_72 : decode cX8_stood 72 = .ok (.ireturn, 1) := by decide +kernel
theorem dX8_stoodBy_0 : decode cX8_stoodBy 0 = .ok (.iconst 0, 1) := by decide +kernel
theorem dX8_stoodBy_1 : decode cX8_stoodBy 1 = .ok (.istore_n 3, 1) := by decide +kernel
theorem dX8_stoodBy_2 : decode cX8_stoodBy 2 = .ok (.iconst 0, 1) := by decide +kernel
theorem dX8_stoodBy_3 : decode cX8_stoodBy 3 = .ok (.istore 4, 2) := by decide +kernel
theorem dX8_stoodBy_5 : decode cX8_stoodBy 5 = .ok (.iload 4, 2) := by decide +kernel
theorem dX8_stoodBy_7 : decode cX8_stoodBy 7 = .ok (.iconst 3, 1) := by decide +kernel
theorem dX8_stoodBy_8 : decode cX8_stoodBy 8 = .ok (.if_icmp .ge 136, 3) := by decide +kernel
theorem dX8_stoodBy_11 : decode cX8_stoodBy 11 = .ok (.aload_n 0, 1) := by decide +kernel
theorem dX8_stoodBy_12 : decode cX8_stoodBy 12 = .ok (.getfield 7, 3) := by decide +kernel
theorem dX8_stoodBy_15 : decode cX8_stoodBy 15 = .ok (.bipush 22, 2) := by decide +kernel
theorem dX8_stoodBy_17 : decode cX8_stoodBy 17 = .ok (.iconst 3, 1) := by decide +kernel
theorem dX8_stoodBy_18 : decode cX8_stoodBy 18 = .ok (.iload_n 1, 1) := by decide +kernel
theorem dX8_stoodBy_19 : decode cX8_stoodBy 19 = .ok (.imul, 1) := by decide +kernel
theorem dX8_stoodBy_20 : decode cX8_stoodBy 20 = .ok (.iadd, 1) := by decide +kernel
theorem dX8_stoodBy_21 : decode cX8_stoodBy 21 = .ok (.iload 4, 2) := by decide +kernel
theorem dX8_stoodBy_23 : decode cX8_stoodBy 23 = .ok (.iadd, 1) := by decide +kernel
theorem dX8_stoodBy_24 : decode cX8_stoodBy 24 = .ok (.iaload, 1) := by decide +kernel
theorem dX8_stoodBy_25 : decode cX8_stoodBy 25 = .ok (.istore 5, 2) := by decide +kernel
theorem dX8_stoodBy_27 : decode cX8_stoodBy 27 = .ok (.aload_n 0, 1) := by decide +kernel
theorem dX8_stoodBy_28 : decode cX8_stoodBy 28 = .ok (.getfield 7, 3) := by decide +kernel
theorem dX8_stoodBy_31 : decode cX8_stoodBy 31 = .ok (.bipush 22, 2) := by decide +kernel
theorem dX8_stoodBy_33 : decode cX8_stoodBy 33 = .ok (.iconst 3, 1) := by decide +kernel
theorem dX8_stoodBy_34 : decode cX8_stoodBy 34 = .ok (.iload_n 2, 1) := by decide +kernel
theorem dX8_stoodBy_35 : decode cX8_stoodBy 35 = .ok (.imul, 1) := by decide +kernel
theorem dX8_stoodBy_36 : decode cX8_stoodBy 36 = .ok (.iadd, 1) := by decide +kernel
theorem dX8_stoodBy_37 : decode cX8_stoodBy 37 = .ok (.iload 4, 2) := by decide +kernel
theorem dX8_stoodBy_39 : decode cX8_stoodBy 39 = .ok (.iadd, 1) := by decide +kernel
theorem dX8_stoodBy_40 : decode cX8_stoodBy 40 = .ok (.iaload, 1) := by decide +kernel
theorem dX8_stoodBy_41 : decode cX8_stoodBy 41 = .ok (.istore 6, 2) := by decide +kernel
theorem dX8_stoodBy_43 : decode cX8_stoodBy 43 = .ok (.iconst 1, 1) := by decide +kernel
theorem dX8_stoodBy_44 : decode cX8_stoodBy 44 = .ok (.istore 7, 2) := by decide +kernel
theorem dX8_stoodBy_46 : decode cX8_stoodBy 46 = .ok (.iconst 0, 1) := by decide +kernel
theorem dX8_stoodBy_47 : decode cX8_stoodBy 47 = .ok (.istore 8, 2) := by decide +kernel
theorem dX8_stoodBy_49 : decode cX8_stoodBy 49 = .ok (.iload 8, 2) := by decide +kernel
theorem dX8_stoodBy_51 : decode cX8_stoodBy 51 = .ok (.aload_n 0, 1) := by decide +kernel
theorem dX8_stoodBy_52 : decode cX8_stoodBy 52 = .ok (.getfield 7, 3) := by decide +kernel
theorem dX8_stoodBy_55 : decode cX8_stoodBy 55 = .ok (.iconst 0, 1) := by decide +kernel
theorem dX8_stoodBy_56 : decode cX8_stoodBy 56 = .ok (.iaload, 1) := by decide +kernel
theorem dX8_stoodBy_57 : decode cX8_stoodBy 57 = .ok (.if_icmp .ge 66, 3) := by decide +kernel
theorem dX8_stoodBy_60 : decode cX8_stoodBy 60 = .ok (.aload_n 0, 1) := by decide +kernel
theorem dX8_stoodBy_61 : decode cX8_stoodBy 61 = .ok (.getfield 7, 3) := by decide +kernel
theorem dX8_stoodBy_64 : decode cX8_stoodBy 64 = .ok (.bipush 22, 2) := by decide +kernel
theorem dX8_stoodBy_66 : decode cX8_stoodBy 66 = .ok (.iconst 3, 1) := by decide +kernel
theorem dX8_stoodBy_67 : decode cX8_stoodBy 67 = .ok (.iload 8, 2) := by decide +kernel
theorem dX8_stoodBy_69 : decode cX8_stoodBy 69 = .ok (.imul, 1) := by decide +kernel
theorem dX8_stoodBy_70 : decode cX8_stoodBy 70 = .ok (.iadd, 1) := by decide +kernel
theorem dX8_stoodBy_71 : decode cX8_stoodBy 71 = .ok (.iload 4, 2) := by decide +kernel
theorem dX8_stoodBy_73 : decode cX8_stoodBy 73 = .ok (.iadd, 1) := by decide +kernel
theorem dX8_stoodBy_74 : decode cX8_stoodBy 74 = .ok (.iaload, 1) := by decide +kernel
theorem dX8_stoodBy_75 : decode cX8_stoodBy 75 = .ok (.istore 9, 2) := by decide +kernel
theorem dX8_stoodBy_77 : decode cX8_stoodBy 77 = .ok (.iload 7, 2) := by decide +kernel
theorem dX8_stoodBy_79 : decode cX8_stoodBy 79 = .ok (.ifCond .eq 35, 3) := by decide +kernel
theorem dX8_stoodBy_82 : decode cX8_stoodBy 82 = .ok (.iload 9, 2) := by decide +kernel
theorem dX8_stoodBy_84 : decode cX8_stoodBy 84 = .ok (.iload 5, 2) := by decide +kernel
theorem dX8_stoodBy_86 : decode cX8_stoodBy 86 = .ok (.if_icmp .le 10, 3) := by decide +kernel
theorem dX8_stoodBy_89 : decode cX8_stoodBy 89 = .ok (.iload 9, 2) := by decide +kernel
theorem dX8_stoodBy_91 : decode cX8_stoodBy 91 = .ok (.iload 6, 2) := by decide +kernel
theorem dX8_stoodBy_93 : decode cX8_stoodBy 93 = .ok (.if_icmp .lt 21, 3) := by decide +kernel
theorem dX8_stoodBy_96 : decode cX8_stoodBy 96 = .ok (.iload 9, 2) := by decide +kernel
theorem dX8_stoodBy_98 : decode cX8_stoodBy 98 = .ok (.iload 6, 2) := by decide +kernel
theorem dX8_stoodBy_100 : decode cX8_stoodBy 100 = .ok (.if_icmp .le 10, 3) := by decide +kernel
theorem dX8_stoodBy_103 : decode cX8_stoodBy 103 = .ok (.iload 9, 2) := by decide +kernel
theorem dX8_stoodBy_105 : decode cX8_stoodBy 105 = .ok (.iload 5, 2) := by decide +kernel
theorem dX8_stoodBy_107 : decode cX8_stoodBy 107 = .ok (.if_icmp .lt 7, 3) := by decide +kernel
theorem dX8_stoodBy_110 : decode cX8_stoodBy 110 = .ok (.iconst 1, 1) := by decide +kernel
theorem dX8_stoodBy_111 : decode cX8_stoodBy 111 = .ok (.goto 4, 3) := by decide +kernel
theorem dX8_stoodBy_114 : decode cX8_stoodBy 114 = .ok (.iconst 0, 1) := by decide +kernel
theorem dX8_stoodBy_115 : decode cX8_stoodBy 115 = .ok (.istore 7, 2) := by decide +kernel
theorem dX8_stoodBy_117 : decode cX8_stoodBy 117 = .ok (.iinc 8 1, 3) := by decide +kernel
theorem dX8_stoodBy_120 : decode cX8_stoodBy 120 = .ok (.goto (-71), 3) := by decide +kernel
theorem dX8_stoodBy_123 : decode cX8_stoodBy 123 = .ok (.iload_n 3, 1) := by decide +kernel
theorem dX8_stoodBy_124 : decode cX8_stoodBy 124 = .ok (.ifCond .ne 8, 3) := by decide +kernel
theorem dX8_stoodBy_127 : decode cX8_stoodBy 127 = .ok (.iload 7, 2) := by decide +kernel
theorem dX8_stoodBy_129 : decode cX8_stoodBy 129 = .ok (.ifCond .eq 7, 3) := by decide +kernel
theorem dX8_stoodBy_132 : decode cX8_stoodBy 132 = .ok (.iconst 1, 1) := by decide +kernel
theorem dX8_stoodBy_133 : decode cX8_stoodBy 133 = .ok (.goto 4, 3) := by decide +kernel
theorem dX8_stoodBy_136 : decode cX8_stoodBy 136 = .ok (.iconst 0, 1) := by decide +kernel
theorem dX8_stoodBy_137 : decode cX8_stoodBy 137 = .ok (.istore_n 3, 1) := by decide +kernel
theorem dX8_stoodBy_138 : decode cX8_stoodBy 138 = .ok (.iinc 4 1, 3) := by decide +kernel
theorem dX8_stoodBy_141 : decode cX8_stoodBy 141 = .ok (.goto (-136), 3) := by decide +kernel
theorem dX8_stoodBy_144 : decode cX8_stoodBy 144 = .ok (.iload_n 3, 1) := by decide +kernel
theorem dX8_stoodBy_145 : decode cX8_stoodBy 145 = .ok (.ireturn, 1) := by decide +kernel
theorem dX8_allStoodBy_0 : decode cX8_allStoodBy 0 = .ok (.iconst 0, 1) := by decide +kernel
theorem dX8_allStoodBy_1 : decode cX8_allStoodBy 1 = .ok (.istore_n 2, 1) := by decide +kernel
theorem dX8_allStoodBy_2 : decode cX8_allStoodBy 2 = .ok (.iconst 0, 1) := by decide +kernel
theorem dX8_allStoodBy_3 : decode cX8_allStoodBy 3 = .ok (.istore_n 3, 1) := by decide +kernel
theorem dX8_allStoodBy_4 : decode cX8_allStoodBy 4 = .ok (.iload_n 3, 1) := by decide +kernel
theorem dX8_allStoodBy_5 : decode cX8_allStoodBy 5 = .ok (.aload_n 0, 1) := by decide +kernel
theorem dX8_allStoodBy_6 : decode cX8_allStoodBy 6 = .ok (.getfield 7, 3) := by decide +kernel
theorem dX8_allStoodBy_9 : decode cX8_allStoodBy 9 = .ok (.iconst 0, 1) := by decide +kernel
theorem dX8_allStoodBy_10 : decode cX8_allStoodBy 10 = .ok (.iaload, 1) := by decide +kernel
theorem dX8_allStoodBy_11 : decode cX8_allStoodBy 11 = .ok (.if_icmp .ge 33, 3) := by decide +kernel
theorem dX8_allStoodBy_14 : decode cX8_allStoodBy 14 = .ok (.iload_n 2, 1) := by decide +kernel
theorem dX8_allStoodBy_15 : decode cX8_allStoodBy 15 = .ok (.iload_n 3, 1) := by decide +kernel
theorem dX8_allStoodBy_16 : decode cX8_allStoodBy 16 = .ok (.iload_n 1, 1) := by decide +kernel
theorem dX8_allStoodBy_17 : decode cX8_allStoodBy 17 = .ok (.if_icmp .eq 18, 3) := by decide +kernel
theorem dX8_allStoodBy_20 : decode cX8_allStoodBy 20 = .ok (.aload_n 0, 1) := by decide +kernel
theorem dX8_allStoodBy_21 : decode cX8_allStoodBy 21 = .ok (.iload_n 1, 1) := by decide +kernel
theorem dX8_allStoodBy_22 : decode cX8_allStoodBy 22 = .ok (.iload_n 3, 1) := by decide +kernel
theorem dX8_allStoodBy_23 : decode cX8_allStoodBy 23 = .ok (.invokevirtual 56, 3) := by decide +kernel
theorem dX8_allStoodBy_26 : decode cX8_allStoodBy 26 = .ok (.ifCond .eq 9, 3) := by decide +kernel
theorem dX8_allStoodBy_29 : decode cX8_allStoodBy 29 = .ok (.iconst 1, 1) := by decide +kernel
theorem dX8_allStoodBy_30 : decode cX8_allStoodBy 30 = .ok (.iload_n 3, 1) := by decide +kernel
theorem dX8_allStoodBy_31 : decode cX8_allStoodBy 31 = .ok (.ishl, 1) := by decide +kernel
theorem dX8_allStoodBy_32 : decode cX8_allStoodBy 32 = .ok (.goto 4, 3) := by decide +kernel
theorem dX8_allStoodBy_35 : decode cX8_allStoodBy 35 = .ok (.iconst 0, 1) := by decide +kernel
theorem dX8_allStoodBy_36 : decode cX8_allStoodBy 36 = .ok (.ior, 1) := by decide +kernel
theorem dX8_allStoodBy_37 : decode cX8_allStoodBy 37 = .ok (.istore_n 2, 1) := by decide +kernel
theorem dX8_allStoodBy_38 : decode cX8_allStoodBy 38 = .ok (.iinc 3 1, 3) := by decide +kernel
theorem dX8_allStoodBy_41 : decode cX8_allStoodBy 41 = .ok (.goto (-37), 3) := by decide +kernel
theorem dX8_allStoodBy_44 : decode cX8_allStoodBy 44 = .ok (.iload_n 2, 1) := by decide +kernel
theorem dX8_allStoodBy_45 : decode cX8_allStoodBy 45 = .ok (.ireturn, 1) := by decide +kernel
theorem dX8_allSitBy_0 : decode cX8_allSitBy 0 = .ok (.aload_n 0, 1) := by decide +kernel
theorem dX8_allSitBy_1 : decode cX8_allSitBy 1 = .ok (.iload_n 1, 1) := by decide +kernel
theorem dX8_allSitBy_2 : decode cX8_allSitBy 2 = .ok (.invokevirtual 59, 3) := by decide +kernel
theorem dX8_allSitBy_5 : decode cX8_allSitBy 5 = .ok (.istore_n 2, 1) := by decide +kernel
theorem dX8_allSitBy_6 : decode cX8_allSitBy 6 = .ok (.iload_n 2, 1) := by decide +kernel
theorem dX8_allSitBy_7 : decode cX8_allSitBy 7 = .ok (.bipush (-4), 2) := by decide +kernel
theorem dX8_allSitBy_9 : decode cX8_allSitBy 9 = .ok (.if_icmp .ne 5, 3) := by decide +kernel
theorem dX8_allSitBy_12 : decode cX8_allSitBy 12 = .ok (.iconst 0, 1) := by decide +kernel
theorem dX8_allSitBy_13 : decode cX8_allSitBy 13 = .ok (.ireturn, 1) := by decide +kernel
theorem dX8_allSitBy_14 : decode cX8_allSitBy 14 = .ok (.aload_n 0, 1) := by decide +kernel
theorem dX8_allSitBy_15 : decode cX8_allSitBy 15 = .ok (.iload_n 2, 1) := by decide +kernel
theorem dX8_allSitBy_16 : decode cX8_allSitBy 16 = .ok (.iconst 1, 1) := by decide +kernel
theorem dX8_allSitBy_17 : decode cX8_allSitBy 17 = .ok (.isub, 1) := by decide +kernel
theorem dX8_allSitBy_18 : decode cX8_allSitBy 18 = .ok (.invokevirtual 63, 3) := by decide +kernel
theorem dX8_allSitBy_21 : decode cX8_allSitBy 21 = .ok (.istore_n 3, 1) := by decide +kernel
theorem dX8_allSitBy_22 : decode cX8_allSitBy 22 = .ok (.aload_n 0, 1) := by decide +kernel
theorem dX8_allSitBy_23 : decode cX8_allSitBy 23 = .ok (.iload_n 2, 1) := by decide +kernel
theorem dX8_allSitBy_24 : decode cX8_allSitBy 24 = .ok (.iconst 1, 1) := by decide +kernel
theorem dX8_allSitBy_25 : decode cX8_allSitBy 25 = .ok (.iadd, 1) := by decide +kernel
theorem dX8_allSitBy_26 : decode cX8_allSitBy 26 = .ok (.invokevirtual 63, 3) := by decide +kernel
theorem dX8_allSitBy_29 : decode cX8_allSitBy 29 = .ok (.istore 4, 2) := by decide +kernel
theorem dX8_allSitBy_31 : decode cX8_allSitBy 31 = .ok (.iload_n 3, 1) := by decide +kernel
theorem dX8_allSitBy_32 : decode cX8_allSitBy 32 = .ok (.bipush (-4), 2) := by decide +kernel
theorem dX8_allSitBy_34 : decode cX8_allSitBy 34 = .ok (.if_icmp .ne 7, 3) := by decide +kernel
theorem dX8_allSitBy_37 : decode cX8_allSitBy 37 = .ok (.iconst 0, 1) := by decide +kernel
theorem dX8_allSitBy_38 : decode cX8_allSitBy 38 = .ok (.goto 6, 3) := by decide +kernel
theorem dX8_allSitBy_41 : decode cX8_allSitBy 41 = .ok (.iconst 1, 1) := by decide +kernel
theorem dX8_allSitBy_42 : decode cX8_allSitBy 42 = .ok (.iload_n 3, 1) := by decide +kernel
theorem dX8_allSitBy_43 : decode cX8_allSitBy 43 = .ok (.ishl, 1) := by decide +kernel
theorem dX8_allSitBy_44 : decode cX8_allSitBy 44 = .ok (.iload 4, 2) := by decide +kernel
theorem dX8_allSitBy_46 : decode cX8_allSitBy 46 = .ok (.bipush (-4), 2) := by decide +kernel
theorem dX8_allSitBy_48 : decode cX8_allSitBy 48 = .ok (.if_icmp .ne 7, 3) := by decide +kernel
theorem dX8_allSitBy_51 : decode cX8_allSitBy 51 = .ok (.iconst 0, 1) := by decide +kernel
theorem dX8_allSitBy_52 : decode cX8_allSitBy 52 = .ok (.goto 7, 3) := by decide +kernel
theorem dX8_allSitBy_55 : decode cX8_allSitBy 55 = .ok (.iconst 1, 1) := by decide +kernel
theorem dX8_allSitBy_56 : decode cX8_allSitBy 56 = .ok (.iload 4, 2) := by decide +kernel
theorem dX8_allSitBy_58 : decode cX8_allSitBy 58 = .ok (.ishl, 1) := by decide +kernel
theorem dX8_allSitBy_59 : decode cX8_allSitBy 59 = .ok (.ior, 1) := by decide +kernel
theorem dX8_allSitBy_60 : decode cX8_allSitBy 60 = .ok (.ireturn, 1) := by decide +kernel
theorem dX8_ones_0 : decode cX8_ones 0 = .ok (.iconst 0, 1) := by decide +kernel
theorem dX8_ones_1 : decode cX8_ones 1 = .ok (.istore_n 1, 1) := by decide +kernel
theorem dX8_ones_2 : decode cX8_ones 2 = .ok (.iconst 0, 1) := by decide +kernel
theorem dX8_ones_3 : decode cX8_ones 3 = .ok (.istore_n 2, 1) := by decide +kernel
theorem dX8_ones_4 : decode cX8_ones 4 = .ok (.iload_n 2, 1) := by decide +kernel
theorem dX8_ones_5 : decode cX8_ones 5 = .ok (.bipush 6, 2) := by decide +kernel
theorem dX8_ones_7 : decode cX8_ones 7 = .ok (.if_icmp .ge 17, 3) := by decide +kernel
theorem dX8_ones_10 : decode cX8_ones 10 = .ok (.iload_n 1, 1) := by decide +kernel
theorem dX8_ones_11 : decode cX8_ones 11 = .ok (.iload_n 0, 1) := by decide +kernel
theorem dX8_ones_12 : decode cX8_ones 12 = .ok (.iload_n 2, 1) := by decide +kernel
theorem dX8_ones_13 : decode cX8_ones 13 = .ok (.ishr, 1) := by decide +kernel
theorem dX8_ones_14 : decode cX8_ones 14 = .ok (.iconst 1, 1) := by decide +kernel
theorem dX8_ones_15 : decode cX8_ones 15 = .ok (.iand, 1) := by decide +kernel
theorem dX8_ones_16 : decode cX8_ones 16 = .ok (.iadd, 1) := by decide +kernel
theorem dX8_ones_17 : decode cX8_ones 17 = .ok (.istore_n 1, 1) := by decide +kernel
theorem dX8_ones_18 : decode cX8_ones 18 = .ok (.iinc 2 1, 3) := by decide +kernel
theorem dX8_ones_21 : decode cX8_ones 21 = .ok (.goto (-17), 3) := by decide +kernel
theorem dX8_ones_24 : decode cX8_ones 24 = .ok (.iload_n 1, 1) := by decide +kernel
theorem dX8_ones_25 : decode cX8_ones 25 = .ok (.ireturn, 1) := by decide +kernel
theorem dX8_fails_0 : decode cX8_fails 0 = .ok (.aload_n 0, 1) := by decide +kernel
theorem dX8_fails_1 : decode cX8_fails 1 = .ok (.getfield 7, 3) := by decide +kernel
theorem dX8_fails_4 : decode cX8_fails 4 = .ok (.iconst 2, 1) := by decide +kernel
theorem dX8_fails_5 : decode cX8_fails 5 = .ok (.iaload, 1) := by decide +kernel
theorem dX8_fails_6 : decode cX8_fails 6 = .ok (.iconst 2, 1) := by decide +kernel
theorem dX8_fails_7 : decode cX8_fails 7 = .ok (.irem, 1) := by decide +kernel
theorem dX8_fails_8 : decode cX8_fails 8 = .ok (.ifCond .ne 7, 3) := by decide +kernel
theorem dX8_fails_11 : decode cX8_fails 11 = .ok (.iconst 2, 1) := by decide +kernel
theorem dX8_fails_12 : decode cX8_fails 12 = .ok (.goto 4, 3) := by decide +kernel
theorem dX8_fails_15 : decode cX8_fails 15 = .ok (.iconst 0, 1) := by decide +kernel
theorem dX8_fails_16 : decode cX8_fails 16 = .ok (.istore_n 2, 1) := by decide +kernel
theorem dX8_fails_17 : decode cX8_fails 17 = .ok (.aload_n 0, 1) := by decide +kernel
theorem dX8_fails_18 : decode cX8_fails 18 = .ok (.iload_n 1, 1) := by decide +kernel
theorem dX8_fails_19 : decode cX8_fails 19 = .ok (.invokevirtual 59, 3) := by decide +kernel
theorem dX8_fails_22 : decode cX8_fails 22 = .ok (.istore_n 3, 1) := by decide +kernel
theorem dX8_fails_23 : decode cX8_fails 23 = .ok (.aload_n 0, 1) := by decide +kernel
theorem dX8_fails_24 : decode cX8_fails 24 = .ok (.getfield 7, 3) := by decide +kernel
theorem dX8_fails_27 : decode cX8_fails 27 = .ok (.bipush 16, 2) := by decide +kernel
theorem dX8_fails_29 : decode cX8_fails 29 = .ok (.iload_n 1, 1) := by decide +kernel
theorem dX8_fails_30 : decode cX8_fails 30 = .ok (.iadd, 1) := by decide +kernel
theorem dX8_fails_31 : decode cX8_fails 31 = .ok (.iaload, 1) := by decide +kernel
theorem dX8_fails_32 : decode cX8_fails 32 = .ok (.tableswitch 62 0 3 #[32, 34, 36, 38], 32) := by decide +kernel
theorem dX8_fails_64 : decode cX8_fails 64 = .ok (.iconst 2, 1) := by decide +kernel
theorem dX8_fails_65 : decode cX8_fails 65 = .ok (.ireturn, 1) := by decide +kernel
theorem dX8_fails_66 : decode cX8_fails 66 = .ok (.iload_n 2, 1) := by decide +kernel
theorem dX8_fails_67 : decode cX8_fails 67 = .ok (.ireturn, 1) := by decide +kernel
theorem dX8_fails_68 : decode cX8_fails 68 = .ok (.iconst 4, 1) := by decide +kernel
theorem dX8_fails_69 : decode cX8_fails 69 = .ok (.ireturn, 1) := by decide +kernel
theorem dX8_fails_70 : decode cX8_fails 70 = .ok (.iload_n 3, 1) := by decide +kernel
theorem dX8_fails_71 : decode cX8_fails 71 = .ok (.ifCond .eq 15, 3) := by decide +kernel
theorem dX8_fails_74 : decode cX8_fails 74 = .ok (.iload_n 3, 1) := by decide +kernel
theorem dX8_fails_75 : decode cX8_fails 75 = .ok (.aload_n 0, 1) := by decide +kernel
theorem dX8_fails_76 : decode cX8_fails 76 = .ok (.getfield 7, 3) := by decide +kernel
theorem dX8_fails_79 : decode cX8_fails 79 = .ok (.iconst 1, 1) := by decide +kernel
theorem dX8_fails_80 : decode cX8_fails 80 = .ok (.iaload, 1) := by decide +kernel
theorem dX8_fails_81 : decode cX8_fails 81 = .ok (.iconst 1, 1) := by decide +kernel
theorem dX8_fails_82 : decode cX8_fails 82 = .ok (.isub, 1) := by decide +kernel
theorem dX8_fails_83 : decode cX8_fails 83 = .ok (.if_icmp .ne 9, 3) := by decide +kernel
theorem dX8_fails_86 : decode cX8_fails 86 = .ok (.iload_n 2, 1) := by decide +kernel
theorem dX8_fails_87 : decode cX8_fails 87 = .ok (.iconst 1, 1) := by decide +kernel
theorem dX8_fails_88 : decode cX8_fails 88 = .ok (.iadd, 1) := by decide +kernel
theorem dX8_fails_89 : decode cX8_fails 89 = .ok (.goto 4, 3) := by decide +kernel
theorem dX8_fails_92 : decode cX8_fails 92 = .ok (.iload_n 2, 1) := by decide +kernel
theorem dX8_fails_93 : decode cX8_fails 93 = .ok (.ireturn, 1) := by decide +kernel
theorem dX8_fails_94 : decode cX8_fails 94 = .ok (.iconst 4, 1) := by decide +kernel
theorem dX8_fails_95 : decode cX8_fails 95 = .ok (.aload_n 0, 1) := by decide +kernel
theorem dX8_fails_96 : decode cX8_fails 96 = .ok (.iload_n 1, 1) := by decide +kernel
theorem dX8_fails_97 : decode cX8_fails 97 = .ok (.invokevirtual 66, 3) := by decide +kernel
theorem dX8_fails_100 : decode cX8_fails 100 = .ok (.aload_n 0, 1) := by decide +kernel
theorem dX8_fails_101 : decode cX8_fails 101 = .ok (.iload_n 1, 1) := by decide +kernel
theorem dX8_fails_102 : decode cX8_fails 102 = .ok (.invokevirtual 69, 3) := by decide +kernel
theorem dX8_fails_105 : decode cX8_fails 105 = .ok (.iand, 1) := by decide +kernel
theorem dX8_fails_106 : decode cX8_fails 106 = .ok (.invokestatic 72, 3) := by decide +kernel
theorem dX8_fails_109 : decode cX8_fails 109 = .ok (.isub, 1) := by decide +kernel
theorem dX8_fails_110 : decode cX8_fails 110 = .ok (.ireturn, 1) := by decide +kernel
theorem dX8_passes_0 : decode cX8_passes 0 = .ok (.iconst 0, 1) := by decide +kernel
theorem dX8_passes_1 : decode cX8_passes 1 = .ok (.istore_n 1, 1) := by decide +kernel
theorem dX8_passes_2 : decode cX8_passes 2 = .ok (.iload_n 1, 1) := by decide +kernel
theorem dX8_passes_3 : decode cX8_passes 3 = .ok (.aload_n 0, 1) := by decide +kernel
theorem dX8_passes_4 : decode cX8_passes 4 = .ok (.getfield 7, 3) := by decide +kernel
theorem dX8_passes_7 : decode cX8_passes 7 = .ok (.iconst 0, 1) := by decide +kernel
theorem dX8_passes_8 : decode cX8_passes 8 = .ok (.iaload, 1) := by decide +kernel
theorem dX8_passes_9 : decode cX8_passes 9 = .ok (.if_icmp .ge 35, 3) := by decide +kernel
theorem dX8_passes_12 : decode cX8_passes 12 = .ok (.aload_n 0, 1) := by decide +kernel
theorem dX8_passes_13 : decode cX8_passes 13 = .ok (.getfield 35, 3) := by decide +kernel
theorem dX8_passes_16 : decode cX8_passes 16 = .ok (.iload_n 1, 1) := by decide +kernel
theorem dX8_passes_17 : decode cX8_passes 17 = .ok (.aload_n 0, 1) := by decide +kernel
theorem dX8_passes_18 : decode cX8_passes 18 = .ok (.invokevirtual 75, 3) := by decide +kernel
theorem dX8_passes_21 : decode cX8_passes 21 = .ok (.iload_n 1, 1) := by decide +kernel
theorem dX8_passes_22 : decode cX8_passes 22 = .ok (.invokestatic 79, 3) := by decide +kernel
theorem dX8_passes_25 : decode cX8_passes 25 = .ok (.ifCond .eq 11, 3) := by decide +kernel
theorem dX8_passes_28 : decode cX8_passes 28 = .ok (.aload_n 0, 1) := by decide +kernel
theorem dX8_passes_29 : decode cX8_passes 29 = .ok (.iload_n 1, 1) := by decide +kernel
theorem dX8_passes_30 : decode cX8_passes 30 = .ok (.invokevirtual 82, 3) := by decide +kernel
theorem dX8_passes_33 : decode cX8_passes 33 = .ok (.goto 4, 3) := by decide +kernel
theorem dX8_passes_36 : decode cX8_passes 36 = .ok (.iconst 0, 1) := by decide +kernel
theorem dX8_passes_37 : decode cX8_passes 37 = .ok (.iastore, 1) := by decide +kernel
theorem dX8_passes_38 : decode cX8_passes 38 = .ok (.iinc 1 1, 3) := by decide +kernel
theorem dX8_passes_41 : decode cX8_passes 41 = .ok (.goto (-39), 3) := by decide +kernel
theorem dX8_passes_44 : decode cX8_passes 44 = .ok (.iconst 0, 1) := by decide +kernel
theorem dX8_passes_45 : decode cX8_passes 45 = .ok (.istore_n 1, 1) := by decide +kernel
theorem dX8_passes_46 : decode cX8_passes 46 = .ok (.iload_n 1, 1) := by decide +kernel
theorem dX8_passes_47 : decode cX8_passes 47 = .ok (.aload_n 0, 1) := by decide +kernel
theorem dX8_passes_48 : decode cX8_passes 48 = .ok (.getfield 7, 3) := by decide +kernel
theorem dX8_passes_51 : decode cX8_passes 51 = .ok (.iconst 0, 1) := by decide +kernel
theorem dX8_passes_52 : decode cX8_passes 52 = .ok (.iaload, 1) := by decide +kernel
theorem dX8_passes_53 : decode cX8_passes 53 = .ok (.if_icmp .ge 53, 3) := by decide +kernel
theorem dX8_passes_56 : decode cX8_passes 56 = .ok (.aload_n 0, 1) := by decide +kernel
theorem dX8_passes_57 : decode cX8_passes 57 = .ok (.getfield 7, 3) := by decide +kernel
theorem dX8_passes_60 : decode cX8_passes 60 = .ok (.iconst 4, 1) := by decide +kernel
theorem dX8_passes_61 : decode cX8_passes 61 = .ok (.iload_n 1, 1) := by decide +kernel
theorem dX8_passes_62 : decode cX8_passes 62 = .ok (.iadd, 1) := by decide +kernel
theorem dX8_passes_63 : decode cX8_passes 63 = .ok (.aload_n 0, 1) := by decide +kernel
theorem dX8_passes_64 : decode cX8_passes 64 = .ok (.getfield 7, 3) := by decide +kernel
theorem dX8_passes_67 : decode cX8_passes 67 = .ok (.iconst 4, 1) := by decide +kernel
theorem dX8_passes_68 : decode cX8_passes 68 = .ok (.iload_n 1, 1) := by decide +kernel
theorem dX8_passes_69 : decode cX8_passes 69 = .ok (.iadd, 1) := by decide +kernel
theorem dX8_passes_70 : decode cX8_passes 70 = .ok (.iaload, 1) := by decide +kernel
theorem dX8_passes_71 : decode cX8_passes 71 = .ok (.aload_n 0, 1) := by decide +kernel
theorem dX8_passes_72 : decode cX8_passes 72 = .ok (.getfield 35, 3) := by decide +kernel
theorem dX8_passes_75 : decode cX8_passes 75 = .ok (.iload_n 1, 1) := by decide +kernel
theorem dX8_passes_76 : decode cX8_passes 76 = .ok (.iaload, 1) := by decide +kernel
theorem dX8_passes_77 : decode cX8_passes 77 = .ok (.if_icmp .le 21, 3) := by decide +kernel
theorem dX8_passes_80 : decode cX8_passes 80 = .ok (.aload_n 0, 1) := by decide +kernel
theorem dX8_passes_81 : decode cX8_passes 81 = .ok (.getfield 7, 3) := by decide +kernel
theorem dX8_passes_84 : decode cX8_passes 84 = .ok (.iconst 4, 1) := by decide +kernel
theorem dX8_passes_85 : decode cX8_passes 85 = .ok (.iload_n 1, 1) := by decide +kernel
theorem dX8_passes_86 : decode cX8_passes 86 = .ok (.iadd, 1) := by decide +kernel
theorem dX8_passes_87 : decode cX8_passes 87 = .ok (.iaload, 1) := by decide +kernel
theorem dX8_passes_88 : decode cX8_passes 88 = .ok (.aload_n 0, 1) := by decide +kernel
theorem dX8_passes_89 : decode cX8_passes 89 = .ok (.getfield 35, 3) := by decide +kernel
theorem dX8_passes_92 : decode cX8_passes 92 = .ok (.iload_n 1, 1) := by decide +kernel
theorem dX8_passes_93 : decode cX8_passes 93 = .ok (.iaload, 1) := by decide +kernel
theorem dX8_passes_94 : decode cX8_passes 94 = .ok (.isub, 1) := by decide +kernel
theorem dX8_passes_95 : decode cX8_passes 95 = .ok (.goto 4, 3) := by decide +kernel
theorem dX8_passes_98 : decode cX8_passes 98 = .ok (.iconst 0, 1) := by decide +kernel
theorem dX8_passes_99 : decode cX8_passes 99 = .ok (.iastore, 1) := by decide +kernel
theorem dX8_passes_100 : decode cX8_passes 100 = .ok (.iinc 1 1, 3) := by decide +kernel
theorem dX8_passes_103 : decode cX8_passes 103 = .ok (.goto (-57), 3) := by decide +kernel
theorem dX8_passes_106 : decode cX8_passes 106 = .ok (.iconst 0, 1) := by decide +kernel
theorem dX8_passes_107 : decode cX8_passes 107 = .ok (.istore_n 1, 1) := by decide +kernel
theorem dX8_passes_108 : decode cX8_passes 108 = .ok (.iconst 0, 1) := by decide +kernel
theorem dX8_passes_109 : decode cX8_passes 109 = .ok (.istore_n 2, 1) := by decide +kernel
theorem dX8_passes_110 : decode cX8_passes 110 = .ok (.iload_n 2, 1) := by decide +kernel
theorem dX8_passes_111 : decode cX8_passes 111 = .ok (.aload_n 0, 1) := by decide +kernel
theorem dX8_passes_112 : decode cX8_passes 112 = .ok (.getfield 7, 3) := by decide +kernel
theorem dX8_passes_115 : decode cX8_passes 115 = .ok (.iconst 1, 1) := by decide +kernel
theorem dX8_passes_116 : decode cX8_passes 116 = .ok (.iaload, 1) := by decide +kernel
theorem dX8_passes_117 : decode cX8_passes 117 = .ok (.if_icmp .ge 48, 3) := by decide +kernel
theorem dX8_passes_120 : decode cX8_passes 120 = .ok (.aload_n 0, 1) := by decide +kernel
theorem dX8_passes_121 : decode cX8_passes 121 = .ok (.getfield 7, 3) := by decide +kernel
theorem dX8_passes_124 : decode cX8_passes 124 = .ok (.bipush 10, 2) := by decide +kernel
theorem dX8_passes_126 : decode cX8_passes 126 = .ok (.iload_n 2, 1) := by decide +kernel
theorem dX8_passes_127 : decode cX8_passes 127 = .ok (.iadd, 1) := by decide +kernel
theorem dX8_passes_128 : decode cX8_passes 128 = .ok (.iaload, 1) := by decide +kernel
theorem dX8_passes_129 : decode cX8_passes 129 = .ok (.istore_n 3, 1) := by decide +kernel
theorem dX8_passes_130 : decode cX8_passes 130 = .ok (.aload_n 0, 1) := by decide +kernel
theorem dX8_passes_131 : decode cX8_passes 131 = .ok (.getfield 7, 3) := by decide +kernel
theorem dX8_passes_134 : decode cX8_passes 134 = .ok (.bipush 10, 2) := by decide +kernel
theorem dX8_passes_136 : decode cX8_passes 136 = .ok (.iload_n 1, 1) := by decide +kernel
theorem dX8_passes_137 : decode cX8_passes 137 = .ok (.iadd, 1) := by decide +kernel
theorem dX8_passes_138 : decode cX8_passes 138 = .ok (.iload_n 3, 1) := by decide +kernel
theorem dX8_passes_139 : decode cX8_passes 139 = .ok (.iastore, 1) := by decide +kernel
theorem dX8_passes_140 : decode cX8_passes 140 = .ok (.iload_n 1, 1) := by decide +kernel
theorem dX8_passes_141 : decode cX8_passes 141 = .ok (.aload_n 0, 1) := by decide +kernel
theorem dX8_passes_142 : decode cX8_passes 142 = .ok (.getfield 7, 3) := by decide +kernel
theorem dX8_passes_145 : decode cX8_passes 145 = .ok (.iconst 4, 1) := by decide +kernel
theorem dX8_passes_146 : decode cX8_passes 146 = .ok (.iload_n 3, 1) := by decide +kernel
theorem dX8_passes_147 : decode cX8_passes 147 = .ok (.iadd, 1) := by decide +kernel
theorem dX8_passes_148 : decode cX8_passes 148 = .ok (.iaload, 1) := by decide +kernel
theorem dX8_passes_149 : decode cX8_passes 149 = .ok (.ifCond .le 7, 3) := by decide +kernel
theorem dX8_passes_152 : decode cX8_passes 152 = .ok (.iconst 1, 1) := by decide +kernel
theorem dX8_passes_153 : decode cX8_passes 153 = .ok (.goto 4, 3) := by decide +kernel
theorem dX8_passes_156 : decode cX8_passes 156 = .ok (.iconst 0, 1) := by decide +kernel
theorem dX8_passes_157 : decode cX8_passes 157 = .ok (.iadd, 1) := by decide +kernel
theorem dX8_passes_158 : decode cX8_passes 158 = .ok (.istore_n 1, 1) := by decide +kernel
theorem dX8_passes_159 : decode cX8_passes 159 = .ok (.iinc 2 1, 3) := by decide +kernel
theorem dX8_passes_162 : decode cX8_passes 162 = .ok (.goto (-52), 3) := by decide +kernel
theorem dX8_passes_165 : decode cX8_passes 165 = .ok (.aload_n 0, 1) := by decide +kernel
theorem dX8_passes_166 : decode cX8_passes 166 = .ok (.getfield 7, 3) := by decide +kernel
theorem dX8_passes_169 : decode cX8_passes 169 = .ok (.iconst 1, 1) := by decide +kernel
theorem dX8_passes_170 : decode cX8_passes 170 = .ok (.iload_n 1, 1) := by decide +kernel
theorem dX8_passes_171 : decode cX8_passes 171 = .ok (.iastore, 1) := by decide +kernel
theorem dX8_passes_172 : decode cX8_passes 172 = .ok (.aload_n 0, 1) := by decide +kernel
theorem dX8_passes_173 : decode cX8_passes 173 = .ok (.getfield 7, 3) := by decide +kernel
theorem dX8_passes_176 : decode cX8_passes 176 = .ok (.iconst 2, 1) := by decide +kernel
theorem dX8_passes_177 : decode cX8_passes 177 = .ok (.dup2, 1) := by decide +kernel
theorem dX8_passes_178 : decode cX8_passes 178 = .ok (.iaload, 1) := by decide +kernel
theorem dX8_passes_179 : decode cX8_passes 179 = .ok (.iconst 1, 1) := by decide +kernel
theorem dX8_passes_180 : decode cX8_passes 180 = .ok (.iadd, 1) := by decide +kernel
theorem dX8_passes_181 : decode cX8_passes 181 = .ok (.iastore, 1) := by decide +kernel
theorem dX8_passes_182 : decode cX8_passes 182 = .ok (.return_, 1) := by decide +kernel
theorem dX8_of_0 : decode cX8_of 0 = .ok (.aload_n 0, 1) := by decide +kernel
theorem dX8_of_1 : decode cX8_of 1 = .ok (.iload_n 1, 1) := by decide +kernel
theorem dX8_of_2 : decode cX8_of 2 = .ok (.invokevirtual 52, 3) := by decide +kernel
theorem dX8_of_5 : decode cX8_of 5 = .ok (.ifCond .eq 13, 3) := by decide +kernel
theorem dX8_of_8 : decode cX8_of 8 = .ok (.iload_n 2, 1) := by decide +kernel
theorem dX8_of_9 : decode cX8_of 9 = .ok (.iconst 0, 1) := by decide +kernel
theorem dX8_of_10 : decode cX8_of 10 = .ok (.bipush 8, 2) := by decide +kernel
theorem dX8_of_12 : decode cX8_of 12 = .ok (.invokestatic 44, 3) := by decide +kernel
theorem dX8_of_15 : decode cX8_of 15 = .ok (.ifCond .ne 5, 3) := by decide +kernel
theorem dX8_of_18 : decode cX8_of 18 = .ok (.iconst (-1), 1) := by decide +kernel
theorem dX8_of_19 : decode cX8_of 19 = .ok (.ireturn, 1) := by decide +kernel
theorem dX8_of_20 : decode cX8_of 20 = .ok (.iload_n 2, 1) := by decide +kernel
theorem dX8_of_21 : decode cX8_of 21 = .ok (.tableswitch 108 0 8 #[51, 61, 70, 108, 108, 108, 76, 82, 88], 51) := by decide +kernel
theorem dX8_of_72 : decode cX8_of 72 = .ok (.aload_n 0, 1) := by decide +kernel
theorem dX8_of_73 : decode cX8_of 73 = .ok (.getfield 7, 3) := by decide +kernel
theorem dX8_of_76 : decode cX8_of 76 = .ok (.bipush 16, 2) := by decide +kernel
theorem dX8_of_78 : decode cX8_of 78 = .ok (.iload_n 1, 1) := by decide +kernel
theorem dX8_of_79 : decode cX8_of 79 = .ok (.iadd, 1) := by decide +kernel
theorem dX8_of_80 : decode cX8_of 80 = .ok (.iaload, 1) := by decide +kernel
theorem dX8_of_81 : decode cX8_of 81 = .ok (.ireturn, 1) := by decide +kernel
theorem dX8_of_82 : decode cX8_of 82 = .ok (.aload_n 0, 1) := by decide +kernel
theorem dX8_of_83 : decode cX8_of 83 = .ok (.getfield 7, 3) := by decide +kernel
theorem dX8_of_86 : decode cX8_of 86 = .ok (.iconst 4, 1) := by decide +kernel
theorem dX8_of_87 : decode cX8_of 87 = .ok (.iload_n 1, 1) := by decide +kernel
theorem dX8_of_88 : decode cX8_of 88 = .ok (.iadd, 1) := by decide +kernel
theorem dX8_of_89 : decode cX8_of 89 = .ok (.iaload, 1) := by decide +kernel
theorem dX8_of_90 : decode cX8_of 90 = .ok (.ireturn, 1) := by decide +kernel
theorem dX8_of_91 : decode cX8_of 91 = .ok (.aload_n 0, 1) := by decide +kernel
theorem dX8_of_92 : decode cX8_of 92 = .ok (.iload_n 1, 1) := by decide +kernel
theorem dX8_of_93 : decode cX8_of 93 = .ok (.invokevirtual 59, 3) := by decide +kernel
theorem dX8_of_96 : decode cX8_of 96 = .ok (.ireturn, 1) := by decide +kernel
theorem dX8_of_97 : decode cX8_of 97 = .ok (.aload_n 0, 1) := by decide +kernel
theorem dX8_of_98 : decode cX8_of 98 = .ok (.iload_n 1, 1) := by decide +kernel
theorem dX8_of_99 : decode cX8_of 99 = .ok (.invokevirtual 69, 3) := by decide +kernel
theorem dX8_of_102 : decode cX8_of 102 = .ok (.ireturn, 1) := by decide +kernel
theorem dX8_of_103 : decode cX8_of 103 = .ok (.aload_n 0, 1) := by decide +kernel
theorem dX8_of_104 : decode cX8_of 104 = .ok (.iload_n 1, 1) := by decide +kernel
theorem dX8_of_105 : decode cX8_of 105 = .ok (.invokevirtual 66, 3) := by decide +kernel
theorem dX8_of_108 : decode cX8_of 108 = .ok (.ireturn, 1) := by decide +kernel
theorem dX8_of_109 : decode cX8_of 109 = .ok (.aload_n 0, 1) := by decide +kernel
theorem dX8_of_110 : decode cX8_of 110 = .ok (.iload_n 1, 1) := by decide +kernel
theorem dX8_of_111 : decode cX8_of 111 = .ok (.invokevirtual 59, 3) := by decide +kernel
theorem dX8_of_114 : decode cX8_of 114 = .ok (.bipush (-4), 2) := by decide +kernel
theorem dX8_of_116 : decode cX8_of 116 = .ok (.if_icmp .ne 7, 3) := by decide +kernel
theorem dX8_of_119 : decode cX8_of 119 = .ok (.iconst 0, 1) := by decide +kernel
theorem dX8_of_120 : decode cX8_of 120 = .ok (.goto 8, 3) := by decide +kernel
theorem dX8_of_123 : decode cX8_of 123 = .ok (.aload_n 0, 1) := by decide +kernel
theorem dX8_of_124 : decode cX8_of 124 = .ok (.iload_n 1, 1) := by decide +kernel
theorem dX8_of_125 : decode cX8_of 125 = .ok (.invokevirtual 82, 3) := by decide +kernel
theorem dX8_of_128 : decode cX8_of 128 = .ok (.ireturn, 1) := by decide +kernel
theorem dX8_of_129 : decode cX8_of 129 = .ok (.aload_n 0, 1) := by decide +kernel
theorem dX8_of_130 : decode cX8_of 130 = .ok (.getfield 7, 3) := by decide +kernel
theorem dX8_of_133 : decode cX8_of 133 = .ok (.bipush 22, 2) := by decide +kernel
theorem dX8_of_135 : decode cX8_of 135 = .ok (.iconst 3, 1) := by decide +kernel
theorem dX8_of_136 : decode cX8_of 136 = .ok (.iload_n 1, 1) := by decide +kernel
theorem dX8_of_137 : decode cX8_of 137 = .ok (.imul, 1) := by decide +kernel
theorem dX8_of_138 : decode cX8_of 138 = .ok (.iadd, 1) := by decide +kernel
theorem dX8_of_139 : decode cX8_of 139 = .ok (.iload_n 2, 1) := by decide +kernel
theorem dX8_of_140 : decode cX8_of 140 = .ok (.iadd, 1) := by decide +kernel
theorem dX8_of_141 : decode cX8_of 141 = .ok (.iconst 3, 1) := by decide +kernel
theorem dX8_of_142 : decode cX8_of 142 = .ok (.isub, 1) := by decide +kernel
theorem dX8_of_143 : decode cX8_of 143 = .ok (.iaload, 1) := by decide +kernel
theorem dX8_of_144 : decode cX8_of 144 = .ok (.ireturn, 1) := by decide +kernel
theorem dX8_seat_0 : decode cX8_seat 0 = .ok (.iload_n 1, 1) := by decide +kernel
theorem dX8_seat_1 : decode cX8_seat 1 = .ok (.ifCond .ge 7, 3) := by decide +kernel
theorem dX8_seat_4 : decode cX8_seat 4 = .ok (.iconst (-1), 1) := by decide +kernel
theorem dX8_seat_5 : decode cX8_seat 5 = .ok (.goto 8, 3) := by decide +kernel
theorem dX8_seat_8 : decode cX8_seat 8 = .ok (.aload_n 0, 1) := by decide +kernel
theorem dX8_seat_9 : decode cX8_seat 9 = .ok (.iload_n 1, 1) := by decide +kernel
theorem dX8_seat_10 : decode cX8_seat 10 = .ok (.invokevirtual 63, 3) := by decide +kernel
theorem dX8_seat_13 : decode cX8_seat 13 = .ok (.ireturn, 1) := by decide +kernel
theorem dX8_type_0 : decode cX8_type 0 = .ok (.iload_n 1, 1) := by decide +kernel
theorem dX8_type_1 : decode cX8_type 1 = .ok (.bipush 32, 2) := by decide +kernel
theorem dX8_type_3 : decode cX8_type 3 = .ok (.bipush 126, 2) := by decide +kernel
theorem dX8_type_5 : decode cX8_type 5 = .ok (.invokestatic 44, 3) := by decide +kernel
theorem dX8_type_8 : decode cX8_type 8 = .ok (.ifCond .ne 5, 3) := by decide +kernel
theorem dX8_type_11 : decode cX8_type 11 = .ok (.iconst (-1), 1) := by decide +kernel
theorem dX8_type_12 : decode cX8_type 12 = .ok (.ireturn, 1) := by decide +kernel
theorem dX8_type_13 : decode cX8_type 13 = .ok (.aload_n 0, 1) := by decide +kernel
theorem dX8_type_14 : decode cX8_type 14 = .ok (.getfield 85, 3) := by decide +kernel
theorem dX8_type_17 : decode cX8_type 17 = .ok (.bipush 70, 2) := by decide +kernel
theorem dX8_type_19 : decode cX8_type 19 = .ok (.if_icmp .ne 6, 3) := by decide +kernel
theorem dX8_type_22 : decode cX8_type 22 = .ok (.bipush (-3), 2) := by decide +kernel
theorem dX8_type_24 : decode cX8_type 24 = .ok (.ireturn, 1) := by decide +kernel
theorem dX8_type_25 : decode cX8_type 25 = .ok (.aload_n 0, 1) := by decide +kernel
theorem dX8_type_26 : decode cX8_type 26 = .ok (.getfield 16, 3) := by decide +kernel
theorem dX8_type_29 : decode cX8_type 29 = .ok (.aload_n 0, 1) := by decide +kernel
theorem dX8_type_30 : decode cX8_type 30 = .ok (.getfield 85, 3) := by decide +kernel
theorem dX8_type_33 : decode cX8_type 33 = .ok (.iload_n 1, 1) := by decide +kernel
theorem dX8_type_34 : decode cX8_type 34 = .ok (.iastore, 1) := by decide +kernel
theorem dX8_type_35 : decode cX8_type 35 = .ok (.aload_n 0, 1) := by decide +kernel
theorem dX8_type_36 : decode cX8_type 36 = .ok (.dup, 1) := by decide +kernel
theorem dX8_type_37 : decode cX8_type 37 = .ok (.getfield 85, 3) := by decide +kernel
theorem dX8_type_40 : decode cX8_type 40 = .ok (.iconst 1, 1) := by decide +kernel
theorem dX8_type_41 : decode cX8_type 41 = .ok (.iadd, 1) := by decide +kernel
theorem dX8_type_42 : decode cX8_type 42 = .ok (.putfield 85, 3) := by decide +kernel
theorem dX8_type_45 : decode cX8_type 45 = .ok (.aload_n 0, 1) := by decide +kernel
theorem dX8_type_46 : decode cX8_type 46 = .ok (.getfield 85, 3) := by decide +kernel
theorem dX8_type_49 : decode cX8_type 49 = .ok (.ireturn, 1) := by decide +kernel
theorem dX8_letterAt_0 : decode cX8_letterAt 0 = .ok (.iload_n 1, 1) := by decide +kernel
theorem dX8_letterAt_1 : decode cX8_letterAt 1 = .ok (.aload_n 0, 1) := by decide +kernel
theorem dX8_letterAt_2 : decode cX8_letterAt 2 = .ok (.getfield 85, 3) := by decide +kernel
theorem dX8_letterAt_5 : decode cX8_letterAt 5 = .ok (.if_icmp .ge 12, 3) := by decide +kernel
theorem dX8_letterAt_8 : decode cX8_letterAt 8 = .ok (.aload_n 0, 1) := by decide +kernel
theorem dX8_letterAt_9 : decode cX8_letterAt 9 = .ok (.getfield 16, 3) := by decide +kernel
theorem dX8_letterAt_12 : decode cX8_letterAt 12 = .ok (.iload_n 1, 1) := by decide +kernel
theorem dX8_letterAt_13 : decode cX8_letterAt 13 = .ok (.iaload, 1) := by decide +kernel
theorem dX8_letterAt_14 : decode cX8_letterAt 14 = .ok (.goto 4, 3) := by decide +kernel
theorem dX8_letterAt_17 : decode cX8_letterAt 17 = .ok (.iconst (-1), 1) := by decide +kernel
theorem dX8_letterAt_18 : decode cX8_letterAt 18 = .ok (.ireturn, 1) := by decide +kernel
theorem dX8_isDigit_0 : decode cX8_isDigit 0 = .ok (.iload_n 0, 1) := by decide +kernel
theorem dX8_isDigit_1 : decode cX8_isDigit 1 = .ok (.bipush 48, 2) := by decide +kernel
theorem dX8_isDigit_3 : decode cX8_isDigit 3 = .ok (.bipush 57, 2) := by decide +kernel
theorem dX8_isDigit_5 : decode cX8_isDigit 5 = .ok (.invokestatic 44, 3) := by decide +kernel
theorem dX8_isDigit_8 : decode cX8_isDigit 8 = .ok (.ireturn, 1) := by decide +kernel
theorem dX8_skips_0 : decode cX8_skips 0 = .ok (.aload_n 0, 1) := by decide +kernel
theorem dX8_skips_1 : decode cX8_skips 1 = .ok (.aload_n 0, 1) := by decide +kernel
theorem dX8_skips_2 : decode cX8_skips 2 = .ok (.getfield 89, 3) := by decide +kernel
theorem dX8_skips_5 : decode cX8_skips 5 = .ok (.invokevirtual 92, 3) := by decide +kernel
theorem dX8_skips_8 : decode cX8_skips 8 = .ok (.bipush 32, 2) := by decide +kernel
theorem dX8_skips_10 : decode cX8_skips 10 = .ok (.if_icmp .ne 16, 3) := by decide +kernel
theorem dX8_skips_13 : decode cX8_skips 13 = .ok (.aload_n 0, 1) := by decide +kernel
theorem dX8_skips_14 : decode cX8_skips 14 = .ok (.dup, 1) := by decide +kernel
theorem dX8_skips_15 : decode cX8_skips 15 = .ok (.getfield 89, 3) := by decide +kernel
theorem dX8_skips_18 : decode cX8_skips 18 = .ok (.iconst 1, 1) := by decide +kernel
theorem dX8_skips_19 : decode cX8_skips 19 = .ok (.iadd, 1) := by decide +kernel
theorem dX8_skips_20 : decode cX8_skips 20 = .ok (.putfield 89, 3) := by decide +kernel
theorem dX8_skips_23 : decode cX8_skips 23 = .ok (.goto (-23), 3) := by decide +kernel
theorem dX8_skips_26 : decode cX8_skips 26 = .ok (.aload_n 0, 1) := by decide +kernel
theorem dX8_skips_27 : decode cX8_skips 27 = .ok (.aload_n 0, 1) := by decide +kernel
theorem dX8_skips_28 : decode cX8_skips 28 = .ok (.getfield 89, 3) := by decide +kernel
theorem dX8_skips_31 : decode cX8_skips 31 = .ok (.invokevirtual 92, 3) := by decide +kernel
theorem dX8_skips_34 : decode cX8_skips 34 = .ok (.ireturn, 1) := by decide +kernel
theorem dX8_kindBy_0 : decode cX8_kindBy 0 = .ok (.iload_n 0, 1) := by decide +kernel
theorem dX8_kindBy_1 : decode cX8_kindBy 1 = .ok (.bipush 112, 2) := by decide +kernel
theorem dX8_kindBy_3 : decode cX8_kindBy 3 = .ok (.if_icmp .ne 7, 3) := by decide +kernel
theorem dX8_kindBy_6 : decode cX8_kindBy 6 = .ok (.iconst 0, 1) := by decide +kernel
theorem dX8_kindBy_7 : decode cX8_kindBy 7 = .ok (.goto 45, 3) := by decide +kernel
theorem dX8_kindBy_10 : decode cX8_kindBy 10 = .ok (.iload_n 0, 1) := by decide +kernel
theorem dX8_kindBy_11 : decode cX8_kindBy 11 = .ok (.bipush 104, 2) := by decide +kernel
theorem dX8_kindBy_13 : decode cX8_kindBy 13 = .ok (.if_icmp .ne 7, 3) := by decide +kernel
theorem dX8_kindBy_16 : decode cX8_kindBy 16 = .ok (.iconst 1, 1) := by decide +kernel
theorem dX8_kindBy_17 : decode cX8_kindBy 17 = .ok (.goto 35, 3) := by decide +kernel
theorem dX8_kindBy_20 : decode cX8_kindBy 20 = .ok (.iload_n 0, 1) := by decide +kernel
theorem dX8_kindBy_21 : decode cX8_kindBy 21 = .ok (.bipush 117, 2) := by decide +kernel
theorem dX8_kindBy_23 : decode cX8_kindBy 23 = .ok (.if_icmp .ne 7, 3) := by decide +kernel
theorem dX8_kindBy_26 : decode cX8_kindBy 26 = .ok (.iconst 2, 1) := by decide +kernel
theorem dX8_kindBy_27 : decode cX8_kindBy 27 = .ok (.goto 25, 3) := by decide +kernel
theorem dX8_kindBy_30 : decode cX8_kindBy 30 = .ok (.iload_n 0, 1) := by decide +kernel
theorem dX8_kindBy_31 : decode cX8_kindBy 31 = .ok (.bipush 100, 2) := by decide +kernel
theorem dX8_kindBy_33 : decode cX8_kindBy 33 = .ok (.if_icmp .ne 7, 3) := by decide +kernel
theorem dX8_kindBy_36 : decode cX8_kindBy 36 = .ok (.iconst 3, 1) := by decide +kernel
theorem dX8_kindBy_37 : decode cX8_kindBy 37 = .ok (.goto 15, 3) := by decide +kernel
theorem dX8_kindBy_40 : decode cX8_kindBy 40 = .ok (.iload_n 0, 1) := by decide +kernel
theorem dX8_kindBy_41 : decode cX8_kindBy 41 = .ok (.bipush 114, 2) := by decide +kernel
theorem dX8_kindBy_43 : decode cX8_kindBy 43 = .ok (.if_icmp .ne 7, 3) := by decide +kernel
theorem dX8_kindBy_46 : decode cX8_kindBy 46 = .ok (.iconst 4, 1) := by decide +kernel
theorem dX8_kindBy_47 : decode cX8_kindBy 47 = .ok (.goto 5, 3) := by decide +kernel
theorem dX8_kindBy_50 : decode cX8_kindBy 50 = .ok (.bipush (-4), 2) := by decide +kernel
theorem dX8_kindBy_52 : decode cX8_kindBy 52 = .ok (.ireturn, 1) := by decide +kernel
theorem dX8_isTold_0 : decode cX8_isTold 0 = .ok (.iconst 0, 1) := by decide +kernel
theorem dX8_isTold_1 : decode cX8_isTold 1 = .ok (.istore 4, 2) := by decide +kernel
theorem dX8_isTold_3 : decode cX8_isTold 3 = .ok (.iconst 0, 1) := by decide +kernel
theorem dX8_isTold_4 : decode cX8_isTold 4 = .ok (.istore 5, 2) := by decide +kernel
theorem dX8_isTold_6 : decode cX8_isTold 6 = .ok (.iload 5, 2) := by decide +kernel
theorem dX8_isTold_8 : decode cX8_isTold 8 = .ok (.iload_n 1, 1) := by decide +kernel
theorem dX8_isTold_9 : decode cX8_isTold 9 = .ok (.if_icmp .ge 39, 3) := by decide +kernel
theorem dX8_isTold_12 : decode cX8_isTold 12 = .ok (.iload 4, 2) := by decide +kernel
theorem dX8_isTold_14 : decode cX8_isTold 14 = .ok (.ifCond .ne 21, 3) := by decide +kernel
theorem dX8_isTold_17 : decode cX8_isTold 17 = .ok (.aload_n 0, 1) := by decide +kernel
theorem dX8_isTold_18 : decode cX8_isTold 18 = .ok (.getfield 19, 3) := by decide +kernel
theorem dX8_isTold_21 : decode cX8_isTold 21 = .ok (.bipush 22, 2) := by decide +kernel
theorem dX8_isTold_23 : decode cX8_isTold 23 = .ok (.iconst 3, 1) := by decide +kernel
theorem dX8_isTold_24 : decode cX8_isTold 24 = .ok (.iload 5, 2) := by decide +kernel
theorem dX8_isTold_26 : decode cX8_isTold 26 = .ok (.imul, 1) := by decide +kernel
theorem dX8_isTold_27 : decode cX8_isTold 27 = .ok (.iadd, 1) := by decide +kernel
theorem dX8_isTold_28 : decode cX8_isTold 28 = .ok (.iload_n 2, 1) := by decide +kernel
theorem dX8_isTold_29 : decode cX8_isTold 29 = .ok (.iadd, 1) := by decide +kernel
theorem dX8_isTold_30 : decode cX8_isTold 30 = .ok (.iaload, 1) := by decide +kernel
theorem dX8_isTold_31 : decode cX8_isTold 31 = .ok (.iload_n 3, 1) := by decide +kernel
theorem dX8_isTold_32 : decode cX8_isTold 32 = .ok (.if_icmp .ne 7, 3) := by decide +kernel
theorem dX8_isTold_35 : decode cX8_isTold 35 = .ok (.iconst 1, 1) := by decide +kernel
theorem dX8_isTold_36 : decode cX8_isTold 36 = .ok (.goto 4, 3) := by decide +kernel
theorem dX8_isTold_39 : decode cX8_isTold 39 = .ok (.iconst 0, 1) := by decide +kernel
theorem dX8_isTold_40 : decode cX8_isTold 40 = .ok (.istore 4, 2) := by decide +kernel
theorem dX8_isTold_42 : decode cX8_isTold 42 = .ok (.iinc 5 1, 3) := by decide +kernel
theorem dX8_isTold_45 : decode cX8_isTold 45 = .ok (.goto (-39), 3) := by decide +kernel
theorem dX8_isTold_48 : decode cX8_isTold 48 = .ok (.iload 4, 2) := by decide +kernel
theorem dX8_isTold_50 : decode cX8_isTold 50 = .ok (.ireturn, 1) := by decide +kernel
theorem dX8_readsMan_0 : decode cX8_readsMan 0 = .ok (.aload_n 0, 1) := by decide +kernel
theorem dX8_readsMan_1 : decode cX8_readsMan 1 = .ok (.invokevirtual 95, 3) := by decide +kernel
theorem dX8_readsMan_4 : decode cX8_readsMan 4 = .ok (.invokestatic 98, 3) := by decide +kernel
theorem dX8_readsMan_7 : decode cX8_readsMan 7 = .ok (.istore_n 2, 1) := by decide +kernel
theorem dX8_readsMan_8 : decode cX8_readsMan 8 = .ok (.aload_n 0, 1) := by decide +kernel
theorem dX8_readsMan_9 : decode cX8_readsMan 9 = .ok (.getfield 89, 3) := by decide +kernel
theorem dX8_readsMan_12 : decode cX8_readsMan 12 = .ok (.istore_n 3, 1) := by decide +kernel
theorem dX8_readsMan_13 : decode cX8_readsMan 13 = .ok (.iload_n 2, 1) := by decide +kernel
theorem dX8_readsMan_14 : decode cX8_readsMan 14 = .ok (.bipush (-4), 2) := by decide +kernel
theorem dX8_readsMan_16 : decode cX8_readsMan 16 = .ok (.if_icmp .ne 5, 3) := by decide +kernel
theorem dX8_readsMan_19 : decode cX8_readsMan 19 = .ok (.iconst 0, 1) := by decide +kernel
theorem dX8_readsMan_20 : decode cX8_readsMan 20 = .ok (.ireturn, 1) := by decide +kernel
theorem dX8_readsMan_21 : decode cX8_readsMan 21 = .ok (.aload_n 0, 1) := by decide +kernel
theorem dX8_readsMan_22 : decode cX8_readsMan 22 = .ok (.dup, 1) := by decide +kernel
theorem dX8_readsMan_23 : decode cX8_readsMan 23 = .ok (.getfield 89, 3) := by decide +kernel
theorem dX8_readsMan_26 : decode cX8_readsMan 26 = .ok (.iconst 1, 1) := by decide +kernel
theorem dX8_readsMan_27 : decode cX8_readsMan 27 = .ok (.iadd, 1) := by decide +kernel
theorem dX8_readsMan_28 : decode cX8_readsMan 28 = .ok (.putfield 89, 3) := by decide +kernel
theorem dX8_readsMan_31 : decode cX8_readsMan 31 = .ok (.aload_n 0, 1) := by decide +kernel
theorem dX8_readsMan_32 : decode cX8_readsMan 32 = .ok (.invokevirtual 95, 3) := by decide +kernel
theorem dX8_readsMan_35 : decode cX8_readsMan 35 = .ok (.invokestatic 101, 3) := by decide +kernel
theorem dX8_readsMan_38 : decode cX8_readsMan 38 = .ok (.ifCond .ne 5, 3) := by decide +kernel
theorem dX8_readsMan_41 : decode cX8_readsMan 41 = .ok (.iconst 0, 1) := by decide +kernel
theorem dX8_readsMan_42 : decode cX8_readsMan 42 = .ok (.ireturn, 1) := by decide +kernel
theorem dX8_readsMan_43 : decode cX8_readsMan 43 = .ok (.aload_n 0, 1) := by decide +kernel
theorem dX8_readsMan_44 : decode cX8_readsMan 44 = .ok (.getfield 89, 3) := by decide +kernel
theorem dX8_readsMan_47 : decode cX8_readsMan 47 = .ok (.istore 4, 2) := by decide +kernel
theorem dX8_readsMan_49 : decode cX8_readsMan 49 = .ok (.aload_n 0, 1) := by decide +kernel
theorem dX8_readsMan_50 : decode cX8_readsMan 50 = .ok (.getfield 16, 3) := by decide +kernel
theorem dX8_readsMan_53 : decode cX8_readsMan 53 = .ok (.aload_n 0, 1) := by decide +kernel
theorem dX8_readsMan_54 : decode cX8_readsMan 54 = .ok (.getfield 89, 3) := by decide +kernel
theorem dX8_readsMan_57 : decode cX8_readsMan 57 = .ok (.iaload, 1) := by decide +kernel
theorem dX8_readsMan_58 : decode cX8_readsMan 58 = .ok (.bipush 48, 2) := by decide +kernel
theorem dX8_readsMan_60 : decode cX8_readsMan 60 = .ok (.isub, 1) := by decide +kernel
theorem dX8_readsMan_61 : decode cX8_readsMan 61 = .ok (.istore 5, 2) := by decide +kernel
theorem dX8_readsMan_63 : decode cX8_readsMan 63 = .ok (.aload_n 0, 1) := by decide +kernel
theorem dX8_readsMan_64 : decode cX8_readsMan 64 = .ok (.dup, 1) := by decide +kernel
theorem dX8_readsMan_65 : decode cX8_readsMan 65 = .ok (.getfield 89, 3) := by decide +kernel
theorem dX8_readsMan_68 : decode cX8_readsMan 68 = .ok (.iconst 1, 1) := by decide +kernel
theorem dX8_readsMan_69 : decode cX8_readsMan 69 = .ok (.iadd, 1) := by decide +kernel
theorem dX8_readsMan_70 : decode cX8_readsMan 70 = .ok (.putfield 89, 3) := by decide +kernel
theorem dX8_readsMan_73 : decode cX8_readsMan 73 = .ok (.aload_n 0, 1) := by decide +kernel
theorem dX8_readsMan_74 : decode cX8_readsMan 74 = .ok (.aload_n 0, 1) := by decide +kernel
theorem dX8_readsMan_75 : decode cX8_readsMan 75 = .ok (.getfield 89, 3) := by decide +kernel
theorem dX8_readsMan_78 : decode cX8_readsMan 78 = .ok (.invokevirtual 92, 3) := by decide +kernel
theorem dX8_readsMan_81 : decode cX8_readsMan 81 = .ok (.invokestatic 101, 3) := by decide +kernel
theorem dX8_readsMan_84 : decode cX8_readsMan 84 = .ok (.ifCond .eq 33, 3) := by decide +kernel
theorem dX8_readsMan_87 : decode cX8_readsMan 87 = .ok (.bipush 10, 2) := by decide +kernel
theorem dX8_readsMan_89 : decode cX8_readsMan 89 = .ok (.iload 5, 2) := by decide +kernel
theorem dX8_readsMan_91 : decode cX8_readsMan 91 = .ok (.imul, 1) := by decide +kernel
theorem dX8_readsMan_92 : decode cX8_readsMan 92 = .ok (.aload_n 0, 1) := by decide +kernel
theorem dX8_readsMan_93 : decode cX8_readsMan 93 = .ok (.getfield 16, 3) := by decide +kernel
theorem dX8_readsMan_96 : decode cX8_readsMan 96 = .ok (.aload_n 0, 1) := by decide +kernel
theorem dX8_readsMan_97 : decode cX8_readsMan 97 = .ok (.getfield 89, 3) := by decide +kernel
theorem dX8_readsMan_100 : decode cX8_readsMan 100 = .ok (.iaload, 1) := by decide +kernel
theorem dX8_readsMan_101 : decode cX8_readsMan 101 = .ok (.iadd, 1) := by decide +kernel
theorem dX8_readsMan_102 : decode cX8_readsMan 102 = .ok (.bipush 48, 2) := by decide +kernel
theorem dX8_readsMan_104 : decode cX8_readsMan 104 = .ok (.isub, 1) := by decide +kernel
theorem dX8_readsMan_105 : decode cX8_readsMan 105 = .ok (.istore 5, 2) := by decide +kernel
theorem dX8_readsMan_107 : decode cX8_readsMan 107 = .ok (.aload_n 0, 1) := by decide +kernel
theorem dX8_readsMan_108 : decode cX8_readsMan 108 = .ok (.dup, 1) := by decide +kernel
theorem dX8_readsMan_109 : decode cX8_readsMan 109 = .ok (.getfield 89, 3) := by decide +kernel
theorem dX8_readsMan_112 : decode cX8_readsMan 112 = .ok (.iconst 1, 1) := by decide +kernel
theorem dX8_readsMan_113 : decode cX8_readsMan 113 = .ok (.iadd, 1) := by decide +kernel
theorem dX8_readsMan_114 : decode cX8_readsMan 114 = .ok (.putfield 89, 3) := by decide +kernel
theorem dX8_readsMan_117 : decode cX8_readsMan 117 = .ok (.iload 5, 2) := by decide +kernel
theorem dX8_readsMan_119 : decode cX8_readsMan 119 = .ok (.iconst 1, 1) := by decide +kernel
theorem dX8_readsMan_120 : decode cX8_readsMan 120 = .ok (.bipush 60, 2) := by decide +kernel
theorem dX8_readsMan_122 : decode cX8_readsMan 122 = .ok (.invokestatic 44, 3) := by decide +kernel
theorem dX8_readsMan_125 : decode cX8_readsMan 125 = .ok (.ifCond .ne 11, 3) := by decide +kernel
theorem dX8_readsMan_128 : decode cX8_readsMan 128 = .ok (.aload_n 0, 1) := by decide +kernel
theorem dX8_readsMan_129 : decode cX8_readsMan 129 = .ok (.iload 4, 2) := by decide +kernel
theorem dX8_readsMan_131 : decode cX8_readsMan 131 = .ok (.putfield 89, 3) := by decide +kernel
theorem dX8_readsMan_134 : decode cX8_readsMan 134 = .ok (.iconst 0, 1) := by decide +kernel
theorem dX8_readsMan_135 : decode cX8_readsMan 135 = .ok (.ireturn, 1) := by decide +kernel
theorem dX8_readsMan_136 : decode cX8_readsMan 136 = .ok (.aload_n 0, 1) := by decide +kernel
theorem dX8_readsMan_137 : decode cX8_readsMan 137 = .ok (.getfield 19, 3) := by decide +kernel
theorem dX8_readsMan_140 : decode cX8_readsMan 140 = .ok (.bipush 16, 2) := by decide +kernel
theorem dX8_readsMan_142 : decode cX8_readsMan 142 = .ok (.iload_n 1, 1) := by decide +kernel
theorem dX8_readsMan_143 : decode cX8_readsMan 143 = .ok (.iadd, 1) := by decide +kernel
theorem dX8_readsMan_144 : decode cX8_readsMan 144 = .ok (.iload_n 2, 1) := by decide +kernel
theorem dX8_readsMan_145 : decode cX8_readsMan 145 = .ok (.iastore, 1) := by decide +kernel
theorem dX8_readsMan_146 : decode cX8_readsMan 146 = .ok (.aload_n 0, 1) := by decide +kernel
theorem dX8_readsMan_147 : decode cX8_readsMan 147 = .ok (.getfield 19, 3) := by decide +kernel
theorem dX8_readsMan_150 : decode cX8_readsMan 150 = .ok (.iconst 4, 1) := by decide +kernel
theorem dX8_readsMan_151 : decode cX8_readsMan 151 = .ok (.iload_n 1, 1) := by decide +kernel
theorem dX8_readsMan_152 : decode cX8_readsMan 152 = .ok (.iadd, 1) := by decide +kernel
theorem dX8_readsMan_153 : decode cX8_readsMan 153 = .ok (.iload 5, 2) := by decide +kernel
theorem dX8_readsMan_155 : decode cX8_readsMan 155 = .ok (.iastore, 1) := by decide +kernel
theorem dX8_readsMan_156 : decode cX8_readsMan 156 = .ok (.aload_n 0, 1) := by decide +kernel
theorem dX8_readsMan_157 : decode cX8_readsMan 157 = .ok (.getfield 19, 3) := by decide +kernel
theorem dX8_readsMan_160 : decode cX8_readsMan 160 = .ok (.bipush 10, 2) := by decide +kernel
theorem dX8_readsMan_162 : decode cX8_readsMan 162 = .ok (.iload_n 1, 1) := by decide +kernel
theorem dX8_readsMan_163 : decode cX8_readsMan 163 = .ok (.iadd, 1) := by decide +kernel
theorem dX8_readsMan_164 : decode cX8_readsMan 164 = .ok (.iload_n 1, 1) := by decide +kernel
theorem dX8_readsMan_165 : decode cX8_readsMan 165 = .ok (.iastore, 1) := by decide +kernel
theorem dX8_readsMan_166 : decode cX8_readsMan 166 = .ok (.aload_n 0, 1) := by decide +kernel
theorem dX8_readsMan_167 : decode cX8_readsMan 167 = .ok (.invokevirtual 95, 3) := by decide +kernel
theorem dX8_readsMan_170 : decode cX8_readsMan 170 = .ok (.bipush 46, 2) := by decide +kernel
theorem dX8_readsMan_172 : decode cX8_readsMan 172 = .ok (.if_icmp .eq 53, 3) := by decide +kernel
theorem dX8_readsMan_175 : decode cX8_readsMan 175 = .ok (.iconst 0, 1) := by decide +kernel
theorem dX8_readsMan_176 : decode cX8_readsMan 176 = .ok (.istore 6, 2) := by decide +kernel
theorem dX8_readsMan_178 : decode cX8_readsMan 178 = .ok (.iload 6, 2) := by decide +kernel
theorem dX8_readsMan_180 : decode cX8_readsMan 180 = .ok (.iconst 3, 1) := by decide +kernel
theorem dX8_readsMan_181 : decode cX8_readsMan 181 = .ok (.if_icmp .ge 42, 3) := by decide +kernel
theorem dX8_readsMan_184 : decode cX8_readsMan 184 = .ok (.aload_n 0, 1) := by decide +kernel
theorem dX8_readsMan_185 : decode cX8_readsMan 185 = .ok (.iload_n 1, 1) := by decide +kernel
theorem dX8_readsMan_186 : decode cX8_readsMan 186 = .ok (.iload 6, 2) := by decide +kernel
theorem dX8_readsMan_188 : decode cX8_readsMan 188 = .ok (.iload_n 1, 1) := by decide +kernel
theorem dX8_readsMan_189 : decode cX8_readsMan 189 = .ok (.invokevirtual 104, 3) := by decide +kernel
theorem dX8_readsMan_192 : decode cX8_readsMan 192 = .ok (.ifCond .eq 10, 3) := by decide +kernel
theorem dX8_readsMan_195 : decode cX8_readsMan 195 = .ok (.aload_n 0, 1) := by decide +kernel
theorem dX8_readsMan_196 : decode cX8_readsMan 196 = .ok (.iload_n 3, 1) := by decide +kernel
theorem dX8_readsMan_197 : decode cX8_readsMan 197 = .ok (.putfield 89, 3) := by decide +kernel
theorem dX8_readsMan_200 : decode cX8_readsMan 200 = .ok (.iconst 0, 1) := by decide +kernel
theorem dX8_readsMan_201 : decode cX8_readsMan 201 = .ok (.ireturn, 1) := by decide +kernel
theorem dX8_readsMan_202 : decode cX8_readsMan 202 = .ok (.aload_n 0, 1) := by decide +kernel
theorem dX8_readsMan_203 : decode cX8_readsMan 203 = .ok (.getfield 19, 3) := by decide +kernel
theorem dX8_readsMan_206 : decode cX8_readsMan 206 = .ok (.bipush 22, 2) := by decide +kernel
theorem dX8_readsMan_208 : decode cX8_readsMan 208 = .ok (.iconst 3, 1) := by decide +kernel
theorem dX8_readsMan_209 : decode cX8_readsMan 209 = .ok (.iload_n 1, 1) := by decide +kernel
theorem dX8_readsMan_210 : decode cX8_readsMan 210 = .ok (.imul, 1) := by decide +kernel
theorem dX8_readsMan_211 : decode cX8_readsMan 211 = .ok (.iadd, 1) := by decide +kernel
theorem dX8_readsMan_212 : decode cX8_readsMan 212 = .ok (.iload 6, 2) := by decide +kernel
theorem dX8_readsMan_214 : decode cX8_readsMan 214 = .ok (.iadd, 1) := by decide +kernel
theorem dX8_readsMan_215 : decode cX8_readsMan 215 = .ok (.iload_n 1, 1) := by decide +kernel
theorem dX8_readsMan_216 : decode cX8_readsMan 216 = .ok (.iastore, 1) := by decide +kernel
theorem dX8_readsMan_217 : decode cX8_readsMan 217 = .ok (.iinc 6 1, 3) := by decide +kernel
theorem dX8_readsMan_220 : decode cX8_readsMan 220 = .ok (.goto (-42), 3) := by decide +kernel
theorem dX8_readsMan_223 : decode cX8_readsMan 223 = .ok (.iconst 1, 1) := by decide +kernel
theorem dX8_readsMan_224 : decode cX8_readsMan 224 = .ok (.ireturn, 1) := by decide +kernel
theorem dX8_readsMan_225 : decode cX8_readsMan 225 = .ok (.aload_n 0, 1) := by decide +kernel
theorem dX8_readsMan_226 : decode cX8_readsMan 226 = .ok (.dup, 1) := by decide +kernel
theorem dX8_readsMan_227 : decode cX8_readsMan 227 = .ok (.getfield 89, 3) := by decide +kernel
theorem dX8_readsMan_230 : decode cX8_readsMan 230 = .ok (.iconst 1, 1) := by decide +kernel
theorem dX8_readsMan_231 : decode cX8_readsMan 231 = .ok (.iadd, 1) := by decide +kernel
theorem dX8_readsMan_232 : decode cX8_readsMan 232 = .ok (.putfield 89, 3) := by decide +kernel
theorem dX8_readsMan_235 : decode cX8_readsMan 235 = .ok (.iconst 0, 1) := by decide +kernel
theorem dX8_readsMan_236 : decode cX8_readsMan 236 = .ok (.istore 6, 2) := by decide +kernel
theorem dX8_readsMan_238 : decode cX8_readsMan 238 = .ok (.iload 6, 2) := by decide +kernel
theorem dX8_readsMan_240 : decode cX8_readsMan 240 = .ok (.iconst 3, 1) := by decide +kernel
theorem dX8_readsMan_241 : decode cX8_readsMan 241 = .ok (.if_icmp .ge 69, 3) := by decide +kernel
theorem dX8_readsMan_244 : decode cX8_readsMan 244 = .ok (.aload_n 0, 1) := by decide +kernel
theorem dX8_readsMan_245 : decode cX8_readsMan 245 = .ok (.invokevirtual 95, 3) := by decide +kernel
theorem dX8_readsMan_248 : decode cX8_readsMan 248 = .ok (.istore 7, 2) := by decide +kernel
theorem dX8_readsMan_250 : decode cX8_readsMan 250 = .ok (.iload 7, 2) := by decide +kernel
theorem dX8_readsMan_252 : decode cX8_readsMan 252 = .ok (.invokestatic 101, 3) := by decide +kernel
theorem dX8_readsMan_255 : decode cX8_readsMan 255 = .ok (.ifCond .eq 18, 3) := by decide +kernel
theorem dX8_readsMan_258 : decode cX8_readsMan 258 = .ok (.aload_n 0, 1) := by decide +kernel
theorem dX8_readsMan_259 : decode cX8_readsMan 259 = .ok (.iload_n 1, 1) := by decide +kernel
theorem dX8_readsMan_260 : decode cX8_readsMan 260 = .ok (.iload 6, 2) := by decide +kernel
theorem dX8_readsMan_262 : decode cX8_readsMan 262 = .ok (.iload 7, 2) := by decide +kernel
theorem dX8_readsMan_264 : decode cX8_readsMan 264 = .ok (.bipush 48, 2) := by decide +kernel
theorem dX8_readsMan_266 : decode cX8_readsMan 266 = .ok (.isub, 1) := by decide +kernel
theorem dX8_readsMan_267 : decode cX8_readsMan 267 = .ok (.invokevirtual 104, 3) := by decide +kernel
theorem dX8_readsMan_270 : decode cX8_readsMan 270 = .ok (.ifCond .eq 5, 3) := by decide +kernel
theorem dX8_readsMan_273 : decode cX8_readsMan 273 = .ok (.iconst 0, 1) := by decide +kernel
theorem dX8_readsMan_274 : decode cX8_readsMan 274 = .ok (.ireturn, 1) := by decide +kernel
theorem dX8_readsMan_275 : decode cX8_readsMan 275 = .ok (.aload_n 0, 1) := by decide +kernel
theorem dX8_readsMan_276 : decode cX8_readsMan 276 = .ok (.getfield 19, 3) := by decide +kernel
theorem dX8_readsMan_279 : decode cX8_readsMan 279 = .ok (.bipush 22, 2) := by decide +kernel
theorem dX8_readsMan_281 : decode cX8_readsMan 281 = .ok (.iconst 3, 1) := by decide +kernel
theorem dX8_readsMan_282 : decode cX8_readsMan 282 = .ok (.iload_n 1, 1) := by decide +kernel
theorem dX8_readsMan_283 : decode cX8_readsMan 283 = .ok (.imul, 1) := by decide +kernel
theorem dX8_readsMan_284 : decode cX8_readsMan 284 = .ok (.iadd, 1) := by decide +kernel
theorem dX8_readsMan_285 : decode cX8_readsMan 285 = .ok (.iload 6, 2) := by decide +kernel
theorem dX8_readsMan_287 : decode cX8_readsMan 287 = .ok (.iadd, 1) := by decide +kernel
theorem dX8_readsMan_288 : decode cX8_readsMan 288 = .ok (.iload 7, 2) := by decide +kernel
theorem dX8_readsMan_290 : decode cX8_readsMan 290 = .ok (.bipush 48, 2) := by decide +kernel
theorem dX8_readsMan_292 : decode cX8_readsMan 292 = .ok (.isub, 1) := by decide +kernel
theorem dX8_readsMan_293 : decode cX8_readsMan 293 = .ok (.iastore, 1) := by decide +kernel
theorem dX8_readsMan_294 : decode cX8_readsMan 294 = .ok (.aload_n 0, 1) := by decide +kernel
theorem dX8_readsMan_295 : decode cX8_readsMan 295 = .ok (.dup, 1) := by decide +kernel
theorem dX8_readsMan_296 : decode cX8_readsMan 296 = .ok (.getfield 89, 3) := by decide +kernel
theorem dX8_readsMan_299 : decode cX8_readsMan 299 = .ok (.iconst 1, 1) := by decide +kernel
theorem dX8_readsMan_300 : decode cX8_readsMan 300 = .ok (.iadd, 1) := by decide +kernel
theorem dX8_readsMan_301 : decode cX8_readsMan 301 = .ok (.putfield 89, 3) := by decide +kernel
theorem dX8_readsMan_304 : decode cX8_readsMan 304 = .ok (.iinc 6 1, 3) := by decide +kernel
theorem dX8_readsMan_307 : decode cX8_readsMan 307 = .ok (.goto (-69), 3) := by decide +kernel
theorem dX8_readsMan_310 : decode cX8_readsMan 310 = .ok (.iconst 1, 1) := by decide +kernel
theorem dX8_readsMan_311 : decode cX8_readsMan 311 = .ok (.ireturn, 1) := by decide +kernel
theorem dX8_readsAll_0 : decode cX8_readsAll 0 = .ok (.aload_n 0, 1) := by decide +kernel
theorem dX8_readsAll_1 : decode cX8_readsAll 1 = .ok (.iconst 0, 1) := by decide +kernel
theorem dX8_readsAll_2 : decode cX8_readsAll 2 = .ok (.putfield 89, 3) := by decide +kernel
theorem dX8_readsAll_5 : decode cX8_readsAll 5 = .ok (.iconst 0, 1) := by decide +kernel
theorem dX8_readsAll_6 : decode cX8_readsAll 6 = .ok (.istore_n 1, 1) := by decide +kernel
theorem dX8_readsAll_7 : decode cX8_readsAll 7 = .ok (.iload_n 1, 1) := by decide +kernel
theorem dX8_readsAll_8 : decode cX8_readsAll 8 = .ok (.bipush 6, 2) := by decide +kernel
theorem dX8_readsAll_10 : decode cX8_readsAll 10 = .ok (.if_icmp .ge 54, 3) := by decide +kernel
theorem dX8_readsAll_13 : decode cX8_readsAll 13 = .ok (.aload_n 0, 1) := by decide +kernel
theorem dX8_readsAll_14 : decode cX8_readsAll 14 = .ok (.iload_n 1, 1) := by decide +kernel
theorem dX8_readsAll_15 : decode cX8_readsAll 15 = .ok (.invokevirtual 107, 3) := by decide +kernel
theorem dX8_readsAll_18 : decode cX8_readsAll 18 = .ok (.ifCond .ne 5, 3) := by decide +kernel
theorem dX8_readsAll_21 : decode cX8_readsAll 21 = .ok (.iconst (-1), 1) := by decide +kernel
theorem dX8_readsAll_22 : decode cX8_readsAll 22 = .ok (.ireturn, 1) := by decide +kernel
theorem dX8_readsAll_23 : decode cX8_readsAll 23 = .ok (.iinc 1 1, 3) := by decide +kernel
theorem dX8_readsAll_26 : decode cX8_readsAll 26 = .ok (.aload_n 0, 1) := by decide +kernel
theorem dX8_readsAll_27 : decode cX8_readsAll 27 = .ok (.invokevirtual 95, 3) := by decide +kernel
theorem dX8_readsAll_30 : decode cX8_readsAll 30 = .ok (.istore_n 2, 1) := by decide +kernel
theorem dX8_readsAll_31 : decode cX8_readsAll 31 = .ok (.iload_n 2, 1) := by decide +kernel
theorem dX8_readsAll_32 : decode cX8_readsAll 32 = .ok (.ifCond .ge 5, 3) := by decide +kernel
theorem dX8_readsAll_35 : decode cX8_readsAll 35 = .ok (.iload_n 1, 1) := by decide +kernel
theorem dX8_readsAll_36 : decode cX8_readsAll 36 = .ok (.ireturn, 1) := by decide +kernel
theorem dX8_readsAll_37 : decode cX8_readsAll 37 = .ok (.iload_n 2, 1) := by decide +kernel
theorem dX8_readsAll_38 : decode cX8_readsAll 38 = .ok (.bipush 44, 2) := by decide +kernel
theorem dX8_readsAll_40 : decode cX8_readsAll 40 = .ok (.if_icmp .ne 9, 3) := by decide +kernel
theorem dX8_readsAll_43 : decode cX8_readsAll 43 = .ok (.iload_n 1, 1) := by decide +kernel
theorem dX8_readsAll_44 : decode cX8_readsAll 44 = .ok (.bipush 6, 2) := by decide +kernel
theorem dX8_readsAll_46 : decode cX8_readsAll 46 = .ok (.if_icmp .ne 5, 3) := by decide +kernel
theorem dX8_readsAll_49 : decode cX8_readsAll 49 = .ok (.iconst (-1), 1) := by decide +kernel
theorem dX8_readsAll_50 : decode cX8_readsAll 50 = .ok (.ireturn, 1) := by decide +kernel
theorem dX8_readsAll_51 : decode cX8_readsAll 51 = .ok (.aload_n 0, 1) := by decide +kernel
theorem dX8_readsAll_52 : decode cX8_readsAll 52 = .ok (.dup, 1) := by decide +kernel
theorem dX8_readsAll_53 : decode cX8_readsAll 53 = .ok (.getfield 89, 3) := by decide +kernel
theorem dX8_readsAll_56 : decode cX8_readsAll 56 = .ok (.iconst 1, 1) := by decide +kernel
theorem dX8_readsAll_57 : decode cX8_readsAll 57 = .ok (.iadd, 1) := by decide +kernel
theorem dX8_readsAll_58 : decode cX8_readsAll 58 = .ok (.putfield 89, 3) := by decide +kernel
theorem dX8_readsAll_61 : decode cX8_readsAll 61 = .ok (.goto (-54), 3) := by decide +kernel
theorem dX8_readsAll_64 : decode cX8_readsAll 64 = .ok (.iload_n 1, 1) := by decide +kernel
theorem dX8_readsAll_65 : decode cX8_readsAll 65 = .ok (.ireturn, 1) := by decide +kernel
theorem dX8_read_0 : decode cX8_read 0 = .ok (.iconst 0, 1) := by decide +kernel
theorem dX8_read_1 : decode cX8_read 1 = .ok (.istore_n 1, 1) := by decide +kernel
theorem dX8_read_2 : decode cX8_read 2 = .ok (.iload_n 1, 1) := by decide +kernel
theorem dX8_read_3 : decode cX8_read 3 = .ok (.bipush 40, 2) := by decide +kernel
theorem dX8_read_5 : decode cX8_read 5 = .ok (.if_icmp .ge 16, 3) := by decide +kernel
theorem dX8_read_8 : decode cX8_read 8 = .ok (.aload_n 0, 1) := by decide +kernel
theorem dX8_read_9 : decode cX8_read 9 = .ok (.getfield 19, 3) := by decide +kernel
theorem dX8_read_12 : decode cX8_read 12 = .ok (.iload_n 1, 1) := by decide +kernel
theorem dX8_read_13 : decode cX8_read 13 = .ok (.iconst 0, 1) := by decide +kernel
theorem dX8_read_14 : decode cX8_read 14 = .ok (.iastore, 1) := by decide +kernel
theorem dX8_read_15 : decode cX8_read 15 = .ok (.iinc 1 1, 3) := by decide +kernel
theorem dX8_read_18 : decode cX8_read 18 = .ok (.goto (-16), 3) := by decide +kernel
theorem dX8_read_21 : decode cX8_read 21 = .ok (.aload_n 0, 1) := by decide +kernel
theorem dX8_read_22 : decode cX8_read 22 = .ok (.invokevirtual 110, 3) := by decide +kernel
theorem dX8_read_25 : decode cX8_read 25 = .ok (.istore_n 1, 1) := by decide +kernel
theorem dX8_read_26 : decode cX8_read 26 = .ok (.aload_n 0, 1) := by decide +kernel
theorem dX8_read_27 : decode cX8_read 27 = .ok (.iconst 0, 1) := by decide +kernel
theorem dX8_read_28 : decode cX8_read 28 = .ok (.putfield 85, 3) := by decide +kernel
theorem dX8_read_31 : decode cX8_read 31 = .ok (.iload_n 1, 1) := by decide +kernel
theorem dX8_read_32 : decode cX8_read 32 = .ok (.ifCond .ge 11, 3) := by decide +kernel
theorem dX8_read_35 : decode cX8_read 35 = .ok (.bipush (-20), 2) := by decide +kernel
theorem dX8_read_37 : decode cX8_read 37 = .ok (.aload_n 0, 1) := by decide +kernel
theorem dX8_read_38 : decode cX8_read 38 = .ok (.getfield 89, 3) := by decide +kernel
theorem dX8_read_41 : decode cX8_read 41 = .ok (.isub, 1) := by decide +kernel
theorem dX8_read_42 : decode cX8_read 42 = .ok (.ireturn, 1) := by decide +kernel
theorem dX8_read_43 : decode cX8_read 43 = .ok (.aload_n 0, 1) := by decide +kernel
theorem dX8_read_44 : decode cX8_read 44 = .ok (.getfield 7, 3) := by decide +kernel
theorem dX8_read_47 : decode cX8_read 47 = .ok (.iconst 3, 1) := by decide +kernel
theorem dX8_read_48 : decode cX8_read 48 = .ok (.iaload, 1) := by decide +kernel
theorem dX8_read_49 : decode cX8_read 49 = .ok (.istore_n 2, 1) := by decide +kernel
theorem dX8_read_50 : decode cX8_read 50 = .ok (.iconst 0, 1) := by decide +kernel
theorem dX8_read_51 : decode cX8_read 51 = .ok (.istore_n 3, 1) := by decide +kernel
theorem dX8_read_52 : decode cX8_read 52 = .ok (.iload_n 3, 1) := by decide +kernel
theorem dX8_read_53 : decode cX8_read 53 = .ok (.bipush 40, 2) := by decide +kernel
theorem dX8_read_55 : decode cX8_read 55 = .ok (.if_icmp .ge 21, 3) := by decide +kernel
theorem dX8_read_58 : decode cX8_read 58 = .ok (.aload_n 0, 1) := by decide +kernel
theorem dX8_read_59 : decode cX8_read 59 = .ok (.getfield 7, 3) := by decide +kernel
theorem dX8_read_62 : decode cX8_read 62 = .ok (.iload_n 3, 1) := by decide +kernel
theorem dX8_read_63 : decode cX8_read 63 = .ok (.aload_n 0, 1) := by decide +kernel
theorem dX8_read_64 : decode cX8_read 64 = .ok (.getfield 19, 3) := by decide +kernel
theorem dX8_read_67 : decode cX8_read 67 = .ok (.iload_n 3, 1) := by decide +kernel
theorem dX8_read_68 : decode cX8_read 68 = .ok (.iaload, 1) := by decide +kernel
theorem dX8_read_69 : decode cX8_read 69 = .ok (.iastore, 1) := by decide +kernel
theorem dX8_read_70 : decode cX8_read 70 = .ok (.iinc 3 1, 3) := by decide +kernel
theorem dX8_read_73 : decode cX8_read 73 = .ok (.goto (-21), 3) := by decide +kernel
theorem dX8_read_76 : decode cX8_read 76 = .ok (.aload_n 0, 1) := by decide +kernel
theorem dX8_read_77 : decode cX8_read 77 = .ok (.getfield 7, 3) := by decide +kernel
theorem dX8_read_80 : decode cX8_read 80 = .ok (.iconst 0, 1) := by decide +kernel
theorem dX8_read_81 : decode cX8_read 81 = .ok (.iload_n 1, 1) := by decide +kernel
theorem dX8_read_82 : decode cX8_read 82 = .ok (.iastore, 1) := by decide +kernel
theorem dX8_read_83 : decode cX8_read 83 = .ok (.aload_n 0, 1) := by decide +kernel
theorem dX8_read_84 : decode cX8_read 84 = .ok (.getfield 7, 3) := by decide +kernel
theorem dX8_read_87 : decode cX8_read 87 = .ok (.iconst 1, 1) := by decide +kernel
theorem dX8_read_88 : decode cX8_read 88 = .ok (.iload_n 1, 1) := by decide +kernel
theorem dX8_read_89 : decode cX8_read 89 = .ok (.iastore, 1) := by decide +kernel
theorem dX8_read_90 : decode cX8_read 90 = .ok (.aload_n 0, 1) := by decide +kernel
theorem dX8_read_91 : decode cX8_read 91 = .ok (.getfield 7, 3) := by decide +kernel
theorem dX8_read_94 : decode cX8_read 94 = .ok (.iconst 3, 1) := by decide +kernel
theorem dX8_read_95 : decode cX8_read 95 = .ok (.iload_n 2, 1) := by decide +kernel
theorem dX8_read_96 : decode cX8_read 96 = .ok (.iastore, 1) := by decide +kernel
theorem dX8_read_97 : decode cX8_read 97 = .ok (.aload_n 0, 1) := by decide +kernel
theorem dX8_read_98 : decode cX8_read 98 = .ok (.getfield 7, 3) := by decide +kernel
theorem dX8_read_101 : decode cX8_read 101 = .ok (.bipush 40, 2) := by decide +kernel
theorem dX8_read_103 : decode cX8_read 103 = .ok (.iconst 0, 1) := by decide +kernel
theorem dX8_read_104 : decode cX8_read 104 = .ok (.iastore, 1) := by decide +kernel
theorem dX8_read_105 : decode cX8_read 105 = .ok (.iload_n 1, 1) := by decide +kernel
theorem dX8_read_106 : decode cX8_read 106 = .ok (.ireturn, 1) := by decide +kernel
theorem dX8_lives_0 : decode cX8_lives 0 = .ok (.iconst 0, 1) := by decide +kernel
theorem dX8_lives_1 : decode cX8_lives 1 = .ok (.istore_n 1, 1) := by decide +kernel
theorem dX8_lives_2 : decode cX8_lives 2 = .ok (.iconst 0, 1) := by decide +kernel
theorem dX8_lives_3 : decode cX8_lives 3 = .ok (.istore_n 2, 1) := by decide +kernel
theorem dX8_lives_4 : decode cX8_lives 4 = .ok (.iload_n 2, 1) := by decide +kernel
theorem dX8_lives_5 : decode cX8_lives 5 = .ok (.aload_n 0, 1) := by decide +kernel
theorem dX8_lives_6 : decode cX8_lives 6 = .ok (.getfield 7, 3) := by decide +kernel
theorem dX8_lives_9 : decode cX8_lives 9 = .ok (.iconst 0, 1) := by decide +kernel
theorem dX8_lives_10 : decode cX8_lives 10 = .ok (.iaload, 1) := by decide +kernel
theorem dX8_lives_11 : decode cX8_lives 11 = .ok (.if_icmp .ge 20, 3) := by decide +kernel
theorem dX8_lives_14 : decode cX8_lives 14 = .ok (.iload_n 1, 1) := by decide +kernel
theorem dX8_lives_15 : decode cX8_lives 15 = .ok (.aload_n 0, 1) := by decide +kernel
theorem dX8_lives_16 : decode cX8_lives 16 = .ok (.getfield 7, 3) := by decide +kernel
theorem dX8_lives_19 : decode cX8_lives 19 = .ok (.iconst 4, 1) := by decide +kernel
theorem dX8_lives_20 : decode cX8_lives 20 = .ok (.iload_n 2, 1) := by decide +kernel
theorem dX8_lives_21 : decode cX8_lives 21 = .ok (.iadd, 1) := by decide +kernel
theorem dX8_lives_22 : decode cX8_lives 22 = .ok (.iaload, 1) := by decide +kernel
theorem dX8_lives_23 : decode cX8_lives 23 = .ok (.iadd, 1) := by decide +kernel
theorem dX8_lives_24 : decode cX8_lives 24 = .ok (.istore_n 1, 1) := by decide +kernel
theorem dX8_lives_25 : decode cX8_lives 25 = .ok (.iinc 2 1, 3) := by decide +kernel
theorem dX8_lives_28 : decode cX8_lives 28 = .ok (.goto (-24), 3) := by decide +kernel
theorem dX8_lives_31 : decode cX8_lives 31 = .ok (.iload_n 1, 1) := by decide +kernel
theorem dX8_lives_32 : decode cX8_lives 32 = .ok (.ireturn, 1) := by decide +kernel
theorem dX8_wrong_0 : decode cX8_wrong 0 = .ok (.iconst 0, 1) := by decide +kernel
theorem dX8_wrong_1 : decode cX8_wrong 1 = .ok (.istore_n 1, 1) := by decide +kernel
theorem dX8_wrong_2 : decode cX8_wrong 2 = .ok (.iconst 1, 1) := by decide +kernel
theorem dX8_wrong_3 : decode cX8_wrong 3 = .ok (.istore_n 2, 1) := by decide +kernel
theorem dX8_wrong_4 : decode cX8_wrong 4 = .ok (.iload_n 2, 1) := by decide +kernel
theorem dX8_wrong_5 : decode cX8_wrong 5 = .ok (.aload_n 0, 1) := by decide +kernel
theorem dX8_wrong_6 : decode cX8_wrong 6 = .ok (.getfield 7, 3) := by decide +kernel
theorem dX8_wrong_9 : decode cX8_wrong 9 = .ok (.iconst 1, 1) := by decide +kernel
theorem dX8_wrong_10 : decode cX8_wrong 10 = .ok (.iaload, 1) := by decide +kernel
theorem dX8_wrong_11 : decode cX8_wrong 11 = .ok (.if_icmp .ge 44, 3) := by decide +kernel
theorem dX8_wrong_14 : decode cX8_wrong 14 = .ok (.iload_n 1, 1) := by decide +kernel
theorem dX8_wrong_15 : decode cX8_wrong 15 = .ok (.aload_n 0, 1) := by decide +kernel
theorem dX8_wrong_16 : decode cX8_wrong 16 = .ok (.aload_n 0, 1) := by decide +kernel
theorem dX8_wrong_17 : decode cX8_wrong 17 = .ok (.getfield 7, 3) := by decide +kernel
theorem dX8_wrong_20 : decode cX8_wrong 20 = .ok (.bipush 10, 2) := by decide +kernel
theorem dX8_wrong_22 : decode cX8_wrong 22 = .ok (.iload_n 2, 1) := by decide +kernel
theorem dX8_wrong_23 : decode cX8_wrong 23 = .ok (.iadd, 1) := by decide +kernel
theorem dX8_wrong_24 : decode cX8_wrong 24 = .ok (.iconst 1, 1) := by decide +kernel
theorem dX8_wrong_25 : decode cX8_wrong 25 = .ok (.isub, 1) := by decide +kernel
theorem dX8_wrong_26 : decode cX8_wrong 26 = .ok (.iaload, 1) := by decide +kernel
theorem dX8_wrong_27 : decode cX8_wrong 27 = .ok (.aload_n 0, 1) := by decide +kernel
theorem dX8_wrong_28 : decode cX8_wrong 28 = .ok (.getfield 7, 3) := by decide +kernel
theorem dX8_wrong_31 : decode cX8_wrong 31 = .ok (.bipush 10, 2) := by decide +kernel
theorem dX8_wrong_33 : decode cX8_wrong 33 = .ok (.iload_n 2, 1) := by decide +kernel
theorem dX8_wrong_34 : decode cX8_wrong 34 = .ok (.iadd, 1) := by decide +kernel
theorem dX8_wrong_35 : decode cX8_wrong 35 = .ok (.iaload, 1) := by decide +kernel
theorem dX8_wrong_36 : decode cX8_wrong 36 = .ok (.invokevirtual 56, 3) := by decide +kernel
theorem dX8_wrong_39 : decode cX8_wrong 39 = .ok (.ifCond .eq 7, 3) := by decide +kernel
theorem dX8_wrong_42 : decode cX8_wrong 42 = .ok (.iconst 0, 1) := by decide +kernel
theorem dX8_wrong_43 : decode cX8_wrong 43 = .ok (.goto 4, 3) := by decide +kernel
theorem dX8_wrong_46 : decode cX8_wrong 46 = .ok (.iconst 1, 1) := by decide +kernel
theorem dX8_wrong_47 : decode cX8_wrong 47 = .ok (.iadd, 1) := by decide +kernel
theorem dX8_wrong_48 : decode cX8_wrong 48 = .ok (.istore_n 1, 1) := by decide +kernel
theorem dX8_wrong_49 : decode cX8_wrong 49 = .ok (.iinc 2 1, 3) := by decide +kernel
theorem dX8_wrong_52 : decode cX8_wrong 52 = .ok (.goto (-48), 3) := by decide +kernel
theorem dX8_wrong_55 : decode cX8_wrong 55 = .ok (.iload_n 1, 1) := by decide +kernel
theorem dX8_wrong_56 : decode cX8_wrong 56 = .ok (.ireturn, 1) := by decide +kernel
theorem dX8_count_0 : decode cX8_count 0 = .ok (.iload_n 1, 1) := by decide +kernel
theorem dX8_count_1 : decode cX8_count 1 = .ok (.tableswitch 87 0 6 #[43, 50, 57, 64, 69, 74, 79], 43) := by decide +kernel
theorem dX8_count_44 : decode cX8_count 44 = .ok (.aload_n 0, 1) := by decide +kernel
theorem dX8_count_45 : decode cX8_count 45 = .ok (.getfield 7, 3) := by decide +kernel
theorem dX8_count_48 : decode cX8_count 48 = .ok (.iconst 0, 1) := by decide +kernel
theorem dX8_count_49 : decode cX8_count 49 = .ok (.iaload, 1) := by decide +kernel
theorem dX8_count_50 : decode cX8_count 50 = .ok (.ireturn, 1) := by decide +kernel
theorem dX8_count_51 : decode cX8_count 51 = .ok (.aload_n 0, 1) := by decide +kernel
theorem dX8_count_52 : decode cX8_count 52 = .ok (.getfield 7, 3) := by decide +kernel
theorem dX8_count_55 : decode cX8_count 55 = .ok (.iconst 1, 1) := by decide +kernel
theorem dX8_count_56 : decode cX8_count 56 = .ok (.iaload, 1) := by decide +kernel
theorem dX8_count_57 : decode cX8_count 57 = .ok (.ireturn, 1) := by decide +kernel
theorem dX8_count_58 : decode cX8_count 58 = .ok (.aload_n 0, 1) := by decide +kernel
theorem dX8_count_59 : decode cX8_count 59 = .ok (.getfield 7, 3) := by decide +kernel
theorem dX8_count_62 : decode cX8_count 62 = .ok (.iconst 2, 1) := by decide +kernel
theorem dX8_count_63 : decode cX8_count 63 = .ok (.iaload, 1) := by decide +kernel
theorem dX8_count_64 : decode cX8_count 64 = .ok (.ireturn, 1) := by decide +kernel
theorem dX8_count_65 : decode cX8_count 65 = .ok (.aload_n 0, 1) := by decide +kernel
theorem dX8_count_66 : decode cX8_count 66 = .ok (.invokevirtual 75, 3) := by decide +kernel
theorem dX8_count_69 : decode cX8_count 69 = .ok (.ireturn, 1) := by decide +kernel
theorem dX8_count_70 : decode cX8_count 70 = .ok (.aload_n 0, 1) := by decide +kernel
theorem dX8_count_71 : decode cX8_count 71 = .ok (.invokevirtual 113, 3) := by decide +kernel
theorem dX8_count_74 : decode cX8_count 74 = .ok (.ireturn, 1) := by decide +kernel
theorem dX8_count_75 : decode cX8_count 75 = .ok (.aload_n 0, 1) := by decide +kernel
theorem dX8_count_76 : decode cX8_count 76 = .ok (.invokevirtual 116, 3) := by decide +kernel
theorem dX8_count_79 : decode cX8_count 79 = .ok (.ireturn, 1) := by decide +kernel
theorem dX8_count_80 : decode cX8_count 80 = .ok (.aload_n 0, 1) := by decide +kernel
theorem dX8_count_81 : decode cX8_count 81 = .ok (.getfield 7, 3) := by decide +kernel
theorem dX8_count_84 : decode cX8_count 84 = .ok (.bipush 40, 2) := by decide +kernel
theorem dX8_count_86 : decode cX8_count 86 = .ok (.iaload, 1) := by decide +kernel
theorem dX8_count_87 : decode cX8_count 87 = .ok (.ireturn, 1) := by decide +kernel
theorem dX8_count_88 : decode cX8_count 88 = .ok (.iconst (-1), 1) := by decide +kernel
theorem dX8_count_89 : decode cX8_count 89 = .ok (.ireturn, 1) := by decide +kernel
theorem dX8_keeps_0 : decode cX8_keeps 0 = .ok (.aload_n 0, 1) := by decide +kernel
theorem dX8_keeps_1 : decode cX8_keeps 1 = .ok (.getfield 7, 3) := by decide +kernel
theorem dX8_keeps_4 : decode cX8_keeps 4 = .ok (.bipush 40, 2) := by decide +kernel
theorem dX8_keeps_6 : decode cX8_keeps 6 = .ok (.iaload, 1) := by decide +kernel
theorem dX8_keeps_7 : decode cX8_keeps 7 = .ok (.bipush 8, 2) := by decide +kernel
theorem dX8_keeps_9 : decode cX8_keeps 9 = .ok (.if_icmp .ne 45, 3) := by decide +kernel
theorem dX8_keeps_12 : decode cX8_keeps 12 = .ok (.bipush 41, 2) := by decide +kernel
theorem dX8_keeps_14 : decode cX8_keeps 14 = .ok (.istore_n 1, 1) := by decide +kernel
theorem dX8_keeps_15 : decode cX8_keeps 15 = .ok (.iload_n 1, 1) := by decide +kernel
theorem dX8_keeps_16 : decode cX8_keeps 16 = .ok (.sipush 146, 3) := by decide +kernel
theorem dX8_keeps_19 : decode cX8_keeps 19 = .ok (.if_icmp .ge 24, 3) := by decide +kernel
theorem dX8_keeps_22 : decode cX8_keeps 22 = .ok (.aload_n 0, 1) := by decide +kernel
theorem dX8_keeps_23 : decode cX8_keeps 23 = .ok (.getfield 7, 3) := by decide +kernel
theorem dX8_keeps_26 : decode cX8_keeps 26 = .ok (.iload_n 1, 1) := by decide +kernel
theorem dX8_keeps_27 : decode cX8_keeps 27 = .ok (.aload_n 0, 1) := by decide +kernel
theorem dX8_keeps_28 : decode cX8_keeps 28 = .ok (.getfield 7, 3) := by decide +kernel
theorem dX8_keeps_31 : decode cX8_keeps 31 = .ok (.iload_n 1, 1) := by decide +kernel
theorem dX8_keeps_32 : decode cX8_keeps 32 = .ok (.bipush 15, 2) := by decide +kernel
theorem dX8_keeps_34 : decode cX8_keeps 34 = .ok (.iadd, 1) := by decide +kernel
theorem dX8_keeps_35 : decode cX8_keeps 35 = .ok (.iaload, 1) := by decide +kernel
theorem dX8_keeps_36 : decode cX8_keeps 36 = .ok (.iastore, 1) := by decide +kernel
theorem dX8_keeps_37 : decode cX8_keeps 37 = .ok (.iinc 1 1, 3) := by decide +kernel
theorem dX8_keeps_40 : decode cX8_keeps 40 = .ok (.goto (-25), 3) := by decide +kernel
theorem dX8_keeps_43 : decode cX8_keeps 43 = .ok (.aload_n 0, 1) := by decide +kernel
theorem dX8_keeps_44 : decode cX8_keeps 44 = .ok (.getfield 7, 3) := by decide +kernel
theorem dX8_keeps_47 : decode cX8_keeps 47 = .ok (.bipush 40, 2) := by decide +kernel
theorem dX8_keeps_49 : decode cX8_keeps 49 = .ok (.dup2, 1) := by decide +kernel
theorem dX8_keeps_50 : decode cX8_keeps 50 = .ok (.iaload, 1) := by decide +kernel
theorem dX8_keeps_51 : decode cX8_keeps 51 = .ok (.iconst 1, 1) := by decide +kernel
theorem dX8_keeps_52 : decode cX8_keeps 52 = .ok (.isub, 1) := by decide +kernel
theorem dX8_keeps_53 : decode cX8_keeps 53 = .ok (.iastore, 1) := by decide +kernel
theorem dX8_keeps_54 : decode cX8_keeps 54 = .ok (.iconst 0, 1) := by decide +kernel
theorem dX8_keeps_55 : decode cX8_keeps 55 = .ok (.istore_n 1, 1) := by decide +kernel
theorem dX8_keeps_56 : decode cX8_keeps 56 = .ok (.iload_n 1, 1) := by decide +kernel
theorem dX8_keeps_57 : decode cX8_keeps 57 = .ok (.bipush 15, 2) := by decide +kernel
theorem dX8_keeps_59 : decode cX8_keeps 59 = .ok (.if_icmp .ge 37, 3) := by decide +kernel
theorem dX8_keeps_62 : decode cX8_keeps 62 = .ok (.aload_n 0, 1) := by decide +kernel
theorem dX8_keeps_63 : decode cX8_keeps 63 = .ok (.getfield 7, 3) := by decide +kernel
theorem dX8_keeps_66 : decode cX8_keeps 66 = .ok (.bipush 41, 2) := by decide +kernel
theorem dX8_keeps_68 : decode cX8_keeps 68 = .ok (.bipush 15, 2) := by decide +kernel
theorem dX8_keeps_70 : decode cX8_keeps 70 = .ok (.aload_n 0, 1) := by decide +kernel
theorem dX8_keeps_71 : decode cX8_keeps 71 = .ok (.getfield 7, 3) := by decide +kernel
theorem dX8_keeps_74 : decode cX8_keeps 74 = .ok (.bipush 40, 2) := by decide +kernel
theorem dX8_keeps_76 : decode cX8_keeps 76 = .ok (.iaload, 1) := by decide +kernel
theorem dX8_keeps_77 : decode cX8_keeps 77 = .ok (.imul, 1) := by decide +kernel
theorem dX8_keeps_78 : decode cX8_keeps 78 = .ok (.iadd, 1) := by decide +kernel
theorem dX8_keeps_79 : decode cX8_keeps 79 = .ok (.iload_n 1, 1) := by decide +kernel
theorem dX8_keeps_80 : decode cX8_keeps 80 = .ok (.iadd, 1) := by decide +kernel
theorem dX8_keeps_81 : decode cX8_keeps 81 = .ok (.aload_n 0, 1) := by decide +kernel
theorem dX8_keeps_82 : decode cX8_keeps 82 = .ok (.getfield 7, 3) := by decide +kernel
theorem dX8_keeps_85 : decode cX8_keeps 85 = .ok (.iconst 1, 1) := by decide +kernel
theorem dX8_keeps_86 : decode cX8_keeps 86 = .ok (.iload_n 1, 1) := by decide +kernel
theorem dX8_keeps_87 : decode cX8_keeps 87 = .ok (.iadd, 1) := by decide +kernel
theorem dX8_keeps_88 : decode cX8_keeps 88 = .ok (.iaload, 1) := by decide +kernel
theorem dX8_keeps_89 : decode cX8_keeps 89 = .ok (.iastore, 1) := by decide +kernel
theorem dX8_keeps_90 : decode cX8_keeps 90 = .ok (.iinc 1 1, 3) := by decide +kernel
theorem dX8_keeps_93 : decode cX8_keeps 93 = .ok (.goto (-37), 3) := by decide +kernel
theorem dX8_keeps_96 : decode cX8_keeps 96 = .ok (.aload_n 0, 1) := by decide +kernel
theorem dX8_keeps_97 : decode cX8_keeps 97 = .ok (.getfield 7, 3) := by decide +kernel
theorem dX8_keeps_100 : decode cX8_keeps 100 = .ok (.bipush 40, 2) := by decide +kernel
theorem dX8_keeps_102 : decode cX8_keeps 102 = .ok (.dup2, 1) := by decide +kernel
theorem dX8_keeps_103 : decode cX8_keeps 103 = .ok (.iaload, 1) := by decide +kernel
theorem dX8_keeps_104 : decode cX8_keeps 104 = .ok (.iconst 1, 1) := by decide +kernel
theorem dX8_keeps_105 : decode cX8_keeps 105 = .ok (.iadd, 1) := by decide +kernel
theorem dX8_keeps_106 : decode cX8_keeps 106 = .ok (.iastore, 1) := by decide +kernel
theorem dX8_keeps_107 : decode cX8_keeps 107 = .ok (.return_, 1) := by decide +kernel
theorem dX8_years_0 : decode cX8_years 0 = .ok (.iload_n 1, 1) := by decide +kernel
theorem dX8_years_1 : decode cX8_years 1 = .ok (.iconst 1, 1) := by decide +kernel
theorem dX8_years_2 : decode cX8_years 2 = .ok (.bipush 40, 2) := by decide +kernel
theorem dX8_years_4 : decode cX8_years 4 = .ok (.invokestatic 44, 3) := by decide +kernel
theorem dX8_years_7 : decode cX8_years 7 = .ok (.ifCond .ne 5, 3) := by decide +kernel
theorem dX8_years_10 : decode cX8_years 10 = .ok (.iconst (-1), 1) := by decide +kernel
theorem dX8_years_11 : decode cX8_years 11 = .ok (.ireturn, 1) := by decide +kernel
theorem dX8_years_12 : decode cX8_years 12 = .ok (.aload_n 0, 1) := by decide +kernel
theorem dX8_years_13 : decode cX8_years 13 = .ok (.getfield 7, 3) := by decide +kernel
theorem dX8_years_16 : decode cX8_years 16 = .ok (.iconst 2, 1) := by decide +kernel
theorem dX8_years_17 : decode cX8_years 17 = .ok (.iaload, 1) := by decide +kernel
theorem dX8_years_18 : decode cX8_years 18 = .ok (.iload_n 1, 1) := by decide +kernel
theorem dX8_years_19 : decode cX8_years 19 = .ok (.iadd, 1) := by decide +kernel
theorem dX8_years_20 : decode cX8_years 20 = .ok (.sipush 9999, 3) := by decide +kernel
theorem dX8_years_23 : decode cX8_years 23 = .ok (.if_icmp .le 6, 3) := by decide +kernel
theorem dX8_years_26 : decode cX8_years 26 = .ok (.bipush (-3), 2) := by decide +kernel
theorem dX8_years_28 : decode cX8_years 28 = .ok (.ireturn, 1) := by decide +kernel
theorem dX8_years_29 : decode cX8_years 29 = .ok (.iconst 0, 1) := by decide +kernel
theorem dX8_years_30 : decode cX8_years 30 = .ok (.istore_n 2, 1) := by decide +kernel
theorem dX8_years_31 : decode cX8_years 31 = .ok (.iload_n 2, 1) := by decide +kernel
theorem dX8_years_32 : decode cX8_years 32 = .ok (.iload_n 1, 1) := by decide +kernel
theorem dX8_years_33 : decode cX8_years 33 = .ok (.if_icmp .ge 17, 3) := by decide +kernel
theorem dX8_years_36 : decode cX8_years 36 = .ok (.aload_n 0, 1) := by decide +kernel
theorem dX8_years_37 : decode cX8_years 37 = .ok (.invokevirtual 119, 3) := by decide +kernel
theorem dX8_years_40 : decode cX8_years 40 = .ok (.aload_n 0, 1) := by decide +kernel
theorem dX8_years_41 : decode cX8_years 41 = .ok (.invokevirtual 122, 3) := by decide +kernel
theorem dX8_years_44 : decode cX8_years 44 = .ok (.iinc 2 1, 3) := by decide +kernel
theorem dX8_years_47 : decode cX8_years 47 = .ok (.goto (-16), 3) := by decide +kernel
theorem dX8_years_50 : decode cX8_years 50 = .ok (.aload_n 0, 1) := by decide +kernel
theorem dX8_years_51 : decode cX8_years 51 = .ok (.invokevirtual 75, 3) := by decide +kernel
theorem dX8_years_54 : decode cX8_years 54 = .ok (.ireturn, 1) := by decide +kernel
theorem dX8_changes_0 : decode cX8_changes 0 = .ok (.aload_n 0, 1) := by decide +kernel
theorem dX8_changes_1 : decode cX8_changes 1 = .ok (.getfield 7, 3) := by decide +kernel
theorem dX8_changes_4 : decode cX8_changes 4 = .ok (.bipush 10, 2) := by decide +kernel
theorem dX8_changes_6 : decode cX8_changes 6 = .ok (.iload_n 1, 1) := by decide +kernel
theorem dX8_changes_7 : decode cX8_changes 7 = .ok (.iadd, 1) := by decide +kernel
theorem dX8_changes_8 : decode cX8_changes 8 = .ok (.iaload, 1) := by decide +kernel
theorem dX8_changes_9 : decode cX8_changes 9 = .ok (.istore_n 2, 1) := by decide +kernel
theorem dX8_changes_10 : decode cX8_changes 10 = .ok (.aload_n 0, 1) := by decide +kernel
theorem dX8_changes_11 : decode cX8_changes 11 = .ok (.getfield 7, 3) := by decide +kernel
theorem dX8_changes_14 : decode cX8_changes 14 = .ok (.bipush 10, 2) := by decide +kernel
theorem dX8_changes_16 : decode cX8_changes 16 = .ok (.iload_n 1, 1) := by decide +kernel
theorem dX8_changes_17 : decode cX8_changes 17 = .ok (.iadd, 1) := by decide +kernel
theorem dX8_changes_18 : decode cX8_changes 18 = .ok (.aload_n 0, 1) := by decide +kernel
theorem dX8_changes_19 : decode cX8_changes 19 = .ok (.getfield 7, 3) := by decide +kernel
theorem dX8_changes_22 : decode cX8_changes 22 = .ok (.bipush 10, 2) := by decide +kernel
theorem dX8_changes_24 : decode cX8_changes 24 = .ok (.iload_n 1, 1) := by decide +kernel
theorem dX8_changes_25 : decode cX8_changes 25 = .ok (.iadd, 1) := by decide +kernel
theorem dX8_changes_26 : decode cX8_changes 26 = .ok (.iconst 1, 1) := by decide +kernel
theorem dX8_changes_27 : decode cX8_changes 27 = .ok (.iadd, 1) := by decide +kernel
theorem dX8_changes_28 : decode cX8_changes 28 = .ok (.iaload, 1) := by decide +kernel
theorem dX8_changes_29 : decode cX8_changes 29 = .ok (.iastore, 1) := by decide +kernel
theorem dX8_changes_30 : decode cX8_changes 30 = .ok (.aload_n 0, 1) := by decide +kernel
theorem dX8_changes_31 : decode cX8_changes 31 = .ok (.getfield 7, 3) := by decide +kernel
theorem dX8_changes_34 : decode cX8_changes 34 = .ok (.bipush 10, 2) := by decide +kernel
theorem dX8_changes_36 : decode cX8_changes 36 = .ok (.iload_n 1, 1) := by decide +kernel
theorem dX8_changes_37 : decode cX8_changes 37 = .ok (.iadd, 1) := by decide +kernel
theorem dX8_changes_38 : decode cX8_changes 38 = .ok (.iconst 1, 1) := by decide +kernel
theorem dX8_changes_39 : decode cX8_changes 39 = .ok (.iadd, 1) := by decide +kernel
theorem dX8_changes_40 : decode cX8_changes 40 = .ok (.iload_n 2, 1) := by decide +kernel
theorem dX8_changes_41 : decode cX8_changes 41 = .ok (.iastore, 1) := by decide +kernel
theorem dX8_changes_42 : decode cX8_changes 42 = .ok (.return_, 1) := by decide +kernel
theorem dX8_move_0 : decode cX8_move 0 = .ok (.iload_n 1, 1) := by decide +kernel
theorem dX8_move_1 : decode cX8_move 1 = .ok (.iconst 0, 1) := by decide +kernel
theorem dX8_move_2 : decode cX8_move 2 = .ok (.aload_n 0, 1) := by decide +kernel
theorem dX8_move_3 : decode cX8_move 3 = .ok (.getfield 7, 3) := by decide +kernel
theorem dX8_move_6 : decode cX8_move 6 = .ok (.iconst 1, 1) := by decide +kernel
theorem dX8_move_7 : decode cX8_move 7 = .ok (.iaload, 1) := by decide +kernel
theorem dX8_move_8 : decode cX8_move 8 = .ok (.iconst 2, 1) := by decide +kernel
theorem dX8_move_9 : decode cX8_move 9 = .ok (.isub, 1) := by decide +kernel
theorem dX8_move_10 : decode cX8_move 10 = .ok (.invokestatic 44, 3) := by decide +kernel
theorem dX8_move_13 : decode cX8_move 13 = .ok (.ifCond .ne 5, 3) := by decide +kernel
theorem dX8_move_16 : decode cX8_move 16 = .ok (.iconst (-1), 1) := by decide +kernel
theorem dX8_move_17 : decode cX8_move 17 = .ok (.ireturn, 1) := by decide +kernel
theorem dX8_move_18 : decode cX8_move 18 = .ok (.aload_n 0, 1) := by decide +kernel
theorem dX8_move_19 : decode cX8_move 19 = .ok (.invokevirtual 119, 3) := by decide +kernel
theorem dX8_move_22 : decode cX8_move 22 = .ok (.aload_n 0, 1) := by decide +kernel
theorem dX8_move_23 : decode cX8_move 23 = .ok (.iload_n 1, 1) := by decide +kernel
theorem dX8_move_24 : decode cX8_move 24 = .ok (.invokevirtual 125, 3) := by decide +kernel
theorem dX8_move_27 : decode cX8_move 27 = .ok (.aload_n 0, 1) := by decide +kernel
theorem dX8_move_28 : decode cX8_move 28 = .ok (.getfield 7, 3) := by decide +kernel
theorem dX8_move_31 : decode cX8_move 31 = .ok (.bipush 10, 2) := by decide +kernel
theorem dX8_move_33 : decode cX8_move 33 = .ok (.iload_n 1, 1) := by decide +kernel
theorem dX8_move_34 : decode cX8_move 34 = .ok (.iadd, 1) := by decide +kernel
theorem dX8_move_35 : decode cX8_move 35 = .ok (.iaload, 1) := by decide +kernel
theorem dX8_move_36 : decode cX8_move 36 = .ok (.ireturn, 1) := by decide +kernel
theorem dX8_nurse_0 : decode cX8_nurse 0 = .ok (.aload_n 0, 1) := by decide +kernel
theorem dX8_nurse_1 : decode cX8_nurse 1 = .ok (.iload_n 1, 1) := by decide +kernel
theorem dX8_nurse_2 : decode cX8_nurse 2 = .ok (.invokevirtual 52, 3) := by decide +kernel
theorem dX8_nurse_5 : decode cX8_nurse 5 = .ok (.ifCond .eq 13, 3) := by decide +kernel
theorem dX8_nurse_8 : decode cX8_nurse 8 = .ok (.iload_n 2, 1) := by decide +kernel
theorem dX8_nurse_9 : decode cX8_nurse 9 = .ok (.iconst 1, 1) := by decide +kernel
theorem dX8_nurse_10 : decode cX8_nurse 10 = .ok (.bipush 60, 2) := by decide +kernel
theorem dX8_nurse_12 : decode cX8_nurse 12 = .ok (.invokestatic 44, 3) := by decide +kernel
theorem dX8_nurse_15 : decode cX8_nurse 15 = .ok (.ifCond .ne 5, 3) := by decide +kernel
theorem dX8_nurse_18 : decode cX8_nurse 18 = .ok (.iconst (-1), 1) := by decide +kernel
theorem dX8_nurse_19 : decode cX8_nurse 19 = .ok (.ireturn, 1) := by decide +kernel
theorem dX8_nurse_20 : decode cX8_nurse 20 = .ok (.aload_n 0, 1) := by decide +kernel
theorem dX8_nurse_21 : decode cX8_nurse 21 = .ok (.iload_n 1, 1) := by decide +kernel
theorem dX8_nurse_22 : decode cX8_nurse 22 = .ok (.invokevirtual 59, 3) := by decide +kernel
theorem dX8_nurse_25 : decode cX8_nurse 25 = .ok (.bipush (-4), 2) := by decide +kernel
theorem dX8_nurse_27 : decode cX8_nurse 27 = .ok (.if_icmp .ne 6, 3) := by decide +kernel
theorem dX8_nurse_30 : decode cX8_nurse 30 = .ok (.bipush (-2), 2) := by decide +kernel
theorem dX8_nurse_32 : decode cX8_nurse 32 = .ok (.ireturn, 1) := by decide +kernel
theorem dX8_nurse_33 : decode cX8_nurse 33 = .ok (.aload_n 0, 1) := by decide +kernel
theorem dX8_nurse_34 : decode cX8_nurse 34 = .ok (.invokevirtual 119, 3) := by decide +kernel
theorem dX8_nurse_37 : decode cX8_nurse 37 = .ok (.aload_n 0, 1) := by decide +kernel
theorem dX8_nurse_38 : decode cX8_nurse 38 = .ok (.getfield 7, 3) := by decide +kernel
theorem dX8_nurse_41 : decode cX8_nurse 41 = .ok (.iconst 4, 1) := by decide +kernel
theorem dX8_nurse_42 : decode cX8_nurse 42 = .ok (.iload_n 1, 1) := by decide +kernel
theorem dX8_nurse_43 : decode cX8_nurse 43 = .ok (.iadd, 1) := by decide +kernel
theorem dX8_nurse_44 : decode cX8_nurse 44 = .ok (.iaload, 1) := by decide +kernel
theorem dX8_nurse_45 : decode cX8_nurse 45 = .ok (.iload_n 2, 1) := by decide +kernel
theorem dX8_nurse_46 : decode cX8_nurse 46 = .ok (.iadd, 1) := by decide +kernel
theorem dX8_nurse_47 : decode cX8_nurse 47 = .ok (.istore_n 3, 1) := by decide +kernel
theorem dX8_nurse_48 : decode cX8_nurse 48 = .ok (.aload_n 0, 1) := by decide +kernel
theorem dX8_nurse_49 : decode cX8_nurse 49 = .ok (.getfield 7, 3) := by decide +kernel
theorem dX8_nurse_52 : decode cX8_nurse 52 = .ok (.iconst 4, 1) := by decide +kernel
theorem dX8_nurse_53 : decode cX8_nurse 53 = .ok (.iload_n 1, 1) := by decide +kernel
theorem dX8_nurse_54 : decode cX8_nurse 54 = .ok (.iadd, 1) := by decide +kernel
theorem dX8_nurse_55 : decode cX8_nurse 55 = .ok (.iload_n 3, 1) := by decide +kernel
theorem dX8_nurse_56 : decode cX8_nurse 56 = .ok (.bipush 60, 2) := by decide +kernel
theorem dX8_nurse_58 : decode cX8_nurse 58 = .ok (.if_icmp .le 8, 3) := by decide +kernel
theorem dX8_nurse_61 : decode cX8_nurse 61 = .ok (.bipush 60, 2) := by decide +kernel
theorem dX8_nurse_63 : decode cX8_nurse 63 = .ok (.goto 4, 3) := by decide +kernel
theorem dX8_nurse_66 : decode cX8_nurse 66 = .ok (.iload_n 3, 1) := by decide +kernel
theorem dX8_nurse_67 : decode cX8_nurse 67 = .ok (.iastore, 1) := by decide +kernel
theorem dX8_nurse_68 : decode cX8_nurse 68 = .ok (.aload_n 0, 1) := by decide +kernel
theorem dX8_nurse_69 : decode cX8_nurse 69 = .ok (.getfield 7, 3) := by decide +kernel
theorem dX8_nurse_72 : decode cX8_nurse 72 = .ok (.iconst 4, 1) := by decide +kernel
theorem dX8_nurse_73 : decode cX8_nurse 73 = .ok (.iload_n 1, 1) := by decide +kernel
theorem dX8_nurse_74 : decode cX8_nurse 74 = .ok (.iadd, 1) := by decide +kernel
theorem dX8_nurse_75 : decode cX8_nurse 75 = .ok (.iaload, 1) := by decide +kernel
theorem dX8_nurse_76 : decode cX8_nurse 76 = .ok (.ireturn, 1) := by decide +kernel
theorem dX8_drift_0 : decode cX8_drift 0 = .ok (.iload_n 1, 1) := by decide +kernel
theorem dX8_drift_1 : decode cX8_drift 1 = .ok (.iconst 1, 1) := by decide +kernel
theorem dX8_drift_2 : decode cX8_drift 2 = .ok (.bipush 40, 2) := by decide +kernel
theorem dX8_drift_4 : decode cX8_drift 4 = .ok (.invokestatic 44, 3) := by decide +kernel
theorem dX8_drift_7 : decode cX8_drift 7 = .ok (.ifCond .ne 5, 3) := by decide +kernel
theorem dX8_drift_10 : decode cX8_drift 10 = .ok (.iconst (-1), 1) := by decide +kernel
theorem dX8_drift_11 : decode cX8_drift 11 = .ok (.ireturn, 1) := by decide +kernel
theorem dX8_drift_12 : decode cX8_drift 12 = .ok (.aload_n 0, 1) := by decide +kernel
theorem dX8_drift_13 : decode cX8_drift 13 = .ok (.getfield 7, 3) := by decide +kernel
theorem dX8_drift_16 : decode cX8_drift 16 = .ok (.iconst 2, 1) := by decide +kernel
theorem dX8_drift_17 : decode cX8_drift 17 = .ok (.iaload, 1) := by decide +kernel
theorem dX8_drift_18 : decode cX8_drift 18 = .ok (.iload_n 1, 1) := by decide +kernel
theorem dX8_drift_19 : decode cX8_drift 19 = .ok (.iadd, 1) := by decide +kernel
theorem dX8_drift_20 : decode cX8_drift 20 = .ok (.sipush 9999, 3) := by decide +kernel
theorem dX8_drift_23 : decode cX8_drift 23 = .ok (.if_icmp .le 6, 3) := by decide +kernel
theorem dX8_drift_26 : decode cX8_drift 26 = .ok (.bipush (-3), 2) := by decide +kernel
theorem dX8_drift_28 : decode cX8_drift 28 = .ok (.ireturn, 1) := by decide +kernel
theorem dX8_drift_29 : decode cX8_drift 29 = .ok (.iconst 0, 1) := by decide +kernel
theorem dX8_drift_30 : decode cX8_drift 30 = .ok (.istore_n 2, 1) := by decide +kernel
theorem dX8_drift_31 : decode cX8_drift 31 = .ok (.iload_n 2, 1) := by decide +kernel
theorem dX8_drift_32 : decode cX8_drift 32 = .ok (.iload_n 1, 1) := by decide +kernel
theorem dX8_drift_33 : decode cX8_drift 33 = .ok (.if_icmp .ge 71, 3) := by decide +kernel
theorem dX8_drift_36 : decode cX8_drift 36 = .ok (.aload_n 0, 1) := by decide +kernel
theorem dX8_drift_37 : decode cX8_drift 37 = .ok (.invokevirtual 119, 3) := by decide +kernel
theorem dX8_drift_40 : decode cX8_drift 40 = .ok (.aload_n 0, 1) := by decide +kernel
theorem dX8_drift_41 : decode cX8_drift 41 = .ok (.getfield 7, 3) := by decide +kernel
theorem dX8_drift_44 : decode cX8_drift 44 = .ok (.iconst 3, 1) := by decide +kernel
theorem dX8_drift_45 : decode cX8_drift 45 = .ok (.aload_n 0, 1) := by decide +kernel
theorem dX8_drift_46 : decode cX8_drift 46 = .ok (.getfield 7, 3) := by decide +kernel
theorem dX8_drift_49 : decode cX8_drift 49 = .ok (.iconst 3, 1) := by decide +kernel
theorem dX8_drift_50 : decode cX8_drift 50 = .ok (.iaload, 1) := by decide +kernel
theorem dX8_drift_51 : decode cX8_drift 51 = .ok (.ldc 129, 2) := by decide +kernel
theorem dX8_drift_53 : decode cX8_drift 53 = .ok (.imul, 1) := by decide +kernel
theorem dX8_drift_54 : decode cX8_drift 54 = .ok (.sipush 12345, 3) := by decide +kernel
theorem dX8_drift_57 : decode cX8_drift 57 = .ok (.iadd, 1) := by decide +kernel
theorem dX8_drift_58 : decode cX8_drift 58 = .ok (.ldc 130, 2) := by decide +kernel
theorem dX8_drift_60 : decode cX8_drift 60 = .ok (.iand, 1) := by decide +kernel
theorem dX8_drift_61 : decode cX8_drift 61 = .ok (.iastore, 1) := by decide +kernel
theorem dX8_drift_62 : decode cX8_drift 62 = .ok (.aload_n 0, 1) := by decide +kernel
theorem dX8_drift_63 : decode cX8_drift 63 = .ok (.getfield 7, 3) := by decide +kernel
theorem dX8_drift_66 : decode cX8_drift 66 = .ok (.iconst 1, 1) := by decide +kernel
