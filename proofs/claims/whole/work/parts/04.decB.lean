theorem dX7_init_0 : decode cX7_init 0 = .ok (.aload_n 0, 1) := by decide +kernel
theorem dX7_init_1 : decode cX7_init 1 = .ok (.invokespecial 3, 3) := by decide +kernel
theorem dX7_init_4 : decode cX7_init 4 = .ok (.aload_n 0, 1) := by decide +kernel
theorem dX7_init_5 : decode cX7_init 5 = .ok (.new 9, 3) := by decide +kernel
theorem dX7_init_8 : decode cX7_init 8 = .ok (.dup, 1) := by decide +kernel
theorem dX7_init_9 : decode cX7_init 9 = .ok (.invokespecial 11, 3) := by decide +kernel
theorem dX7_init_12 : decode cX7_init 12 = .ok (.putfield 12, 3) := by decide +kernel
theorem dX7_init_15 : decode cX7_init 15 = .ok (.aload_n 0, 1) := by decide +kernel
theorem dX7_init_16 : decode cX7_init 16 = .ok (.new 9, 3) := by decide +kernel
theorem dX7_init_19 : decode cX7_init 19 = .ok (.dup, 1) := by decide +kernel
theorem dX7_init_20 : decode cX7_init 20 = .ok (.invokespecial 11, 3) := by decide +kernel
theorem dX7_init_23 : decode cX7_init 23 = .ok (.putfield 16, 3) := by decide +kernel
theorem dX7_init_26 : decode cX7_init 26 = .ok (.aload_n 0, 1) := by decide +kernel
theorem dX7_init_27 : decode cX7_init 27 = .ok (.iconst 0, 1) := by decide +kernel
theorem dX7_init_28 : decode cX7_init 28 = .ok (.putfield 19, 3) := by decide +kernel
theorem dX7_init_31 : decode cX7_init 31 = .ok (.aload_n 0, 1) := by decide +kernel
theorem dX7_init_32 : decode cX7_init 32 = .ok (.new 23, 3) := by decide +kernel
theorem dX7_init_35 : decode cX7_init 35 = .ok (.dup, 1) := by decide +kernel
theorem dX7_init_36 : decode cX7_init 36 = .ok (.invokespecial 25, 3) := by decide +kernel
theorem dX7_init_39 : decode cX7_init 39 = .ok (.putfield 26, 3) := by decide +kernel
theorem dX7_init_42 : decode cX7_init 42 = .ok (.aload_n 0, 1) := by decide +kernel
theorem dX7_init_43 : decode cX7_init 43 = .ok (.iconst 4, 1) := by decide +kernel
theorem dX7_init_44 : decode cX7_init 44 = .ok (.anewarray 30, 3) := by decide +kernel
theorem dX7_init_47 : decode cX7_init 47 = .ok (.putfield 32, 3) := by decide +kernel
theorem dX7_init_50 : decode cX7_init 50 = .ok (.aload_n 0, 1) := by decide +kernel
theorem dX7_init_51 : decode cX7_init 51 = .ok (.new 36, 3) := by decide +kernel
theorem dX7_init_54 : decode cX7_init 54 = .ok (.dup, 1) := by decide +kernel
theorem dX7_init_55 : decode cX7_init 55 = .ok (.invokespecial 38, 3) := by decide +kernel
theorem dX7_init_58 : decode cX7_init 58 = .ok (.putfield 39, 3) := by decide +kernel
theorem dX7_init_61 : decode cX7_init 61 = .ok (.aload_n 0, 1) := by decide +kernel
theorem dX7_init_62 : decode cX7_init 62 = .ok (.new 43, 3) := by decide +kernel
theorem dX7_init_65 : decode cX7_init 65 = .ok (.dup, 1) := by decide +kernel
theorem dX7_init_66 : decode cX7_init 66 = .ok (.invokespecial 45, 3) := by decide +kernel
theorem dX7_init_69 : decode cX7_init 69 = .ok (.putfield 46, 3) := by decide +kernel
theorem dX7_init_72 : decode cX7_init 72 = .ok (.aload_n 0, 1) := by decide +kernel
theorem dX7_init_73 : decode cX7_init 73 = .ok (.new 50, 3) := by decide +kernel
theorem dX7_init_76 : decode cX7_init 76 = .ok (.dup, 1) := by decide +kernel
theorem dX7_init_77 : decode cX7_init 77 = .ok (.invokespecial 52, 3) := by decide +kernel
theorem dX7_init_80 : decode cX7_init 80 = .ok (.putfield 53, 3) := by decide +kernel
theorem dX7_init_83 : decode cX7_init 83 = .ok (.aload_n 0, 1) := by decide +kernel
theorem dX7_init_84 : decode cX7_init 84 = .ok (.bipush 6, 2) := by decide +kernel
theorem dX7_init_86 : decode cX7_init 86 = .ok (.newarray .int, 2) := by decide +kernel
theorem dX7_init_88 : decode cX7_init 88 = .ok (.putfield 57, 3) := by decide +kernel
theorem dX7_init_91 : decode cX7_init 91 = .ok (.iconst 0, 1) := by decide +kernel
theorem dX7_init_92 : decode cX7_init 92 = .ok (.istore_n 1, 1) := by decide +kernel
theorem dX7_init_93 : decode cX7_init 93 = .ok (.iload_n 1, 1) := by decide +kernel
theorem dX7_init_94 : decode cX7_init 94 = .ok (.iconst 4, 1) := by decide +kernel
theorem dX7_init_95 : decode cX7_init 95 = .ok (.if_icmp .ge 22, 3) := by decide +kernel
theorem dX7_init_98 : decode cX7_init 98 = .ok (.aload_n 0, 1) := by decide +kernel
theorem dX7_init_99 : decode cX7_init 99 = .ok (.getfield 32, 3) := by decide +kernel
theorem dX7_init_102 : decode cX7_init 102 = .ok (.iload_n 1, 1) := by decide +kernel
theorem dX7_init_103 : decode cX7_init 103 = .ok (.new 30, 3) := by decide +kernel
theorem dX7_init_106 : decode cX7_init 106 = .ok (.dup, 1) := by decide +kernel
theorem dX7_init_107 : decode cX7_init 107 = .ok (.invokespecial 61, 3) := by decide +kernel
theorem dX7_init_110 : decode cX7_init 110 = .ok (.aastore, 1) := by decide +kernel
theorem dX7_init_111 : decode cX7_init 111 = .ok (.iinc 1 1, 3) := by decide +kernel
theorem dX7_init_114 : decode cX7_init 114 = .ok (.goto (-21), 3) := by decide +kernel
theorem dX7_init_117 : decode cX7_init 117 = .ok (.return_, 1) := by decide +kernel
theorem dX7_man_0 : decode cX7_man 0 = .ok (.iload_n 1, 1) := by decide +kernel
theorem dX7_man_1 : decode cX7_man 1 = .ok (.iconst 0, 1) := by decide +kernel
theorem dX7_man_2 : decode cX7_man 2 = .ok (.iconst 4, 1) := by decide +kernel
theorem dX7_man_3 : decode cX7_man 3 = .ok (.invokestatic 62, 3) := by decide +kernel
theorem dX7_man_6 : decode cX7_man 6 = .ok (.ifCond .eq 13, 3) := by decide +kernel
theorem dX7_man_9 : decode cX7_man 9 = .ok (.iload_n 2, 1) := by decide +kernel
theorem dX7_man_10 : decode cX7_man 10 = .ok (.iconst 1, 1) := by decide +kernel
theorem dX7_man_11 : decode cX7_man 11 = .ok (.bipush 60, 2) := by decide +kernel
theorem dX7_man_13 : decode cX7_man 13 = .ok (.invokestatic 62, 3) := by decide +kernel
theorem dX7_man_16 : decode cX7_man 16 = .ok (.ifCond .ne 5, 3) := by decide +kernel
theorem dX7_man_19 : decode cX7_man 19 = .ok (.iconst (-1), 1) := by decide +kernel
theorem dX7_man_20 : decode cX7_man 20 = .ok (.ireturn, 1) := by decide +kernel
theorem dX7_man_21 : decode cX7_man 21 = .ok (.aload_n 0, 1) := by decide +kernel
theorem dX7_man_22 : decode cX7_man 22 = .ok (.getfield 12, 3) := by decide +kernel
theorem dX7_man_25 : decode cX7_man 25 = .ok (.getfield 66, 3) := by decide +kernel
theorem dX7_man_28 : decode cX7_man 28 = .ok (.astore_n 3, 1) := by decide +kernel
theorem dX7_man_29 : decode cX7_man 29 = .ok (.aload_n 3, 1) := by decide +kernel
theorem dX7_man_30 : decode cX7_man 30 = .ok (.getfield 69, 3) := by decide +kernel
theorem dX7_man_33 : decode cX7_man 33 = .ok (.istore 4, 2) := by decide +kernel
theorem dX7_man_35 : decode cX7_man 35 = .ok (.iload 4, 2) := by decide +kernel
theorem dX7_man_37 : decode cX7_man 37 = .ok (.bipush 6, 2) := by decide +kernel
theorem dX7_man_39 : decode cX7_man 39 = .ok (.if_icmp .lt 6, 3) := by decide +kernel
theorem dX7_man_42 : decode cX7_man 42 = .ok (.bipush (-3), 2) := by decide +kernel
theorem dX7_man_44 : decode cX7_man 44 = .ok (.ireturn, 1) := by decide +kernel
theorem dX7_man_45 : decode cX7_man 45 = .ok (.aload_n 3, 1) := by decide +kernel
theorem dX7_man_46 : decode cX7_man 46 = .ok (.iload 4, 2) := by decide +kernel
theorem dX7_man_48 : decode cX7_man 48 = .ok (.invokevirtual 73, 3) := by decide +kernel
theorem dX7_man_51 : decode cX7_man 51 = .ok (.ifCond .eq 6, 3) := by decide +kernel
theorem dX7_man_54 : decode cX7_man 54 = .ok (.bipush (-2), 2) := by decide +kernel
theorem dX7_man_56 : decode cX7_man 56 = .ok (.ireturn, 1) := by decide +kernel
theorem dX7_man_57 : decode cX7_man 57 = .ok (.aload_n 3, 1) := by decide +kernel
theorem dX7_man_58 : decode cX7_man 58 = .ok (.invokevirtual 77, 3) := by decide +kernel
theorem dX7_man_61 : decode cX7_man 61 = .ok (.aload_n 3, 1) := by decide +kernel
theorem dX7_man_62 : decode cX7_man 62 = .ok (.iload_n 1, 1) := by decide +kernel
theorem dX7_man_63 : decode cX7_man 63 = .ok (.invokevirtual 80, 3) := by decide +kernel
theorem dX7_man_66 : decode cX7_man 66 = .ok (.aload_n 3, 1) := by decide +kernel
theorem dX7_man_67 : decode cX7_man 67 = .ok (.invokevirtual 84, 3) := by decide +kernel
theorem dX7_man_70 : decode cX7_man 70 = .ok (.aload_n 0, 1) := by decide +kernel
theorem dX7_man_71 : decode cX7_man 71 = .ok (.getfield 12, 3) := by decide +kernel
theorem dX7_man_74 : decode cX7_man 74 = .ok (.getfield 87, 3) := by decide +kernel
theorem dX7_man_77 : decode cX7_man 77 = .ok (.iload 4, 2) := by decide +kernel
theorem dX7_man_79 : decode cX7_man 79 = .ok (.iload_n 2, 1) := by decide +kernel
theorem dX7_man_80 : decode cX7_man 80 = .ok (.invokevirtual 90, 3) := by decide +kernel
theorem dX7_man_83 : decode cX7_man 83 = .ok (.aload_n 0, 1) := by decide +kernel
theorem dX7_man_84 : decode cX7_man 84 = .ok (.getfield 12, 3) := by decide +kernel
theorem dX7_man_87 : decode cX7_man 87 = .ok (.getfield 94, 3) := by decide +kernel
theorem dX7_man_90 : decode cX7_man 90 = .ok (.invokevirtual 98, 3) := by decide +kernel
theorem dX7_man_93 : decode cX7_man 93 = .ok (.iload 4, 2) := by decide +kernel
theorem dX7_man_95 : decode cX7_man 95 = .ok (.ireturn, 1) := by decide +kernel
theorem dX7_stood_0 : decode cX7_stood 0 = .ok (.aload_n 0, 1) := by decide +kernel
theorem dX7_stood_1 : decode cX7_stood 1 = .ok (.getfield 12, 3) := by decide +kernel
theorem dX7_stood_4 : decode cX7_stood 4 = .ok (.getfield 66, 3) := by decide +kernel
theorem dX7_stood_7 : decode cX7_stood 7 = .ok (.astore 4, 2) := by decide +kernel
theorem dX7_stood_9 : decode cX7_stood 9 = .ok (.aload 4, 2) := by decide +kernel
theorem dX7_stood_11 : decode cX7_stood 11 = .ok (.iload_n 1, 1) := by decide +kernel
theorem dX7_stood_12 : decode cX7_stood 12 = .ok (.invokevirtual 103, 3) := by decide +kernel
theorem dX7_stood_15 : decode cX7_stood 15 = .ok (.ifCond .eq 20, 3) := by decide +kernel
theorem dX7_stood_18 : decode cX7_stood 18 = .ok (.iload_n 2, 1) := by decide +kernel
theorem dX7_stood_19 : decode cX7_stood 19 = .ok (.invokestatic 106, 3) := by decide +kernel
theorem dX7_stood_22 : decode cX7_stood 22 = .ok (.ifCond .eq 13, 3) := by decide +kernel
theorem dX7_stood_25 : decode cX7_stood 25 = .ok (.iload_n 3, 1) := by decide +kernel
theorem dX7_stood_26 : decode cX7_stood 26 = .ok (.iconst 0, 1) := by decide +kernel
theorem dX7_stood_27 : decode cX7_stood 27 = .ok (.bipush 9, 2) := by decide +kernel
theorem dX7_stood_29 : decode cX7_stood 29 = .ok (.invokestatic 62, 3) := by decide +kernel
theorem dX7_stood_32 : decode cX7_stood 32 = .ok (.ifCond .ne 5, 3) := by decide +kernel
theorem dX7_stood_35 : decode cX7_stood 35 = .ok (.iconst (-1), 1) := by decide +kernel
theorem dX7_stood_36 : decode cX7_stood 36 = .ok (.ireturn, 1) := by decide +kernel
theorem dX7_stood_37 : decode cX7_stood 37 = .ok (.aload 4, 2) := by decide +kernel
theorem dX7_stood_39 : decode cX7_stood 39 = .ok (.iload_n 2, 1) := by decide +kernel
theorem dX7_stood_40 : decode cX7_stood 40 = .ok (.iload_n 3, 1) := by decide +kernel
theorem dX7_stood_41 : decode cX7_stood 41 = .ok (.invokevirtual 109, 3) := by decide +kernel
theorem dX7_stood_44 : decode cX7_stood 44 = .ok (.ifCond .eq 6, 3) := by decide +kernel
theorem dX7_stood_47 : decode cX7_stood 47 = .ok (.bipush (-2), 2) := by decide +kernel
theorem dX7_stood_49 : decode cX7_stood 49 = .ok (.ireturn, 1) := by decide +kernel
theorem dX7_stood_50 : decode cX7_stood 50 = .ok (.aload 4, 2) := by decide +kernel
theorem dX7_stood_52 : decode cX7_stood 52 = .ok (.getfield 113, 3) := by decide +kernel
theorem dX7_stood_55 : decode cX7_stood 55 = .ok (.iload_n 2, 1) := by decide +kernel
theorem dX7_stood_56 : decode cX7_stood 56 = .ok (.aaload, 1) := by decide +kernel
theorem dX7_stood_57 : decode cX7_stood 57 = .ok (.iload_n 1, 1) := by decide +kernel
theorem dX7_stood_58 : decode cX7_stood 58 = .ok (.iaload, 1) := by decide +kernel
theorem dX7_stood_59 : decode cX7_stood 59 = .ok (.istore 5, 2) := by decide +kernel
theorem dX7_stood_61 : decode cX7_stood 61 = .ok (.aload 4, 2) := by decide +kernel
theorem dX7_stood_63 : decode cX7_stood 63 = .ok (.getfield 113, 3) := by decide +kernel
theorem dX7_stood_66 : decode cX7_stood 66 = .ok (.iload_n 2, 1) := by decide +kernel
theorem dX7_stood_67 : decode cX7_stood 67 = .ok (.aaload, 1) := by decide +kernel
theorem dX7_stood_68 : decode cX7_stood 68 = .ok (.iload_n 1, 1) := by decide +kernel
theorem dX7_stood_69 : decode cX7_stood 69 = .ok (.iload_n 3, 1) := by decide +kernel
theorem dX7_stood_70 : decode cX7_stood 70 = .ok (.iastore, 1) := by decide +kernel
theorem dX7_stood_71 : decode cX7_stood 71 = .ok (.aload 4, 2) := by decide +kernel
theorem dX7_stood_73 : decode cX7_stood 73 = .ok (.invokevirtual 84, 3) := by decide +kernel
theorem dX7_stood_76 : decode cX7_stood 76 = .ok (.iload 5, 2) := by decide +kernel
theorem dX7_stood_78 : decode cX7_stood 78 = .ok (.ireturn, 1) := by decide +kernel
theorem dX7_of_0 : decode cX7_of 0 = .ok (.aload_n 0, 1) := by decide +kernel
theorem dX7_of_1 : decode cX7_of 1 = .ok (.getfield 12, 3) := by decide +kernel
theorem dX7_of_4 : decode cX7_of 4 = .ok (.getfield 66, 3) := by decide +kernel
theorem dX7_of_7 : decode cX7_of 7 = .ok (.astore_n 3, 1) := by decide +kernel
theorem dX7_of_8 : decode cX7_of 8 = .ok (.aload_n 3, 1) := by decide +kernel
theorem dX7_of_9 : decode cX7_of 9 = .ok (.iload_n 1, 1) := by decide +kernel
theorem dX7_of_10 : decode cX7_of 10 = .ok (.invokevirtual 103, 3) := by decide +kernel
theorem dX7_of_13 : decode cX7_of 13 = .ok (.ifCond .ne 5, 3) := by decide +kernel
theorem dX7_of_16 : decode cX7_of 16 = .ok (.iconst (-1), 1) := by decide +kernel
theorem dX7_of_17 : decode cX7_of 17 = .ok (.ireturn, 1) := by decide +kernel
theorem dX7_of_18 : decode cX7_of 18 = .ok (.aload_n 0, 1) := by decide +kernel
theorem dX7_of_19 : decode cX7_of 19 = .ok (.getfield 12, 3) := by decide +kernel
theorem dX7_of_22 : decode cX7_of 22 = .ok (.getfield 87, 3) := by decide +kernel
theorem dX7_of_25 : decode cX7_of 25 = .ok (.astore 4, 2) := by decide +kernel
theorem dX7_of_27 : decode cX7_of 27 = .ok (.iload_n 2, 1) := by decide +kernel
theorem dX7_of_28 : decode cX7_of 28 = .ok (.tableswitch 107 0 8 #[52, 59, 67, 74, 74, 74, 85, 92, 99], 52) := by decide +kernel
theorem dX7_of_80 : decode cX7_of 80 = .ok (.aload_n 3, 1) := by decide +kernel
theorem dX7_of_81 : decode cX7_of 81 = .ok (.getfield 117, 3) := by decide +kernel
theorem dX7_of_84 : decode cX7_of 84 = .ok (.iload_n 1, 1) := by decide +kernel
theorem dX7_of_85 : decode cX7_of 85 = .ok (.iaload, 1) := by decide +kernel
theorem dX7_of_86 : decode cX7_of 86 = .ok (.ireturn, 1) := by decide +kernel
theorem dX7_of_87 : decode cX7_of 87 = .ok (.aload 4, 2) := by decide +kernel
theorem dX7_of_89 : decode cX7_of 89 = .ok (.getfield 120, 3) := by decide +kernel
theorem dX7_of_92 : decode cX7_of 92 = .ok (.iload_n 1, 1) := by decide +kernel
theorem dX7_of_93 : decode cX7_of 93 = .ok (.iaload, 1) := by decide +kernel
theorem dX7_of_94 : decode cX7_of 94 = .ok (.ireturn, 1) := by decide +kernel
theorem dX7_of_95 : decode cX7_of 95 = .ok (.aload 4, 2) := by decide +kernel
theorem dX7_of_97 : decode cX7_of 97 = .ok (.iload_n 1, 1) := by decide +kernel
theorem dX7_of_98 : decode cX7_of 98 = .ok (.invokevirtual 123, 3) := by decide +kernel
theorem dX7_of_101 : decode cX7_of 101 = .ok (.ireturn, 1) := by decide +kernel
theorem dX7_of_102 : decode cX7_of 102 = .ok (.aload_n 3, 1) := by decide +kernel
theorem dX7_of_103 : decode cX7_of 103 = .ok (.getfield 113, 3) := by decide +kernel
theorem dX7_of_106 : decode cX7_of 106 = .ok (.iload_n 2, 1) := by decide +kernel
theorem dX7_of_107 : decode cX7_of 107 = .ok (.iconst 3, 1) := by decide +kernel
theorem dX7_of_108 : decode cX7_of 108 = .ok (.isub, 1) := by decide +kernel
theorem dX7_of_109 : decode cX7_of 109 = .ok (.aaload, 1) := by decide +kernel
theorem dX7_of_110 : decode cX7_of 110 = .ok (.iload_n 1, 1) := by decide +kernel
theorem dX7_of_111 : decode cX7_of 111 = .ok (.iaload, 1) := by decide +kernel
theorem dX7_of_112 : decode cX7_of 112 = .ok (.ireturn, 1) := by decide +kernel
theorem dX7_of_113 : decode cX7_of 113 = .ok (.aload_n 3, 1) := by decide +kernel
theorem dX7_of_114 : decode cX7_of 114 = .ok (.getfield 127, 3) := by decide +kernel
theorem dX7_of_117 : decode cX7_of 117 = .ok (.iload_n 1, 1) := by decide +kernel
theorem dX7_of_118 : decode cX7_of 118 = .ok (.iaload, 1) := by decide +kernel
theorem dX7_of_119 : decode cX7_of 119 = .ok (.ireturn, 1) := by decide +kernel
theorem dX7_of_120 : decode cX7_of 120 = .ok (.aload 4, 2) := by decide +kernel
theorem dX7_of_122 : decode cX7_of 122 = .ok (.iload_n 1, 1) := by decide +kernel
theorem dX7_of_123 : decode cX7_of 123 = .ok (.invokevirtual 130, 3) := by decide +kernel
theorem dX7_of_126 : decode cX7_of 126 = .ok (.ireturn, 1) := by decide +kernel
theorem dX7_of_127 : decode cX7_of 127 = .ok (.aload 4, 2) := by decide +kernel
theorem dX7_of_129 : decode cX7_of 129 = .ok (.iload_n 1, 1) := by decide +kernel
theorem dX7_of_130 : decode cX7_of 130 = .ok (.aload_n 3, 1) := by decide +kernel
theorem dX7_of_131 : decode cX7_of 131 = .ok (.invokevirtual 133, 3) := by decide +kernel
theorem dX7_of_134 : decode cX7_of 134 = .ok (.ireturn, 1) := by decide +kernel
theorem dX7_of_135 : decode cX7_of 135 = .ok (.iconst (-1), 1) := by decide +kernel
theorem dX7_of_136 : decode cX7_of 136 = .ok (.ireturn, 1) := by decide +kernel
theorem dX7_seat_0 : decode cX7_seat 0 = .ok (.iload_n 1, 1) := by decide +kernel
theorem dX7_seat_1 : decode cX7_seat 1 = .ok (.ifCond .ge 7, 3) := by decide +kernel
theorem dX7_seat_4 : decode cX7_seat 4 = .ok (.iconst (-1), 1) := by decide +kernel
theorem dX7_seat_5 : decode cX7_seat 5 = .ok (.goto 14, 3) := by decide +kernel
theorem dX7_seat_8 : decode cX7_seat 8 = .ok (.aload_n 0, 1) := by decide +kernel
theorem dX7_seat_9 : decode cX7_seat 9 = .ok (.getfield 12, 3) := by decide +kernel
theorem dX7_seat_12 : decode cX7_seat 12 = .ok (.getfield 87, 3) := by decide +kernel
theorem dX7_seat_15 : decode cX7_seat 15 = .ok (.iload_n 1, 1) := by decide +kernel
theorem dX7_seat_16 : decode cX7_seat 16 = .ok (.invokevirtual 137, 3) := by decide +kernel
theorem dX7_seat_19 : decode cX7_seat 19 = .ok (.ireturn, 1) := by decide +kernel
theorem dX7_type_0 : decode cX7_type 0 = .ok (.iload_n 1, 1) := by decide +kernel
theorem dX7_type_1 : decode cX7_type 1 = .ok (.bipush 32, 2) := by decide +kernel
theorem dX7_type_3 : decode cX7_type 3 = .ok (.bipush 126, 2) := by decide +kernel
theorem dX7_type_5 : decode cX7_type 5 = .ok (.invokestatic 62, 3) := by decide +kernel
theorem dX7_type_8 : decode cX7_type 8 = .ok (.ifCond .ne 5, 3) := by decide +kernel
theorem dX7_type_11 : decode cX7_type 11 = .ok (.iconst (-1), 1) := by decide +kernel
theorem dX7_type_12 : decode cX7_type 12 = .ok (.ireturn, 1) := by decide +kernel
theorem dX7_type_13 : decode cX7_type 13 = .ok (.aload_n 0, 1) := by decide +kernel
theorem dX7_type_14 : decode cX7_type 14 = .ok (.getfield 26, 3) := by decide +kernel
theorem dX7_type_17 : decode cX7_type 17 = .ok (.getfield 140, 3) := by decide +kernel
theorem dX7_type_20 : decode cX7_type 20 = .ok (.bipush 70, 2) := by decide +kernel
theorem dX7_type_22 : decode cX7_type 22 = .ok (.if_icmp .lt 6, 3) := by decide +kernel
theorem dX7_type_25 : decode cX7_type 25 = .ok (.bipush (-3), 2) := by decide +kernel
theorem dX7_type_27 : decode cX7_type 27 = .ok (.ireturn, 1) := by decide +kernel
theorem dX7_type_28 : decode cX7_type 28 = .ok (.aload_n 0, 1) := by decide +kernel
theorem dX7_type_29 : decode cX7_type 29 = .ok (.getfield 26, 3) := by decide +kernel
theorem dX7_type_32 : decode cX7_type 32 = .ok (.iload_n 1, 1) := by decide +kernel
theorem dX7_type_33 : decode cX7_type 33 = .ok (.i2c, 1) := by decide +kernel
theorem dX7_type_34 : decode cX7_type 34 = .ok (.invokevirtual 143, 3) := by decide +kernel
theorem dX7_type_37 : decode cX7_type 37 = .ok (.aload_n 0, 1) := by decide +kernel
theorem dX7_type_38 : decode cX7_type 38 = .ok (.getfield 26, 3) := by decide +kernel
theorem dX7_type_41 : decode cX7_type 41 = .ok (.getfield 140, 3) := by decide +kernel
theorem dX7_type_44 : decode cX7_type 44 = .ok (.ireturn, 1) := by decide +kernel
theorem dX7_read_0 : decode cX7_read 0 = .ok (.aload_n 0, 1) := by decide +kernel
theorem dX7_read_1 : decode cX7_read 1 = .ok (.getfield 26, 3) := by decide +kernel
theorem dX7_read_4 : decode cX7_read 4 = .ok (.invokevirtual 147, 3) := by decide +kernel
theorem dX7_read_7 : decode cX7_read 7 = .ok (.istore_n 1, 1) := by decide +kernel
theorem dX7_read_8 : decode cX7_read 8 = .ok (.aload_n 0, 1) := by decide +kernel
theorem dX7_read_9 : decode cX7_read 9 = .ok (.getfield 26, 3) := by decide +kernel
theorem dX7_read_12 : decode cX7_read 12 = .ok (.iconst 0, 1) := by decide +kernel
theorem dX7_read_13 : decode cX7_read 13 = .ok (.putfield 140, 3) := by decide +kernel
theorem dX7_read_16 : decode cX7_read 16 = .ok (.iload_n 1, 1) := by decide +kernel
theorem dX7_read_17 : decode cX7_read 17 = .ok (.ifCond .eq 5, 3) := by decide +kernel
theorem dX7_read_20 : decode cX7_read 20 = .ok (.iload_n 1, 1) := by decide +kernel
theorem dX7_read_21 : decode cX7_read 21 = .ok (.ireturn, 1) := by decide +kernel
theorem dX7_read_22 : decode cX7_read 22 = .ok (.aload_n 0, 1) := by decide +kernel
theorem dX7_read_23 : decode cX7_read 23 = .ok (.getfield 12, 3) := by decide +kernel
theorem dX7_read_26 : decode cX7_read 26 = .ok (.getfield 66, 3) := by decide +kernel
theorem dX7_read_29 : decode cX7_read 29 = .ok (.aload_n 0, 1) := by decide +kernel
theorem dX7_read_30 : decode cX7_read 30 = .ok (.getfield 26, 3) := by decide +kernel
theorem dX7_read_33 : decode cX7_read 33 = .ok (.getfield 151, 3) := by decide +kernel
theorem dX7_read_36 : decode cX7_read 36 = .ok (.invokevirtual 152, 3) := by decide +kernel
theorem dX7_read_39 : decode cX7_read 39 = .ok (.aload_n 0, 1) := by decide +kernel
theorem dX7_read_40 : decode cX7_read 40 = .ok (.getfield 12, 3) := by decide +kernel
theorem dX7_read_43 : decode cX7_read 43 = .ok (.getfield 66, 3) := by decide +kernel
theorem dX7_read_46 : decode cX7_read 46 = .ok (.invokevirtual 84, 3) := by decide +kernel
theorem dX7_read_49 : decode cX7_read 49 = .ok (.aload_n 0, 1) := by decide +kernel
theorem dX7_read_50 : decode cX7_read 50 = .ok (.getfield 12, 3) := by decide +kernel
theorem dX7_read_53 : decode cX7_read 53 = .ok (.getfield 87, 3) := by decide +kernel
theorem dX7_read_56 : decode cX7_read 56 = .ok (.aload_n 0, 1) := by decide +kernel
theorem dX7_read_57 : decode cX7_read 57 = .ok (.getfield 26, 3) := by decide +kernel
theorem dX7_read_60 : decode cX7_read 60 = .ok (.getfield 151, 3) := by decide +kernel
theorem dX7_read_63 : decode cX7_read 63 = .ok (.getfield 69, 3) := by decide +kernel
theorem dX7_read_66 : decode cX7_read 66 = .ok (.aload_n 0, 1) := by decide +kernel
theorem dX7_read_67 : decode cX7_read 67 = .ok (.getfield 26, 3) := by decide +kernel
theorem dX7_read_70 : decode cX7_read 70 = .ok (.getfield 156, 3) := by decide +kernel
theorem dX7_read_73 : decode cX7_read 73 = .ok (.invokevirtual 157, 3) := by decide +kernel
theorem dX7_read_76 : decode cX7_read 76 = .ok (.aload_n 0, 1) := by decide +kernel
theorem dX7_read_77 : decode cX7_read 77 = .ok (.getfield 12, 3) := by decide +kernel
theorem dX7_read_80 : decode cX7_read 80 = .ok (.getfield 94, 3) := by decide +kernel
theorem dX7_read_83 : decode cX7_read 83 = .ok (.invokevirtual 98, 3) := by decide +kernel
theorem dX7_read_86 : decode cX7_read 86 = .ok (.aload_n 0, 1) := by decide +kernel
theorem dX7_read_87 : decode cX7_read 87 = .ok (.getfield 12, 3) := by decide +kernel
theorem dX7_read_90 : decode cX7_read 90 = .ok (.getfield 66, 3) := by decide +kernel
theorem dX7_read_93 : decode cX7_read 93 = .ok (.getfield 69, 3) := by decide +kernel
theorem dX7_read_96 : decode cX7_read 96 = .ok (.ireturn, 1) := by decide +kernel
theorem dX7_count_0 : decode cX7_count 0 = .ok (.aload_n 0, 1) := by decide +kernel
theorem dX7_count_1 : decode cX7_count 1 = .ok (.getfield 12, 3) := by decide +kernel
theorem dX7_count_4 : decode cX7_count 4 = .ok (.getfield 87, 3) := by decide +kernel
theorem dX7_count_7 : decode cX7_count 7 = .ok (.astore_n 2, 1) := by decide +kernel
theorem dX7_count_8 : decode cX7_count 8 = .ok (.iload_n 1, 1) := by decide +kernel
theorem dX7_count_9 : decode cX7_count 9 = .ok (.tableswitch 104 0 6 #[43, 54, 59, 64, 69, 74, 93], 43) := by decide +kernel
theorem dX7_count_52 : decode cX7_count 52 = .ok (.aload_n 0, 1) := by decide +kernel
theorem dX7_count_53 : decode cX7_count 53 = .ok (.getfield 12, 3) := by decide +kernel
theorem dX7_count_56 : decode cX7_count 56 = .ok (.getfield 66, 3) := by decide +kernel
theorem dX7_count_59 : decode cX7_count 59 = .ok (.getfield 69, 3) := by decide +kernel
theorem dX7_count_62 : decode cX7_count 62 = .ok (.ireturn, 1) := by decide +kernel
theorem dX7_count_63 : decode cX7_count 63 = .ok (.aload_n 2, 1) := by decide +kernel
theorem dX7_count_64 : decode cX7_count 64 = .ok (.getfield 161, 3) := by decide +kernel
theorem dX7_count_67 : decode cX7_count 67 = .ok (.ireturn, 1) := by decide +kernel
theorem dX7_count_68 : decode cX7_count 68 = .ok (.aload_n 2, 1) := by decide +kernel
theorem dX7_count_69 : decode cX7_count 69 = .ok (.getfield 164, 3) := by decide +kernel
theorem dX7_count_72 : decode cX7_count 72 = .ok (.ireturn, 1) := by decide +kernel
theorem dX7_count_73 : decode cX7_count 73 = .ok (.aload_n 2, 1) := by decide +kernel
theorem dX7_count_74 : decode cX7_count 74 = .ok (.invokevirtual 167, 3) := by decide +kernel
theorem dX7_count_77 : decode cX7_count 77 = .ok (.ireturn, 1) := by decide +kernel
theorem dX7_count_78 : decode cX7_count 78 = .ok (.aload_n 2, 1) := by decide +kernel
theorem dX7_count_79 : decode cX7_count 79 = .ok (.invokevirtual 170, 3) := by decide +kernel
theorem dX7_count_82 : decode cX7_count 82 = .ok (.ireturn, 1) := by decide +kernel
theorem dX7_count_83 : decode cX7_count 83 = .ok (.aload_n 0, 1) := by decide +kernel
theorem dX7_count_84 : decode cX7_count 84 = .ok (.getfield 12, 3) := by decide +kernel
theorem dX7_count_87 : decode cX7_count 87 = .ok (.getfield 66, 3) := by decide +kernel
theorem dX7_count_90 : decode cX7_count 90 = .ok (.aload_n 2, 1) := by decide +kernel
theorem dX7_count_91 : decode cX7_count 91 = .ok (.getfield 173, 3) := by decide +kernel
theorem dX7_count_94 : decode cX7_count 94 = .ok (.aload_n 2, 1) := by decide +kernel
theorem dX7_count_95 : decode cX7_count 95 = .ok (.getfield 161, 3) := by decide +kernel
theorem dX7_count_98 : decode cX7_count 98 = .ok (.invokevirtual 176, 3) := by decide +kernel
theorem dX7_count_101 : decode cX7_count 101 = .ok (.ireturn, 1) := by decide +kernel
theorem dX7_count_102 : decode cX7_count 102 = .ok (.aload_n 0, 1) := by decide +kernel
theorem dX7_count_103 : decode cX7_count 103 = .ok (.getfield 12, 3) := by decide +kernel
theorem dX7_count_106 : decode cX7_count 106 = .ok (.getfield 94, 3) := by decide +kernel
theorem dX7_count_109 : decode cX7_count 109 = .ok (.getfield 180, 3) := by decide +kernel
theorem dX7_count_112 : decode cX7_count 112 = .ok (.ireturn, 1) := by decide +kernel
theorem dX7_count_113 : decode cX7_count 113 = .ok (.iconst (-1), 1) := by decide +kernel
theorem dX7_count_114 : decode cX7_count 114 = .ok (.ireturn, 1) := by decide +kernel
theorem dX7_years_0 : decode cX7_years 0 = .ok (.aload_n 0, 1) := by decide +kernel
theorem dX7_years_1 : decode cX7_years 1 = .ok (.iload_n 1, 1) := by decide +kernel
theorem dX7_years_2 : decode cX7_years 2 = .ok (.iconst 0, 1) := by decide +kernel
theorem dX7_years_3 : decode cX7_years 3 = .ok (.invokevirtual 183, 3) := by decide +kernel
theorem dX7_years_6 : decode cX7_years 6 = .ok (.ireturn, 1) := by decide +kernel
theorem dX7_move_0 : decode cX7_move 0 = .ok (.aload_n 0, 1) := by decide +kernel
theorem dX7_move_1 : decode cX7_move 1 = .ok (.getfield 12, 3) := by decide +kernel
theorem dX7_move_4 : decode cX7_move 4 = .ok (.getfield 87, 3) := by decide +kernel
theorem dX7_move_7 : decode cX7_move 7 = .ok (.astore_n 2, 1) := by decide +kernel
theorem dX7_move_8 : decode cX7_move 8 = .ok (.aload_n 2, 1) := by decide +kernel
theorem dX7_move_9 : decode cX7_move 9 = .ok (.iload_n 1, 1) := by decide +kernel
theorem dX7_move_10 : decode cX7_move 10 = .ok (.invokevirtual 187, 3) := by decide +kernel
theorem dX7_move_13 : decode cX7_move 13 = .ok (.ifCond .ne 5, 3) := by decide +kernel
theorem dX7_move_16 : decode cX7_move 16 = .ok (.iconst (-1), 1) := by decide +kernel
theorem dX7_move_17 : decode cX7_move 17 = .ok (.ireturn, 1) := by decide +kernel
theorem dX7_move_18 : decode cX7_move 18 = .ok (.aload_n 0, 1) := by decide +kernel
theorem dX7_move_19 : decode cX7_move 19 = .ok (.getfield 12, 3) := by decide +kernel
theorem dX7_move_22 : decode cX7_move 22 = .ok (.getfield 94, 3) := by decide +kernel
theorem dX7_move_25 : decode cX7_move 25 = .ok (.aload_n 2, 1) := by decide +kernel
theorem dX7_move_26 : decode cX7_move 26 = .ok (.invokevirtual 190, 3) := by decide +kernel
theorem dX7_move_29 : decode cX7_move 29 = .ok (.aload_n 2, 1) := by decide +kernel
theorem dX7_move_30 : decode cX7_move 30 = .ok (.iload_n 1, 1) := by decide +kernel
theorem dX7_move_31 : decode cX7_move 31 = .ok (.invokevirtual 194, 3) := by decide +kernel
theorem dX7_move_34 : decode cX7_move 34 = .ok (.aload_n 2, 1) := by decide +kernel
theorem dX7_move_35 : decode cX7_move 35 = .ok (.iload_n 1, 1) := by decide +kernel
theorem dX7_move_36 : decode cX7_move 36 = .ok (.invokevirtual 137, 3) := by decide +kernel
theorem dX7_move_39 : decode cX7_move 39 = .ok (.ireturn, 1) := by decide +kernel
theorem dX7_nurse_0 : decode cX7_nurse 0 = .ok (.aload_n 0, 1) := by decide +kernel
theorem dX7_nurse_1 : decode cX7_nurse 1 = .ok (.getfield 12, 3) := by decide +kernel
theorem dX7_nurse_4 : decode cX7_nurse 4 = .ok (.getfield 66, 3) := by decide +kernel
theorem dX7_nurse_7 : decode cX7_nurse 7 = .ok (.iload_n 1, 1) := by decide +kernel
theorem dX7_nurse_8 : decode cX7_nurse 8 = .ok (.invokevirtual 103, 3) := by decide +kernel
theorem dX7_nurse_11 : decode cX7_nurse 11 = .ok (.ifCond .eq 13, 3) := by decide +kernel
theorem dX7_nurse_14 : decode cX7_nurse 14 = .ok (.iload_n 2, 1) := by decide +kernel
theorem dX7_nurse_15 : decode cX7_nurse 15 = .ok (.iconst 1, 1) := by decide +kernel
theorem dX7_nurse_16 : decode cX7_nurse 16 = .ok (.bipush 60, 2) := by decide +kernel
theorem dX7_nurse_18 : decode cX7_nurse 18 = .ok (.invokestatic 62, 3) := by decide +kernel
theorem dX7_nurse_21 : decode cX7_nurse 21 = .ok (.ifCond .ne 5, 3) := by decide +kernel
theorem dX7_nurse_24 : decode cX7_nurse 24 = .ok (.iconst (-1), 1) := by decide +kernel
theorem dX7_nurse_25 : decode cX7_nurse 25 = .ok (.ireturn, 1) := by decide +kernel
theorem dX7_nurse_26 : decode cX7_nurse 26 = .ok (.aload_n 0, 1) := by decide +kernel
theorem dX7_nurse_27 : decode cX7_nurse 27 = .ok (.getfield 12, 3) := by decide +kernel
theorem dX7_nurse_30 : decode cX7_nurse 30 = .ok (.getfield 87, 3) := by decide +kernel
theorem dX7_nurse_33 : decode cX7_nurse 33 = .ok (.astore_n 3, 1) := by decide +kernel
theorem dX7_nurse_34 : decode cX7_nurse 34 = .ok (.aload_n 3, 1) := by decide +kernel
theorem dX7_nurse_35 : decode cX7_nurse 35 = .ok (.iload_n 1, 1) := by decide +kernel
theorem dX7_nurse_36 : decode cX7_nurse 36 = .ok (.invokevirtual 123, 3) := by decide +kernel
theorem dX7_nurse_39 : decode cX7_nurse 39 = .ok (.bipush (-4), 2) := by decide +kernel
theorem dX7_nurse_41 : decode cX7_nurse 41 = .ok (.if_icmp .ne 6, 3) := by decide +kernel
theorem dX7_nurse_44 : decode cX7_nurse 44 = .ok (.bipush (-2), 2) := by decide +kernel
theorem dX7_nurse_46 : decode cX7_nurse 46 = .ok (.ireturn, 1) := by decide +kernel
theorem dX7_nurse_47 : decode cX7_nurse 47 = .ok (.aload_n 0, 1) := by decide +kernel
theorem dX7_nurse_48 : decode cX7_nurse 48 = .ok (.getfield 12, 3) := by decide +kernel
theorem dX7_nurse_51 : decode cX7_nurse 51 = .ok (.getfield 94, 3) := by decide +kernel
theorem dX7_nurse_54 : decode cX7_nurse 54 = .ok (.aload_n 3, 1) := by decide +kernel
theorem dX7_nurse_55 : decode cX7_nurse 55 = .ok (.invokevirtual 190, 3) := by decide +kernel
theorem dX7_nurse_58 : decode cX7_nurse 58 = .ok (.aload_n 3, 1) := by decide +kernel
theorem dX7_nurse_59 : decode cX7_nurse 59 = .ok (.getfield 120, 3) := by decide +kernel
theorem dX7_nurse_62 : decode cX7_nurse 62 = .ok (.iload_n 1, 1) := by decide +kernel
theorem dX7_nurse_63 : decode cX7_nurse 63 = .ok (.bipush 60, 2) := by decide +kernel
theorem dX7_nurse_65 : decode cX7_nurse 65 = .ok (.aload_n 3, 1) := by decide +kernel
theorem dX7_nurse_66 : decode cX7_nurse 66 = .ok (.getfield 120, 3) := by decide +kernel
theorem dX7_nurse_69 : decode cX7_nurse 69 = .ok (.iload_n 1, 1) := by decide +kernel
theorem dX7_nurse_70 : decode cX7_nurse 70 = .ok (.iaload, 1) := by decide +kernel
theorem dX7_nurse_71 : decode cX7_nurse 71 = .ok (.iload_n 2, 1) := by decide +kernel
theorem dX7_nurse_72 : decode cX7_nurse 72 = .ok (.iadd, 1) := by decide +kernel
theorem dX7_nurse_73 : decode cX7_nurse 73 = .ok (.invokestatic 197, 3) := by decide +kernel
theorem dX7_nurse_76 : decode cX7_nurse 76 = .ok (.iastore, 1) := by decide +kernel
theorem dX7_nurse_77 : decode cX7_nurse 77 = .ok (.aload_n 3, 1) := by decide +kernel
theorem dX7_nurse_78 : decode cX7_nurse 78 = .ok (.getfield 120, 3) := by decide +kernel
theorem dX7_nurse_81 : decode cX7_nurse 81 = .ok (.iload_n 1, 1) := by decide +kernel
theorem dX7_nurse_82 : decode cX7_nurse 82 = .ok (.iaload, 1) := by decide +kernel
theorem dX7_nurse_83 : decode cX7_nurse 83 = .ok (.ireturn, 1) := by decide +kernel
theorem dX7_drift_0 : decode cX7_drift 0 = .ok (.aload_n 0, 1) := by decide +kernel
theorem dX7_drift_1 : decode cX7_drift 1 = .ok (.iload_n 1, 1) := by decide +kernel
theorem dX7_drift_2 : decode cX7_drift 2 = .ok (.iconst 1, 1) := by decide +kernel
theorem dX7_drift_3 : decode cX7_drift 3 = .ok (.invokevirtual 183, 3) := by decide +kernel
theorem dX7_drift_6 : decode cX7_drift 6 = .ok (.ireturn, 1) := by decide +kernel
theorem dX7_undo_0 : decode cX7_undo 0 = .ok (.aload_n 0, 1) := by decide +kernel
theorem dX7_undo_1 : decode cX7_undo 1 = .ok (.getfield 12, 3) := by decide +kernel
theorem dX7_undo_4 : decode cX7_undo 4 = .ok (.getfield 94, 3) := by decide +kernel
theorem dX7_undo_7 : decode cX7_undo 7 = .ok (.getfield 180, 3) := by decide +kernel
theorem dX7_undo_10 : decode cX7_undo 10 = .ok (.ifCond .ne 6, 3) := by decide +kernel
theorem dX7_undo_13 : decode cX7_undo 13 = .ok (.bipush (-4), 2) := by decide +kernel
theorem dX7_undo_15 : decode cX7_undo 15 = .ok (.ireturn, 1) := by decide +kernel
theorem dX7_undo_16 : decode cX7_undo 16 = .ok (.aload_n 0, 1) := by decide +kernel
theorem dX7_undo_17 : decode cX7_undo 17 = .ok (.getfield 12, 3) := by decide +kernel
theorem dX7_undo_20 : decode cX7_undo 20 = .ok (.getfield 94, 3) := by decide +kernel
theorem dX7_undo_23 : decode cX7_undo 23 = .ok (.aload_n 0, 1) := by decide +kernel
theorem dX7_undo_24 : decode cX7_undo 24 = .ok (.getfield 12, 3) := by decide +kernel
theorem dX7_undo_27 : decode cX7_undo 27 = .ok (.getfield 87, 3) := by decide +kernel
theorem dX7_undo_30 : decode cX7_undo 30 = .ok (.invokevirtual 203, 3) := by decide +kernel
theorem dX7_undo_33 : decode cX7_undo 33 = .ok (.aload_n 0, 1) := by decide +kernel
theorem dX7_undo_34 : decode cX7_undo 34 = .ok (.getfield 12, 3) := by decide +kernel
theorem dX7_undo_37 : decode cX7_undo 37 = .ok (.getfield 94, 3) := by decide +kernel
theorem dX7_undo_40 : decode cX7_undo 40 = .ok (.getfield 180, 3) := by decide +kernel
theorem dX7_undo_43 : decode cX7_undo 43 = .ok (.ireturn, 1) := by decide +kernel
theorem dX7_seed_0 : decode cX7_seed 0 = .ok (.iload_n 1, 1) := by decide +kernel
theorem dX7_seed_1 : decode cX7_seed 1 = .ok (.ifCond .ge 5, 3) := by decide +kernel
theorem dX7_seed_4 : decode cX7_seed 4 = .ok (.iconst (-1), 1) := by decide +kernel
theorem dX7_seed_5 : decode cX7_seed 5 = .ok (.ireturn, 1) := by decide +kernel
theorem dX7_seed_6 : decode cX7_seed 6 = .ok (.aload_n 0, 1) := by decide +kernel
theorem dX7_seed_7 : decode cX7_seed 7 = .ok (.getfield 12, 3) := by decide +kernel
theorem dX7_seed_10 : decode cX7_seed 10 = .ok (.getfield 87, 3) := by decide +kernel
theorem dX7_seed_13 : decode cX7_seed 13 = .ok (.getfield 206, 3) := by decide +kernel
theorem dX7_seed_16 : decode cX7_seed 16 = .ok (.istore_n 2, 1) := by decide +kernel
theorem dX7_seed_17 : decode cX7_seed 17 = .ok (.aload_n 0, 1) := by decide +kernel
theorem dX7_seed_18 : decode cX7_seed 18 = .ok (.getfield 12, 3) := by decide +kernel
theorem dX7_seed_21 : decode cX7_seed 21 = .ok (.getfield 87, 3) := by decide +kernel
theorem dX7_seed_24 : decode cX7_seed 24 = .ok (.iload_n 1, 1) := by decide +kernel
theorem dX7_seed_25 : decode cX7_seed 25 = .ok (.putfield 206, 3) := by decide +kernel
theorem dX7_seed_28 : decode cX7_seed 28 = .ok (.iload_n 2, 1) := by decide +kernel
theorem dX7_seed_29 : decode cX7_seed 29 = .ok (.ireturn, 1) := by decide +kernel
theorem dX7_goOn_0 : decode cX7_goOn 0 = .ok (.iload_n 1, 1) := by decide +kernel
theorem dX7_goOn_1 : decode cX7_goOn 1 = .ok (.iconst 1, 1) := by decide +kernel
theorem dX7_goOn_2 : decode cX7_goOn 2 = .ok (.bipush 40, 2) := by decide +kernel
theorem dX7_goOn_4 : decode cX7_goOn 4 = .ok (.invokestatic 62, 3) := by decide +kernel
theorem dX7_goOn_7 : decode cX7_goOn 7 = .ok (.ifCond .ne 5, 3) := by decide +kernel
theorem dX7_goOn_10 : decode cX7_goOn 10 = .ok (.iconst (-1), 1) := by decide +kernel
theorem dX7_goOn_11 : decode cX7_goOn 11 = .ok (.ireturn, 1) := by decide +kernel
theorem dX7_goOn_12 : decode cX7_goOn 12 = .ok (.aload_n 0, 1) := by decide +kernel
theorem dX7_goOn_13 : decode cX7_goOn 13 = .ok (.getfield 12, 3) := by decide +kernel
theorem dX7_goOn_16 : decode cX7_goOn 16 = .ok (.getfield 87, 3) := by decide +kernel
theorem dX7_goOn_19 : decode cX7_goOn 19 = .ok (.astore_n 3, 1) := by decide +kernel
theorem dX7_goOn_20 : decode cX7_goOn 20 = .ok (.aload_n 3, 1) := by decide +kernel
theorem dX7_goOn_21 : decode cX7_goOn 21 = .ok (.getfield 164, 3) := by decide +kernel
theorem dX7_goOn_24 : decode cX7_goOn 24 = .ok (.iload_n 1, 1) := by decide +kernel
theorem dX7_goOn_25 : decode cX7_goOn 25 = .ok (.iadd, 1) := by decide +kernel
theorem dX7_goOn_26 : decode cX7_goOn 26 = .ok (.sipush 9999, 3) := by decide +kernel
theorem dX7_goOn_29 : decode cX7_goOn 29 = .ok (.if_icmp .le 6, 3) := by decide +kernel
theorem dX7_goOn_32 : decode cX7_goOn 32 = .ok (.bipush (-3), 2) := by decide +kernel
theorem dX7_goOn_34 : decode cX7_goOn 34 = .ok (.ireturn, 1) := by decide +kernel
theorem dX7_goOn_35 : decode cX7_goOn 35 = .ok (.iconst 0, 1) := by decide +kernel
theorem dX7_goOn_36 : decode cX7_goOn 36 = .ok (.istore 4, 2) := by decide +kernel
theorem dX7_goOn_38 : decode cX7_goOn 38 = .ok (.iload 4, 2) := by decide +kernel
theorem dX7_goOn_40 : decode cX7_goOn 40 = .ok (.iload_n 1, 1) := by decide +kernel
theorem dX7_goOn_41 : decode cX7_goOn 41 = .ok (.if_icmp .ge 39, 3) := by decide +kernel
theorem dX7_goOn_44 : decode cX7_goOn 44 = .ok (.aload_n 0, 1) := by decide +kernel
theorem dX7_goOn_45 : decode cX7_goOn 45 = .ok (.getfield 12, 3) := by decide +kernel
theorem dX7_goOn_48 : decode cX7_goOn 48 = .ok (.getfield 94, 3) := by decide +kernel
theorem dX7_goOn_51 : decode cX7_goOn 51 = .ok (.aload_n 3, 1) := by decide +kernel
theorem dX7_goOn_52 : decode cX7_goOn 52 = .ok (.invokevirtual 190, 3) := by decide +kernel
theorem dX7_goOn_55 : decode cX7_goOn 55 = .ok (.iload_n 2, 1) := by decide +kernel
theorem dX7_goOn_56 : decode cX7_goOn 56 = .ok (.ifCond .eq 7, 3) := by decide +kernel
theorem dX7_goOn_59 : decode cX7_goOn 59 = .ok (.aload_n 3, 1) := by decide +kernel
theorem dX7_goOn_60 : decode cX7_goOn 60 = .ok (.invokevirtual 209, 3) := by decide +kernel
theorem dX7_goOn_63 : decode cX7_goOn 63 = .ok (.aload_n 3, 1) := by decide +kernel
theorem dX7_goOn_64 : decode cX7_goOn 64 = .ok (.aload_n 0, 1) := by decide +kernel
theorem dX7_goOn_65 : decode cX7_goOn 65 = .ok (.getfield 12, 3) := by decide +kernel
theorem dX7_goOn_68 : decode cX7_goOn 68 = .ok (.getfield 66, 3) := by decide +kernel
theorem dX7_goOn_71 : decode cX7_goOn 71 = .ok (.invokevirtual 212, 3) := by decide +kernel
theorem dX7_goOn_74 : decode cX7_goOn 74 = .ok (.iinc 4 1, 3) := by decide +kernel
theorem dX7_goOn_77 : decode cX7_goOn 77 = .ok (.goto (-39), 3) := by decide +kernel
theorem dX7_goOn_80 : decode cX7_goOn 80 = .ok (.aload_n 3, 1) := by decide +kernel
theorem dX7_goOn_81 : decode cX7_goOn 81 = .ok (.invokevirtual 167, 3) := by decide +kernel
theorem dX7_goOn_84 : decode cX7_goOn 84 = .ok (.ireturn, 1) := by decide +kernel
theorem dX7_ahead_0 : decode cX7_ahead 0 = .ok (.aload_n 0, 1) := by decide +kernel
theorem dX7_ahead_1 : decode cX7_ahead 1 = .ok (.getfield 12, 3) := by decide +kernel
theorem dX7_ahead_4 : decode cX7_ahead 4 = .ok (.getfield 66, 3) := by decide +kernel
theorem dX7_ahead_7 : decode cX7_ahead 7 = .ok (.iload_n 1, 1) := by decide +kernel
theorem dX7_ahead_8 : decode cX7_ahead 8 = .ok (.invokevirtual 103, 3) := by decide +kernel
theorem dX7_ahead_11 : decode cX7_ahead 11 = .ok (.ifCond .eq 13, 3) := by decide +kernel
theorem dX7_ahead_14 : decode cX7_ahead 14 = .ok (.iload_n 2, 1) := by decide +kernel
theorem dX7_ahead_15 : decode cX7_ahead 15 = .ok (.iconst 0, 1) := by decide +kernel
theorem dX7_ahead_16 : decode cX7_ahead 16 = .ok (.bipush 60, 2) := by decide +kernel
theorem dX7_ahead_18 : decode cX7_ahead 18 = .ok (.invokestatic 62, 3) := by decide +kernel
theorem dX7_ahead_21 : decode cX7_ahead 21 = .ok (.ifCond .ne 5, 3) := by decide +kernel
theorem dX7_ahead_24 : decode cX7_ahead 24 = .ok (.iconst (-1), 1) := by decide +kernel
theorem dX7_ahead_25 : decode cX7_ahead 25 = .ok (.ireturn, 1) := by decide +kernel
theorem dX7_ahead_26 : decode cX7_ahead 26 = .ok (.aload_n 0, 1) := by decide +kernel
theorem dX7_ahead_27 : decode cX7_ahead 27 = .ok (.iload_n 2, 1) := by decide +kernel
theorem dX7_ahead_28 : decode cX7_ahead 28 = .ok (.invokevirtual 215, 3) := by decide +kernel
theorem dX7_ahead_31 : decode cX7_ahead 31 = .ok (.aload_n 0, 1) := by decide +kernel
theorem dX7_ahead_32 : decode cX7_ahead 32 = .ok (.getfield 39, 3) := by decide +kernel
theorem dX7_ahead_35 : decode cX7_ahead 35 = .ok (.getfield 120, 3) := by decide +kernel
theorem dX7_ahead_38 : decode cX7_ahead 38 = .ok (.iload_n 1, 1) := by decide +kernel
theorem dX7_ahead_39 : decode cX7_ahead 39 = .ok (.iaload, 1) := by decide +kernel
theorem dX7_ahead_40 : decode cX7_ahead 40 = .ok (.ireturn, 1) := by decide +kernel
theorem dX7_then_0 : decode cX7_then 0 = .ok (.iload_n 1, 1) := by decide +kernel
theorem dX7_then_1 : decode cX7_then 1 = .ok (.iconst 0, 1) := by decide +kernel
theorem dX7_then_2 : decode cX7_then 2 = .ok (.bipush 60, 2) := by decide +kernel
theorem dX7_then_4 : decode cX7_then 4 = .ok (.invokestatic 62, 3) := by decide +kernel
theorem dX7_then_7 : decode cX7_then 7 = .ok (.ifCond .ne 5, 3) := by decide +kernel
theorem dX7_then_10 : decode cX7_then 10 = .ok (.iconst (-1), 1) := by decide +kernel
theorem dX7_then_11 : decode cX7_then 11 = .ok (.ireturn, 1) := by decide +kernel
theorem dX7_then_12 : decode cX7_then 12 = .ok (.aload_n 0, 1) := by decide +kernel
theorem dX7_then_13 : decode cX7_then 13 = .ok (.iload_n 1, 1) := by decide +kernel
theorem dX7_then_14 : decode cX7_then 14 = .ok (.invokevirtual 215, 3) := by decide +kernel
theorem dX7_then_17 : decode cX7_then 17 = .ok (.aload_n 0, 1) := by decide +kernel
theorem dX7_then_18 : decode cX7_then 18 = .ok (.getfield 39, 3) := by decide +kernel
theorem dX7_then_21 : decode cX7_then 21 = .ok (.invokevirtual 167, 3) := by decide +kernel
theorem dX7_then_24 : decode cX7_then 24 = .ok (.ireturn, 1) := by decide +kernel
theorem dX7_ends_0 : decode cX7_ends 0 = .ok (.aload_n 0, 1) := by decide +kernel
theorem dX7_ends_1 : decode cX7_ends 1 = .ok (.getfield 12, 3) := by decide +kernel
theorem dX7_ends_4 : decode cX7_ends 4 = .ok (.getfield 66, 3) := by decide +kernel
theorem dX7_ends_7 : decode cX7_ends 7 = .ok (.iload_n 1, 1) := by decide +kernel
theorem dX7_ends_8 : decode cX7_ends 8 = .ok (.invokevirtual 103, 3) := by decide +kernel
theorem dX7_ends_11 : decode cX7_ends 11 = .ok (.ifCond .ne 5, 3) := by decide +kernel
theorem dX7_ends_14 : decode cX7_ends 14 = .ok (.iconst (-1), 1) := by decide +kernel
theorem dX7_ends_15 : decode cX7_ends 15 = .ok (.ireturn, 1) := by decide +kernel
theorem dX7_ends_16 : decode cX7_ends 16 = .ok (.aload_n 0, 1) := by decide +kernel
theorem dX7_ends_17 : decode cX7_ends 17 = .ok (.getfield 39, 3) := by decide +kernel
theorem dX7_ends_20 : decode cX7_ends 20 = .ok (.aload_n 0, 1) := by decide +kernel
theorem dX7_ends_21 : decode cX7_ends 21 = .ok (.getfield 12, 3) := by decide +kernel
theorem dX7_ends_24 : decode cX7_ends 24 = .ok (.getfield 87, 3) := by decide +kernel
theorem dX7_ends_27 : decode cX7_ends 27 = .ok (.invokevirtual 218, 3) := by decide +kernel
theorem dX7_ends_30 : decode cX7_ends 30 = .ok (.iconst 0, 1) := by decide +kernel
theorem dX7_ends_31 : decode cX7_ends 31 = .ok (.istore_n 2, 1) := by decide +kernel
theorem dX7_ends_32 : decode cX7_ends 32 = .ok (.iload_n 2, 1) := by decide +kernel
theorem dX7_ends_33 : decode cX7_ends 33 = .ok (.bipush 60, 2) := by decide +kernel
theorem dX7_ends_35 : decode cX7_ends 35 = .ok (.if_icmp .gt 38, 3) := by decide +kernel
theorem dX7_ends_38 : decode cX7_ends 38 = .ok (.aload_n 0, 1) := by decide +kernel
theorem dX7_ends_39 : decode cX7_ends 39 = .ok (.getfield 39, 3) := by decide +kernel
theorem dX7_ends_42 : decode cX7_ends 42 = .ok (.iload_n 1, 1) := by decide +kernel
theorem dX7_ends_43 : decode cX7_ends 43 = .ok (.invokevirtual 123, 3) := by decide +kernel
theorem dX7_ends_46 : decode cX7_ends 46 = .ok (.bipush (-4), 2) := by decide +kernel
theorem dX7_ends_48 : decode cX7_ends 48 = .ok (.if_icmp .ne 5, 3) := by decide +kernel
theorem dX7_ends_51 : decode cX7_ends 51 = .ok (.iload_n 2, 1) := by decide +kernel
theorem dX7_ends_52 : decode cX7_ends 52 = .ok (.ireturn, 1) := by decide +kernel
theorem dX7_ends_53 : decode cX7_ends 53 = .ok (.aload_n 0, 1) := by decide +kernel
theorem dX7_ends_54 : decode cX7_ends 54 = .ok (.getfield 39, 3) := by decide +kernel
theorem dX7_ends_57 : decode cX7_ends 57 = .ok (.aload_n 0, 1) := by decide +kernel
theorem dX7_ends_58 : decode cX7_ends 58 = .ok (.getfield 12, 3) := by decide +kernel
theorem dX7_ends_61 : decode cX7_ends 61 = .ok (.getfield 66, 3) := by decide +kernel
theorem dX7_ends_64 : decode cX7_ends 64 = .ok (.invokevirtual 212, 3) := by decide +kernel
theorem dX7_ends_67 : decode cX7_ends 67 = .ok (.iinc 2 1, 3) := by decide +kernel
theorem dX7_ends_70 : decode cX7_ends 70 = .ok (.goto (-38), 3) := by decide +kernel
theorem dX7_ends_73 : decode cX7_ends 73 = .ok (.bipush (-4), 2) := by decide +kernel
theorem dX7_ends_75 : decode cX7_ends 75 = .ok (.ireturn, 1) := by decide +kernel
theorem dX7_lonely_0 : decode cX7_lonely 0 = .ok (.aload_n 0, 1) := by decide +kernel
theorem dX7_lonely_1 : decode cX7_lonely 1 = .ok (.getfield 39, 3) := by decide +kernel
theorem dX7_lonely_4 : decode cX7_lonely 4 = .ok (.aload_n 0, 1) := by decide +kernel
theorem dX7_lonely_5 : decode cX7_lonely 5 = .ok (.getfield 12, 3) := by decide +kernel
theorem dX7_lonely_8 : decode cX7_lonely 8 = .ok (.getfield 87, 3) := by decide +kernel
theorem dX7_lonely_11 : decode cX7_lonely 11 = .ok (.invokevirtual 218, 3) := by decide +kernel
theorem dX7_lonely_14 : decode cX7_lonely 14 = .ok (.iconst 0, 1) := by decide +kernel
theorem dX7_lonely_15 : decode cX7_lonely 15 = .ok (.istore_n 1, 1) := by decide +kernel
theorem dX7_lonely_16 : decode cX7_lonely 16 = .ok (.iload_n 1, 1) := by decide +kernel
theorem dX7_lonely_17 : decode cX7_lonely 17 = .ok (.bipush 60, 2) := by decide +kernel
theorem dX7_lonely_19 : decode cX7_lonely 19 = .ok (.if_icmp .gt 36, 3) := by decide +kernel
theorem dX7_lonely_22 : decode cX7_lonely 22 = .ok (.aload_n 0, 1) := by decide +kernel
theorem dX7_lonely_23 : decode cX7_lonely 23 = .ok (.getfield 39, 3) := by decide +kernel
theorem dX7_lonely_26 : decode cX7_lonely 26 = .ok (.getfield 161, 3) := by decide +kernel
theorem dX7_lonely_29 : decode cX7_lonely 29 = .ok (.iconst 1, 1) := by decide +kernel
theorem dX7_lonely_30 : decode cX7_lonely 30 = .ok (.if_icmp .gt 5, 3) := by decide +kernel
theorem dX7_lonely_33 : decode cX7_lonely 33 = .ok (.iload_n 1, 1) := by decide +kernel
theorem dX7_lonely_34 : decode cX7_lonely 34 = .ok (.ireturn, 1) := by decide +kernel
theorem dX7_lonely_35 : decode cX7_lonely 35 = .ok (.aload_n 0, 1) := by decide +kernel
theorem dX7_lonely_36 : decode cX7_lonely 36 = .ok (.getfield 39, 3) := by decide +kernel
theorem dX7_lonely_39 : decode cX7_lonely 39 = .ok (.aload_n 0, 1) := by decide +kernel
theorem dX7_lonely_40 : decode cX7_lonely 40 = .ok (.getfield 12, 3) := by decide +kernel
theorem dX7_lonely_43 : decode cX7_lonely 43 = .ok (.getfield 66, 3) := by decide +kernel
theorem dX7_lonely_46 : decode cX7_lonely 46 = .ok (.invokevirtual 212, 3) := by decide +kernel
theorem dX7_lonely_49 : decode cX7_lonely 49 = .ok (.iinc 1 1, 3) := by decide +kernel
theorem dX7_lonely_52 : decode cX7_lonely 52 = .ok (.goto (-36), 3) := by decide +kernel
theorem dX7_lonely_55 : decode cX7_lonely 55 = .ok (.bipush (-4), 2) := by decide +kernel
theorem dX7_lonely_57 : decode cX7_lonely 57 = .ok (.ireturn, 1) := by decide +kernel
theorem dX7_close_0 : decode cX7_close 0 = .ok (.aload_n 0, 1) := by decide +kernel
theorem dX7_close_1 : decode cX7_close 1 = .ok (.getfield 12, 3) := by decide +kernel
theorem dX7_close_4 : decode cX7_close 4 = .ok (.getfield 66, 3) := by decide +kernel
theorem dX7_close_7 : decode cX7_close 7 = .ok (.iload_n 1, 1) := by decide +kernel
theorem dX7_close_8 : decode cX7_close 8 = .ok (.invokevirtual 103, 3) := by decide +kernel
theorem dX7_close_11 : decode cX7_close 11 = .ok (.ifCond .eq 22, 3) := by decide +kernel
theorem dX7_close_14 : decode cX7_close 14 = .ok (.aload_n 0, 1) := by decide +kernel
theorem dX7_close_15 : decode cX7_close 15 = .ok (.getfield 12, 3) := by decide +kernel
theorem dX7_close_18 : decode cX7_close 18 = .ok (.getfield 66, 3) := by decide +kernel
theorem dX7_close_21 : decode cX7_close 21 = .ok (.iload_n 2, 1) := by decide +kernel
theorem dX7_close_22 : decode cX7_close 22 = .ok (.invokevirtual 103, 3) := by decide +kernel
theorem dX7_close_25 : decode cX7_close 25 = .ok (.ifCond .eq 8, 3) := by decide +kernel
theorem dX7_close_28 : decode cX7_close 28 = .ok (.iload_n 1, 1) := by decide +kernel
theorem dX7_close_29 : decode cX7_close 29 = .ok (.iload_n 2, 1) := by decide +kernel
theorem dX7_close_30 : decode cX7_close 30 = .ok (.if_icmp .ne 5, 3) := by decide +kernel
theorem dX7_close_33 : decode cX7_close 33 = .ok (.iconst (-1), 1) := by decide +kernel
theorem dX7_close_34 : decode cX7_close 34 = .ok (.ireturn, 1) := by decide +kernel
theorem dX7_close_35 : decode cX7_close 35 = .ok (.aload_n 0, 1) := by decide +kernel
theorem dX7_close_36 : decode cX7_close 36 = .ok (.getfield 39, 3) := by decide +kernel
theorem dX7_close_39 : decode cX7_close 39 = .ok (.aload_n 0, 1) := by decide +kernel
theorem dX7_close_40 : decode cX7_close 40 = .ok (.getfield 12, 3) := by decide +kernel
theorem dX7_close_43 : decode cX7_close 43 = .ok (.getfield 87, 3) := by decide +kernel
theorem dX7_close_46 : decode cX7_close 46 = .ok (.invokevirtual 218, 3) := by decide +kernel
theorem dX7_close_49 : decode cX7_close 49 = .ok (.iconst 0, 1) := by decide +kernel
theorem dX7_close_50 : decode cX7_close 50 = .ok (.istore_n 3, 1) := by decide +kernel
theorem dX7_close_51 : decode cX7_close 51 = .ok (.iload_n 3, 1) := by decide +kernel
theorem dX7_close_52 : decode cX7_close 52 = .ok (.bipush 60, 2) := by decide +kernel
theorem dX7_close_54 : decode cX7_close 54 = .ok (.if_icmp .gt 40, 3) := by decide +kernel
theorem dX7_close_57 : decode cX7_close 57 = .ok (.aload_n 0, 1) := by decide +kernel
theorem dX7_close_58 : decode cX7_close 58 = .ok (.getfield 39, 3) := by decide +kernel
theorem dX7_close_61 : decode cX7_close 61 = .ok (.iload_n 1, 1) := by decide +kernel
theorem dX7_close_62 : decode cX7_close 62 = .ok (.invokevirtual 130, 3) := by decide +kernel
theorem dX7_close_65 : decode cX7_close 65 = .ok (.iload_n 2, 1) := by decide +kernel
theorem dX7_close_66 : decode cX7_close 66 = .ok (.invokestatic 220, 3) := by decide +kernel
theorem dX7_close_69 : decode cX7_close 69 = .ok (.ifCond .eq 5, 3) := by decide +kernel
theorem dX7_close_72 : decode cX7_close 72 = .ok (.iload_n 3, 1) := by decide +kernel
theorem dX7_close_73 : decode cX7_close 73 = .ok (.ireturn, 1) := by decide +kernel
theorem dX7_close_74 : decode cX7_close 74 = .ok (.aload_n 0, 1) := by decide +kernel
theorem dX7_close_75 : decode cX7_close 75 = .ok (.getfield 39, 3) := by decide +kernel
theorem dX7_close_78 : decode cX7_close 78 = .ok (.aload_n 0, 1) := by decide +kernel
theorem dX7_close_79 : decode cX7_close 79 = .ok (.getfield 12, 3) := by decide +kernel
theorem dX7_close_82 : decode cX7_close 82 = .ok (.getfield 66, 3) := by decide +kernel
theorem dX7_close_85 : decode cX7_close 85 = .ok (.invokevirtual 212, 3) := by decide +kernel
theorem dX7_close_88 : decode cX7_close 88 = .ok (.iinc 3 1, 3) := by decide +kernel
theorem dX7_close_91 : decode cX7_close 91 = .ok (.goto (-40), 3) := by decide +kernel
theorem dX7_close_94 : decode cX7_close 94 = .ok (.bipush (-4), 2) := by decide +kernel
theorem dX7_close_96 : decode cX7_close 96 = .ok (.ireturn, 1) := by decide +kernel
theorem dX7_swaps_0 : decode cX7_swaps 0 = .ok (.iload_n 1, 1) := by decide +kernel
theorem dX7_swaps_1 : decode cX7_swaps 1 = .ok (.invokestatic 106, 3) := by decide +kernel
theorem dX7_swaps_4 : decode cX7_swaps 4 = .ok (.ifCond .ne 5, 3) := by decide +kernel
theorem dX7_swaps_7 : decode cX7_swaps 7 = .ok (.iconst (-1), 1) := by decide +kernel
theorem dX7_swaps_8 : decode cX7_swaps 8 = .ok (.ireturn, 1) := by decide +kernel
theorem dX7_swaps_9 : decode cX7_swaps 9 = .ok (.aload_n 0, 1) := by decide +kernel
theorem dX7_swaps_10 : decode cX7_swaps 10 = .ok (.getfield 12, 3) := by decide +kernel
theorem dX7_swaps_13 : decode cX7_swaps 13 = .ok (.getfield 87, 3) := by decide +kernel
theorem dX7_swaps_16 : decode cX7_swaps 16 = .ok (.astore_n 2, 1) := by decide +kernel
theorem dX7_swaps_17 : decode cX7_swaps 17 = .ok (.aload_n 0, 1) := by decide +kernel
theorem dX7_swaps_18 : decode cX7_swaps 18 = .ok (.getfield 12, 3) := by decide +kernel
theorem dX7_swaps_21 : decode cX7_swaps 21 = .ok (.getfield 66, 3) := by decide +kernel
theorem dX7_swaps_24 : decode cX7_swaps 24 = .ok (.getfield 113, 3) := by decide +kernel
theorem dX7_swaps_27 : decode cX7_swaps 27 = .ok (.iload_n 1, 1) := by decide +kernel
theorem dX7_swaps_28 : decode cX7_swaps 28 = .ok (.aaload, 1) := by decide +kernel
theorem dX7_swaps_29 : decode cX7_swaps 29 = .ok (.astore_n 3, 1) := by decide +kernel
theorem dX7_swaps_30 : decode cX7_swaps 30 = .ok (.iconst 0, 1) := by decide +kernel
theorem dX7_swaps_31 : decode cX7_swaps 31 = .ok (.istore 4, 2) := by decide +kernel
theorem dX7_swaps_33 : decode cX7_swaps 33 = .ok (.iconst 0, 1) := by decide +kernel
theorem dX7_swaps_34 : decode cX7_swaps 34 = .ok (.istore 5, 2) := by decide +kernel
theorem dX7_swaps_36 : decode cX7_swaps 36 = .ok (.iload 5, 2) := by decide +kernel
theorem dX7_swaps_38 : decode cX7_swaps 38 = .ok (.aload_n 2, 1) := by decide +kernel
theorem dX7_swaps_39 : decode cX7_swaps 39 = .ok (.getfield 161, 3) := by decide +kernel
theorem dX7_swaps_42 : decode cX7_swaps 42 = .ok (.if_icmp .ge 54, 3) := by decide +kernel
theorem dX7_swaps_45 : decode cX7_swaps 45 = .ok (.iload 5, 2) := by decide +kernel
theorem dX7_swaps_47 : decode cX7_swaps 47 = .ok (.iconst 1, 1) := by decide +kernel
theorem dX7_swaps_48 : decode cX7_swaps 48 = .ok (.iadd, 1) := by decide +kernel
theorem dX7_swaps_49 : decode cX7_swaps 49 = .ok (.istore 6, 2) := by decide +kernel
theorem dX7_swaps_51 : decode cX7_swaps 51 = .ok (.iload 6, 2) := by decide +kernel
theorem dX7_swaps_53 : decode cX7_swaps 53 = .ok (.aload_n 2, 1) := by decide +kernel
theorem dX7_swaps_54 : decode cX7_swaps 54 = .ok (.getfield 161, 3) := by decide +kernel
theorem dX7_swaps_57 : decode cX7_swaps 57 = .ok (.if_icmp .ge 33, 3) := by decide +kernel
theorem dX7_swaps_60 : decode cX7_swaps 60 = .ok (.aload_n 3, 1) := by decide +kernel
theorem dX7_swaps_61 : decode cX7_swaps 61 = .ok (.aload_n 2, 1) := by decide +kernel
theorem dX7_swaps_62 : decode cX7_swaps 62 = .ok (.getfield 173, 3) := by decide +kernel
theorem dX7_swaps_65 : decode cX7_swaps 65 = .ok (.iload 5, 2) := by decide +kernel
theorem dX7_swaps_67 : decode cX7_swaps 67 = .ok (.iaload, 1) := by decide +kernel
theorem dX7_swaps_68 : decode cX7_swaps 68 = .ok (.iaload, 1) := by decide +kernel
theorem dX7_swaps_69 : decode cX7_swaps 69 = .ok (.aload_n 3, 1) := by decide +kernel
theorem dX7_swaps_70 : decode cX7_swaps 70 = .ok (.aload_n 2, 1) := by decide +kernel
theorem dX7_swaps_71 : decode cX7_swaps 71 = .ok (.getfield 173, 3) := by decide +kernel
theorem dX7_swaps_74 : decode cX7_swaps 74 = .ok (.iload 6, 2) := by decide +kernel
theorem dX7_swaps_76 : decode cX7_swaps 76 = .ok (.iaload, 1) := by decide +kernel
theorem dX7_swaps_77 : decode cX7_swaps 77 = .ok (.iaload, 1) := by decide +kernel
theorem dX7_swaps_78 : decode cX7_swaps 78 = .ok (.if_icmp .le 6, 3) := by decide +kernel
theorem dX7_swaps_81 : decode cX7_swaps 81 = .ok (.iinc 4 1, 3) := by decide +kernel
theorem dX7_swaps_84 : decode cX7_swaps 84 = .ok (.iinc 6 1, 3) := by decide +kernel
theorem dX7_swaps_87 : decode cX7_swaps 87 = .ok (.goto (-36), 3) := by decide +kernel
theorem dX7_swaps_90 : decode cX7_swaps 90 = .ok (.iinc 5 1, 3) := by decide +kernel
theorem dX7_swaps_93 : decode cX7_swaps 93 = .ok (.goto (-57), 3) := by decide +kernel
theorem dX7_swaps_96 : decode cX7_swaps 96 = .ok (.iload 4, 2) := by decide +kernel
theorem dX7_swaps_98 : decode cX7_swaps 98 = .ok (.ireturn, 1) := by decide +kernel
theorem dX7_stay_0 : decode cX7_stay 0 = .ok (.iload_n 1, 1) := by decide +kernel
theorem dX7_stay_1 : decode cX7_stay 1 = .ok (.invokestatic 106, 3) := by decide +kernel
theorem dX7_stay_4 : decode cX7_stay 4 = .ok (.ifCond .eq 12, 3) := by decide +kernel
theorem dX7_stay_7 : decode cX7_stay 7 = .ok (.iload_n 2, 1) := by decide +kernel
theorem dX7_stay_8 : decode cX7_stay 8 = .ok (.iconst 0, 1) := by decide +kernel
theorem dX7_stay_9 : decode cX7_stay 9 = .ok (.iconst 1, 1) := by decide +kernel
theorem dX7_stay_10 : decode cX7_stay 10 = .ok (.invokestatic 62, 3) := by decide +kernel
theorem dX7_stay_13 : decode cX7_stay 13 = .ok (.ifCond .ne 5, 3) := by decide +kernel
theorem dX7_stay_16 : decode cX7_stay 16 = .ok (.iconst (-1), 1) := by decide +kernel
theorem dX7_stay_17 : decode cX7_stay 17 = .ok (.ireturn, 1) := by decide +kernel
theorem dX7_stay_18 : decode cX7_stay 18 = .ok (.aload_n 0, 1) := by decide +kernel
theorem dX7_stay_19 : decode cX7_stay 19 = .ok (.aload_n 0, 1) := by decide +kernel
theorem dX7_stay_20 : decode cX7_stay 20 = .ok (.getfield 12, 3) := by decide +kernel
theorem dX7_stay_23 : decode cX7_stay 23 = .ok (.getfield 66, 3) := by decide +kernel
theorem dX7_stay_26 : decode cX7_stay 26 = .ok (.getfield 113, 3) := by decide +kernel
theorem dX7_stay_29 : decode cX7_stay 29 = .ok (.iload_n 1, 1) := by decide +kernel
theorem dX7_stay_30 : decode cX7_stay 30 = .ok (.aaload, 1) := by decide +kernel
theorem dX7_stay_31 : decode cX7_stay 31 = .ok (.invokevirtual 223, 3) := by decide +kernel
theorem dX7_stay_34 : decode cX7_stay 34 = .ok (.istore_n 3, 1) := by decide +kernel
theorem dX7_stay_35 : decode cX7_stay 35 = .ok (.iload_n 2, 1) := by decide +kernel
theorem dX7_stay_36 : decode cX7_stay 36 = .ok (.ifCond .ne 10, 3) := by decide +kernel
theorem dX7_stay_39 : decode cX7_stay 39 = .ok (.iload_n 3, 1) := by decide +kernel
theorem dX7_stay_40 : decode cX7_stay 40 = .ok (.invokestatic 227, 3) := by decide +kernel
theorem dX7_stay_43 : decode cX7_stay 43 = .ok (.goto 4, 3) := by decide +kernel
theorem dX7_stay_46 : decode cX7_stay 46 = .ok (.iload_n 3, 1) := by decide +kernel
theorem dX7_stay_47 : decode cX7_stay 47 = .ok (.ireturn, 1) := by decide +kernel
theorem dX7_ways_0 : decode cX7_ways 0 = .ok (.aload_n 0, 1) := by decide +kernel
theorem dX7_ways_1 : decode cX7_ways 1 = .ok (.getfield 53, 3) := by decide +kernel
theorem dX7_ways_4 : decode cX7_ways 4 = .ok (.aload_n 0, 1) := by decide +kernel
theorem dX7_ways_5 : decode cX7_ways 5 = .ok (.getfield 12, 3) := by decide +kernel
theorem dX7_ways_8 : decode cX7_ways 8 = .ok (.getfield 87, 3) := by decide +kernel
theorem dX7_ways_11 : decode cX7_ways 11 = .ok (.invokevirtual 232, 3) := by decide +kernel
theorem dX7_ways_14 : decode cX7_ways 14 = .ok (.iconst 0, 1) := by decide +kernel
theorem dX7_ways_15 : decode cX7_ways 15 = .ok (.istore_n 1, 1) := by decide +kernel
theorem dX7_ways_16 : decode cX7_ways 16 = .ok (.iconst 0, 1) := by decide +kernel
theorem dX7_ways_17 : decode cX7_ways 17 = .ok (.istore_n 2, 1) := by decide +kernel
theorem dX7_ways_18 : decode cX7_ways 18 = .ok (.iload_n 2, 1) := by decide +kernel
theorem dX7_ways_19 : decode cX7_ways 19 = .ok (.sipush 720, 3) := by decide +kernel
theorem dX7_ways_22 : decode cX7_ways 22 = .ok (.if_icmp .ge 52, 3) := by decide +kernel
theorem dX7_ways_25 : decode cX7_ways 25 = .ok (.aload_n 0, 1) := by decide +kernel
theorem dX7_ways_26 : decode cX7_ways 26 = .ok (.getfield 12, 3) := by decide +kernel
theorem dX7_ways_29 : decode cX7_ways 29 = .ok (.getfield 66, 3) := by decide +kernel
theorem dX7_ways_32 : decode cX7_ways 32 = .ok (.aload_n 0, 1) := by decide +kernel
theorem dX7_ways_33 : decode cX7_ways 33 = .ok (.getfield 53, 3) := by decide +kernel
theorem dX7_ways_36 : decode cX7_ways 36 = .ok (.getfield 235, 3) := by decide +kernel
theorem dX7_ways_39 : decode cX7_ways 39 = .ok (.aload_n 0, 1) := by decide +kernel
theorem dX7_ways_40 : decode cX7_ways 40 = .ok (.getfield 53, 3) := by decide +kernel
theorem dX7_ways_43 : decode cX7_ways 43 = .ok (.getfield 237, 3) := by decide +kernel
theorem dX7_ways_46 : decode cX7_ways 46 = .ok (.invokevirtual 176, 3) := by decide +kernel
theorem dX7_ways_49 : decode cX7_ways 49 = .ok (.ifCond .ne 6, 3) := by decide +kernel
theorem dX7_ways_52 : decode cX7_ways 52 = .ok (.iinc 1 1, 3) := by decide +kernel
theorem dX7_ways_55 : decode cX7_ways 55 = .ok (.aload_n 0, 1) := by decide +kernel
theorem dX7_ways_56 : decode cX7_ways 56 = .ok (.getfield 53, 3) := by decide +kernel
theorem dX7_ways_59 : decode cX7_ways 59 = .ok (.invokevirtual 240, 3) := by decide +kernel
theorem dX7_ways_62 : decode cX7_ways 62 = .ok (.ifCond .ne 6, 3) := by decide +kernel
theorem dX7_ways_65 : decode cX7_ways 65 = .ok (.goto 9, 3) := by decide +kernel
theorem dX7_ways_68 : decode cX7_ways 68 = .ok (.iinc 2 1, 3) := by decide +kernel
theorem dX7_ways_71 : decode cX7_ways 71 = .ok (.goto (-53), 3) := by decide +kernel
theorem dX7_ways_74 : decode cX7_ways 74 = .ok (.iload_n 1, 1) := by decide +kernel
theorem dX7_ways_75 : decode cX7_ways 75 = .ok (.ireturn, 1) := by decide +kernel
theorem dX7_ease_0 : decode cX7_ease 0 = .ok (.iload_n 1, 1) := by decide +kernel
theorem dX7_ease_1 : decode cX7_ease 1 = .ok (.iconst (-1), 1) := by decide +kernel
theorem dX7_ease_2 : decode cX7_ease 2 = .ok (.if_icmp .ge 5, 3) := by decide +kernel
theorem dX7_ease_5 : decode cX7_ease 5 = .ok (.iconst (-1), 1) := by decide +kernel
theorem dX7_ease_6 : decode cX7_ease 6 = .ok (.ireturn, 1) := by decide +kernel
theorem dX7_ease_7 : decode cX7_ease 7 = .ok (.aload_n 0, 1) := by decide +kernel
theorem dX7_ease_8 : decode cX7_ease 8 = .ok (.invokevirtual 244, 3) := by decide +kernel
theorem dX7_ease_11 : decode cX7_ease 11 = .ok (.istore_n 2, 1) := by decide +kernel
theorem dX7_ease_12 : decode cX7_ease 12 = .ok (.iload_n 1, 1) := by decide +kernel
theorem dX7_ease_13 : decode cX7_ease 13 = .ok (.iconst (-1), 1) := by decide +kernel
theorem dX7_ease_14 : decode cX7_ease 14 = .ok (.if_icmp .ne 7, 3) := by decide +kernel
theorem dX7_ease_17 : decode cX7_ease 17 = .ok (.iload_n 2, 1) := by decide +kernel
theorem dX7_ease_18 : decode cX7_ease 18 = .ok (.goto 11, 3) := by decide +kernel
theorem dX7_ease_21 : decode cX7_ease 21 = .ok (.aload_n 0, 1) := by decide +kernel
theorem dX7_ease_22 : decode cX7_ease 22 = .ok (.getfield 53, 3) := by decide +kernel
theorem dX7_ease_25 : decode cX7_ease 25 = .ok (.iload_n 1, 1) := by decide +kernel
theorem dX7_ease_26 : decode cX7_ease 26 = .ok (.invokevirtual 247, 3) := by decide +kernel
theorem dX7_ease_29 : decode cX7_ease 29 = .ok (.ireturn, 1) := by decide +kernel
theorem dX7_left_0 : decode cX7_left 0 = .ok (.iload_n 1, 1) := by decide +kernel
theorem dX7_left_1 : decode cX7_left 1 = .ok (.iconst 0, 1) := by decide +kernel
theorem dX7_left_2 : decode cX7_left 2 = .ok (.bipush 30, 2) := by decide +kernel
theorem dX7_left_4 : decode cX7_left 4 = .ok (.invokestatic 62, 3) := by decide +kernel
theorem dX7_left_7 : decode cX7_left 7 = .ok (.ifCond .eq 9, 3) := by decide +kernel
theorem dX7_left_10 : decode cX7_left 10 = .ok (.iload_n 2, 1) := by decide +kernel
theorem dX7_left_11 : decode cX7_left 11 = .ok (.bipush (-2), 2) := by decide +kernel
theorem dX7_left_13 : decode cX7_left 13 = .ok (.if_icmp .ge 5, 3) := by decide +kernel
theorem dX7_left_16 : decode cX7_left 16 = .ok (.iconst (-1), 1) := by decide +kernel
theorem dX7_left_17 : decode cX7_left 17 = .ok (.ireturn, 1) := by decide +kernel
theorem dX7_left_18 : decode cX7_left 18 = .ok (.aload_n 0, 1) := by decide +kernel
theorem dX7_left_19 : decode cX7_left 19 = .ok (.iload_n 1, 1) := by decide +kernel
theorem dX7_left_20 : decode cX7_left 20 = .ok (.invokevirtual 250, 3) := by decide +kernel
theorem dX7_left_23 : decode cX7_left 23 = .ok (.iload_n 2, 1) := by decide +kernel
theorem dX7_left_24 : decode cX7_left 24 = .ok (.ifCond .lt 12, 3) := by decide +kernel
theorem dX7_left_27 : decode cX7_left 27 = .ok (.aload_n 0, 1) := by decide +kernel
theorem dX7_left_28 : decode cX7_left 28 = .ok (.getfield 53, 3) := by decide +kernel
theorem dX7_left_31 : decode cX7_left 31 = .ok (.iload_n 2, 1) := by decide +kernel
theorem dX7_left_32 : decode cX7_left 32 = .ok (.invokevirtual 247, 3) := by decide +kernel
theorem dX7_left_35 : decode cX7_left 35 = .ok (.ireturn, 1) := by decide +kernel
theorem dX7_left_36 : decode cX7_left 36 = .ok (.aload_n 0, 1) := by decide +kernel
theorem dX7_left_37 : decode cX7_left 37 = .ok (.aload_n 0, 1) := by decide +kernel
theorem dX7_left_38 : decode cX7_left 38 = .ok (.getfield 53, 3) := by decide +kernel
theorem dX7_left_41 : decode cX7_left 41 = .ok (.getfield 253, 3) := by decide +kernel
theorem dX7_left_44 : decode cX7_left 44 = .ok (.iload_n 1, 1) := by decide +kernel
theorem dX7_left_45 : decode cX7_left 45 = .ok (.invokevirtual 256, 3) := by decide +kernel
theorem dX7_left_48 : decode cX7_left 48 = .ok (.iload_n 2, 1) := by decide +kernel
theorem dX7_left_49 : decode cX7_left 49 = .ok (.iconst (-1), 1) := by decide +kernel
theorem dX7_left_50 : decode cX7_left 50 = .ok (.if_icmp .ne 13, 3) := by decide +kernel
theorem dX7_left_53 : decode cX7_left 53 = .ok (.aload_n 0, 1) := by decide +kernel
theorem dX7_left_54 : decode cX7_left 54 = .ok (.getfield 39, 3) := by decide +kernel
theorem dX7_left_57 : decode cX7_left 57 = .ok (.getfield 161, 3) := by decide +kernel
theorem dX7_left_60 : decode cX7_left 60 = .ok (.goto 10, 3) := by decide +kernel
theorem dX7_left_63 : decode cX7_left 63 = .ok (.aload_n 0, 1) := by decide +kernel
theorem dX7_left_64 : decode cX7_left 64 = .ok (.getfield 39, 3) := by decide +kernel
theorem dX7_left_67 : decode cX7_left 67 = .ok (.invokevirtual 170, 3) := by decide +kernel
theorem dX7_left_70 : decode cX7_left 70 = .ok (.ireturn, 1) := by decide +kernel
theorem dX7_winter_0 : decode cX7_winter 0 = .ok (.iload_n 1, 1) := by decide +kernel
theorem dX7_winter_1 : decode cX7_winter 1 = .ok (.iconst 0, 1) := by decide +kernel
theorem dX7_winter_2 : decode cX7_winter 2 = .ok (.bipush 6, 2) := by decide +kernel
theorem dX7_winter_4 : decode cX7_winter 4 = .ok (.invokestatic 62, 3) := by decide +kernel
theorem dX7_winter_7 : decode cX7_winter 7 = .ok (.ifCond .eq 22, 3) := by decide +kernel
theorem dX7_winter_10 : decode cX7_winter 10 = .ok (.iload_n 2, 1) := by decide +kernel
theorem dX7_winter_11 : decode cX7_winter 11 = .ok (.iconst 0, 1) := by decide +kernel
theorem dX7_winter_12 : decode cX7_winter 12 = .ok (.bipush 10, 2) := by decide +kernel
theorem dX7_winter_14 : decode cX7_winter 14 = .ok (.invokestatic 62, 3) := by decide +kernel
theorem dX7_winter_17 : decode cX7_winter 17 = .ok (.ifCond .eq 12, 3) := by decide +kernel
theorem dX7_winter_20 : decode cX7_winter 20 = .ok (.iload_n 3, 1) := by decide +kernel
theorem dX7_winter_21 : decode cX7_winter 21 = .ok (.iconst 0, 1) := by decide +kernel
theorem dX7_winter_22 : decode cX7_winter 22 = .ok (.iconst 1, 1) := by decide +kernel
theorem dX7_winter_23 : decode cX7_winter 23 = .ok (.invokestatic 62, 3) := by decide +kernel
theorem dX7_winter_26 : decode cX7_winter 26 = .ok (.ifCond .ne 5, 3) := by decide +kernel
theorem dX7_winter_29 : decode cX7_winter 29 = .ok (.iconst (-1), 1) := by decide +kernel
theorem dX7_winter_30 : decode cX7_winter 30 = .ok (.ireturn, 1) := by decide +kernel
theorem dX7_winter_31 : decode cX7_winter 31 = .ok (.aload_n 0, 1) := by decide +kernel
theorem dX7_winter_32 : decode cX7_winter 32 = .ok (.iload_n 1, 1) := by decide +kernel
theorem dX7_winter_33 : decode cX7_winter 33 = .ok (.iload_n 2, 1) := by decide +kernel
theorem dX7_winter_34 : decode cX7_winter 34 = .ok (.invokevirtual 260, 3) := by decide +kernel
theorem dX7_winter_37 : decode cX7_winter 37 = .ok (.istore 4, 2) := by decide +kernel
theorem dX7_winter_39 : decode cX7_winter 39 = .ok (.bipush 10, 2) := by decide +kernel
theorem dX7_winter_41 : decode cX7_winter 41 = .ok (.aload_n 0, 1) := by decide +kernel
theorem dX7_winter_42 : decode cX7_winter 42 = .ok (.getfield 12, 3) := by decide +kernel
theorem dX7_winter_45 : decode cX7_winter 45 = .ok (.getfield 87, 3) := by decide +kernel
theorem dX7_winter_48 : decode cX7_winter 48 = .ok (.getfield 161, 3) := by decide +kernel
theorem dX7_winter_51 : decode cX7_winter 51 = .ok (.invokestatic 263, 3) := by decide +kernel
theorem dX7_winter_54 : decode cX7_winter 54 = .ok (.istore 5, 2) := by decide +kernel
theorem dX7_winter_56 : decode cX7_winter 56 = .ok (.iload 4, 2) := by decide +kernel
theorem dX7_winter_58 : decode cX7_winter 58 = .ok (.iload 5, 2) := by decide +kernel
theorem dX7_winter_60 : decode cX7_winter 60 = .ok (.invokestatic 266, 3) := by decide +kernel
theorem dX7_winter_63 : decode cX7_winter 63 = .ok (.istore 6, 2) := by decide +kernel
theorem dX7_winter_65 : decode cX7_winter 65 = .ok (.iload 6, 2) := by decide +kernel
theorem dX7_winter_67 : decode cX7_winter 67 = .ok (.ifCond .gt 5, 3) := by decide +kernel
theorem dX7_winter_70 : decode cX7_winter 70 = .ok (.iconst (-1), 1) := by decide +kernel
theorem dX7_winter_71 : decode cX7_winter 71 = .ok (.ireturn, 1) := by decide +kernel
theorem dX7_winter_72 : decode cX7_winter 72 = .ok (.iload_n 3, 1) := by decide +kernel
theorem dX7_winter_73 : decode cX7_winter 73 = .ok (.ifCond .ne 8, 3) := by decide +kernel
theorem dX7_winter_76 : decode cX7_winter 76 = .ok (.iload 4, 2) := by decide +kernel
theorem dX7_winter_78 : decode cX7_winter 78 = .ok (.goto 5, 3) := by decide +kernel
theorem dX7_winter_81 : decode cX7_winter 81 = .ok (.iload 5, 2) := by decide +kernel
theorem dX7_winter_83 : decode cX7_winter 83 = .ok (.iload 6, 2) := by decide +kernel
theorem dX7_winter_85 : decode cX7_winter 85 = .ok (.idiv, 1) := by decide +kernel
theorem dX7_winter_86 : decode cX7_winter 86 = .ok (.ireturn, 1) := by decide +kernel
theorem dX7_image_0 : decode cX7_image 0 = .ok (.aload_n 0, 1) := by decide +kernel
theorem dX7_image_1 : decode cX7_image 1 = .ok (.getfield 16, 3) := by decide +kernel
theorem dX7_image_4 : decode cX7_image 4 = .ok (.aload_n 0, 1) := by decide +kernel
theorem dX7_image_5 : decode cX7_image 5 = .ok (.getfield 12, 3) := by decide +kernel
theorem dX7_image_8 : decode cX7_image 8 = .ok (.invokevirtual 269, 3) := by decide +kernel
theorem dX7_image_11 : decode cX7_image 11 = .ok (.aload_n 0, 1) := by decide +kernel
theorem dX7_image_12 : decode cX7_image 12 = .ok (.iconst 1, 1) := by decide +kernel
theorem dX7_image_13 : decode cX7_image 13 = .ok (.putfield 19, 3) := by decide +kernel
theorem dX7_image_16 : decode cX7_image 16 = .ok (.iconst 1, 1) := by decide +kernel
theorem dX7_image_17 : decode cX7_image 17 = .ok (.ireturn, 1) := by decide +kernel
theorem dX7_restore_0 : decode cX7_restore 0 = .ok (.aload_n 0, 1) := by decide +kernel
theorem dX7_restore_1 : decode cX7_restore 1 = .ok (.getfield 19, 3) := by decide +kernel
theorem dX7_restore_4 : decode cX7_restore 4 = .ok (.ifCond .ne 6, 3) := by decide +kernel
theorem dX7_restore_7 : decode cX7_restore 7 = .ok (.bipush (-4), 2) := by decide +kernel
theorem dX7_restore_9 : decode cX7_restore 9 = .ok (.ireturn, 1) := by decide +kernel
theorem dX7_restore_10 : decode cX7_restore 10 = .ok (.aload_n 0, 1) := by decide +kernel
theorem dX7_restore_11 : decode cX7_restore 11 = .ok (.getfield 12, 3) := by decide +kernel
theorem dX7_restore_14 : decode cX7_restore 14 = .ok (.aload_n 0, 1) := by decide +kernel
theorem dX7_restore_15 : decode cX7_restore 15 = .ok (.getfield 16, 3) := by decide +kernel
theorem dX7_restore_18 : decode cX7_restore 18 = .ok (.invokevirtual 269, 3) := by decide +kernel
theorem dX7_restore_21 : decode cX7_restore 21 = .ok (.iconst 1, 1) := by decide +kernel
theorem dX7_restore_22 : decode cX7_restore 22 = .ok (.ireturn, 1) := by decide +kernel
theorem dX7_failed_0 : decode cX7_failed 0 = .ok (.aload_n 0, 1) := by decide +kernel
theorem dX7_failed_1 : decode cX7_failed 1 = .ok (.getfield 12, 3) := by decide +kernel
theorem dX7_failed_4 : decode cX7_failed 4 = .ok (.getfield 66, 3) := by decide +kernel
theorem dX7_failed_7 : decode cX7_failed 7 = .ok (.iload_n 1, 1) := by decide +kernel
theorem dX7_failed_8 : decode cX7_failed 8 = .ok (.invokevirtual 103, 3) := by decide +kernel
theorem dX7_failed_11 : decode cX7_failed 11 = .ok (.ifCond .eq 38, 3) := by decide +kernel
theorem dX7_failed_14 : decode cX7_failed 14 = .ok (.iload_n 2, 1) := by decide +kernel
theorem dX7_failed_15 : decode cX7_failed 15 = .ok (.invokestatic 272, 3) := by decide +kernel
theorem dX7_failed_18 : decode cX7_failed 18 = .ok (.ifCond .eq 31, 3) := by decide +kernel
theorem dX7_failed_21 : decode cX7_failed 21 = .ok (.iload_n 3, 1) := by decide +kernel
theorem dX7_failed_22 : decode cX7_failed 22 = .ok (.invokestatic 275, 3) := by decide +kernel
theorem dX7_failed_25 : decode cX7_failed 25 = .ok (.ifCond .eq 24, 3) := by decide +kernel
theorem dX7_failed_28 : decode cX7_failed 28 = .ok (.iload 5, 2) := by decide +kernel
theorem dX7_failed_30 : decode cX7_failed 30 = .ok (.iconst 1, 1) := by decide +kernel
theorem dX7_failed_31 : decode cX7_failed 31 = .ok (.bipush 8, 2) := by decide +kernel
theorem dX7_failed_33 : decode cX7_failed 33 = .ok (.invokestatic 62, 3) := by decide +kernel
theorem dX7_failed_36 : decode cX7_failed 36 = .ok (.ifCond .eq 13, 3) := by decide +kernel
theorem dX7_failed_39 : decode cX7_failed 39 = .ok (.iload 6, 2) := by decide +kernel
theorem dX7_failed_41 : decode cX7_failed 41 = .ok (.iconst 0, 1) := by decide +kernel
theorem dX7_failed_42 : decode cX7_failed 42 = .ok (.iconst 2, 1) := by decide +kernel
theorem dX7_failed_43 : decode cX7_failed 43 = .ok (.invokestatic 62, 3) := by decide +kernel
theorem dX7_failed_46 : decode cX7_failed 46 = .ok (.ifCond .ne 5, 3) := by decide +kernel
theorem dX7_failed_49 : decode cX7_failed 49 = .ok (.iconst (-1), 1) := by decide +kernel
theorem dX7_failed_50 : decode cX7_failed 50 = .ok (.ireturn, 1) := by decide +kernel
theorem dX7_failed_51 : decode cX7_failed 51 = .ok (.aload_n 0, 1) := by decide +kernel
theorem dX7_failed_52 : decode cX7_failed 52 = .ok (.getfield 32, 3) := by decide +kernel
theorem dX7_failed_55 : decode cX7_failed 55 = .ok (.iload_n 2, 1) := by decide +kernel
theorem dX7_failed_56 : decode cX7_failed 56 = .ok (.aaload, 1) := by decide +kernel
theorem dX7_failed_57 : decode cX7_failed 57 = .ok (.astore 7, 2) := by decide +kernel
theorem dX7_failed_59 : decode cX7_failed 59 = .ok (.aload 7, 2) := by decide +kernel
theorem dX7_failed_61 : decode cX7_failed 61 = .ok (.iload_n 3, 1) := by decide +kernel
theorem dX7_failed_62 : decode cX7_failed 62 = .ok (.iload 4, 2) := by decide +kernel
theorem dX7_failed_64 : decode cX7_failed 64 = .ok (.iload 5, 2) := by decide +kernel
theorem dX7_failed_66 : decode cX7_failed 66 = .ok (.invokevirtual 278, 3) := by decide +kernel
theorem dX7_failed_69 : decode cX7_failed 69 = .ok (.istore 8, 2) := by decide +kernel
theorem dX7_failed_71 : decode cX7_failed 71 = .ok (.iload 8, 2) := by decide +kernel
theorem dX7_failed_73 : decode cX7_failed 73 = .ok (.ifCond .eq 6, 3) := by decide +kernel
theorem dX7_failed_76 : decode cX7_failed 76 = .ok (.iload 8, 2) := by decide +kernel
theorem dX7_failed_78 : decode cX7_failed 78 = .ok (.ireturn, 1) := by decide +kernel
theorem dX7_failed_79 : decode cX7_failed 79 = .ok (.aload_n 0, 1) := by decide +kernel
theorem dX7_failed_80 : decode cX7_failed 80 = .ok (.getfield 12, 3) := by decide +kernel
theorem dX7_failed_83 : decode cX7_failed 83 = .ok (.getfield 87, 3) := by decide +kernel
theorem dX7_failed_86 : decode cX7_failed 86 = .ok (.iload_n 1, 1) := by decide +kernel
theorem dX7_failed_87 : decode cX7_failed 87 = .ok (.invokevirtual 123, 3) := by decide +kernel
theorem dX7_failed_90 : decode cX7_failed 90 = .ok (.bipush (-4), 2) := by decide +kernel
theorem dX7_failed_92 : decode cX7_failed 92 = .ok (.if_icmp .ne 6, 3) := by decide +kernel
theorem dX7_failed_95 : decode cX7_failed 95 = .ok (.bipush (-2), 2) := by decide +kernel
theorem dX7_failed_97 : decode cX7_failed 97 = .ok (.ireturn, 1) := by decide +kernel
theorem dX7_failed_98 : decode cX7_failed 98 = .ok (.iload 6, 2) := by decide +kernel
theorem dX7_failed_100 : decode cX7_failed 100 = .ok (.lookupswitch 52 #[(0, 28), (1, 40)], 28) := by decide +kernel
theorem dX7_failed_128 : decode cX7_failed 128 = .ok (.aload_n 0, 1) := by decide +kernel
theorem dX7_failed_129 : decode cX7_failed 129 = .ok (.iload_n 1, 1) := by decide +kernel
theorem dX7_failed_130 : decode cX7_failed 130 = .ok (.aload 7, 2) := by decide +kernel
theorem dX7_failed_132 : decode cX7_failed 132 = .ok (.iload 4, 2) := by decide +kernel
theorem dX7_failed_134 : decode cX7_failed 134 = .ok (.iload 5, 2) := by decide +kernel
theorem dX7_failed_136 : decode cX7_failed 136 = .ok (.invokevirtual 282, 3) := by decide +kernel
theorem dX7_failed_139 : decode cX7_failed 139 = .ok (.ireturn, 1) := by decide +kernel
theorem dX7_failed_140 : decode cX7_failed 140 = .ok (.aload_n 0, 1) := by decide +kernel
theorem dX7_failed_141 : decode cX7_failed 141 = .ok (.iload_n 1, 1) := by decide +kernel
theorem dX7_failed_142 : decode cX7_failed 142 = .ok (.aload 7, 2) := by decide +kernel
theorem dX7_failed_144 : decode cX7_failed 144 = .ok (.iload 4, 2) := by decide +kernel
theorem dX7_failed_146 : decode cX7_failed 146 = .ok (.iload 5, 2) := by decide +kernel
theorem dX7_failed_148 : decode cX7_failed 148 = .ok (.invokevirtual 286, 3) := by decide +kernel
theorem dX7_failed_151 : decode cX7_failed 151 = .ok (.ireturn, 1) := by decide +kernel
theorem dX7_failed_152 : decode cX7_failed 152 = .ok (.aload_n 0, 1) := by decide +kernel
theorem dX7_failed_153 : decode cX7_failed 153 = .ok (.iload_n 1, 1) := by decide +kernel
theorem dX7_failed_154 : decode cX7_failed 154 = .ok (.aload 7, 2) := by decide +kernel
theorem dX7_failed_156 : decode cX7_failed 156 = .ok (.iload 4, 2) := by decide +kernel
theorem dX7_failed_158 : decode cX7_failed 158 = .ok (.iload 5, 2) := by decide +kernel
theorem dX7_failed_160 : decode cX7_failed 160 = .ok (.invokevirtual 289, 3) := by decide +kernel
theorem dX7_failed_163 : decode cX7_failed 163 = .ok (.ireturn, 1) := by decide +kernel
theorem dX7_film_0 : decode cX7_film 0 = .ok (.aload_n 0, 1) := by decide +kernel
theorem dX7_film_1 : decode cX7_film 1 = .ok (.getfield 12, 3) := by decide +kernel
theorem dX7_film_4 : decode cX7_film 4 = .ok (.getfield 66, 3) := by decide +kernel
theorem dX7_film_7 : decode cX7_film 7 = .ok (.iload_n 1, 1) := by decide +kernel
theorem dX7_film_8 : decode cX7_film 8 = .ok (.invokevirtual 103, 3) := by decide +kernel
theorem dX7_film_11 : decode cX7_film 11 = .ok (.ifCond .eq 28, 3) := by decide +kernel
theorem dX7_film_14 : decode cX7_film 14 = .ok (.iload_n 2, 1) := by decide +kernel
theorem dX7_film_15 : decode cX7_film 15 = .ok (.iconst 1, 1) := by decide +kernel
theorem dX7_film_16 : decode cX7_film 16 = .ok (.bipush 24, 2) := by decide +kernel
theorem dX7_film_18 : decode cX7_film 18 = .ok (.invokestatic 62, 3) := by decide +kernel
theorem dX7_film_21 : decode cX7_film 21 = .ok (.ifCond .eq 18, 3) := by decide +kernel
theorem dX7_film_24 : decode cX7_film 24 = .ok (.iload_n 3, 1) := by decide +kernel
theorem dX7_film_25 : decode cX7_film 25 = .ok (.invokestatic 272, 3) := by decide +kernel
theorem dX7_film_28 : decode cX7_film 28 = .ok (.ifCond .eq 11, 3) := by decide +kernel
theorem dX7_film_31 : decode cX7_film 31 = .ok (.iload 4, 2) := by decide +kernel
theorem dX7_film_33 : decode cX7_film 33 = .ok (.invokestatic 275, 3) := by decide +kernel
theorem dX7_film_36 : decode cX7_film 36 = .ok (.ifCond .ne 5, 3) := by decide +kernel
theorem dX7_film_39 : decode cX7_film 39 = .ok (.iconst (-1), 1) := by decide +kernel
theorem dX7_film_40 : decode cX7_film 40 = .ok (.ireturn, 1) := by decide +kernel
theorem dX7_film_41 : decode cX7_film 41 = .ok (.aload_n 0, 1) := by decide +kernel
theorem dX7_film_42 : decode cX7_film 42 = .ok (.getfield 32, 3) := by decide +kernel
theorem dX7_film_45 : decode cX7_film 45 = .ok (.iload_n 3, 1) := by decide +kernel
theorem dX7_film_46 : decode cX7_film 46 = .ok (.aaload, 1) := by decide +kernel
theorem dX7_film_47 : decode cX7_film 47 = .ok (.astore 6, 2) := by decide +kernel
theorem dX7_film_49 : decode cX7_film 49 = .ok (.aload 6, 2) := by decide +kernel
theorem dX7_film_51 : decode cX7_film 51 = .ok (.iload 4, 2) := by decide +kernel
theorem dX7_film_53 : decode cX7_film 53 = .ok (.iload 5, 2) := by decide +kernel
theorem dX7_film_55 : decode cX7_film 55 = .ok (.iload_n 2, 1) := by decide +kernel
theorem dX7_film_56 : decode cX7_film 56 = .ok (.invokevirtual 278, 3) := by decide +kernel
theorem dX7_film_59 : decode cX7_film 59 = .ok (.istore 7, 2) := by decide +kernel
theorem dX7_film_61 : decode cX7_film 61 = .ok (.iload 7, 2) := by decide +kernel
theorem dX7_film_63 : decode cX7_film 63 = .ok (.ifCond .eq 6, 3) := by decide +kernel
theorem dX7_film_66 : decode cX7_film 66 = .ok (.iload 7, 2) := by decide +kernel
theorem dX7_film_68 : decode cX7_film 68 = .ok (.ireturn, 1) := by decide +kernel
theorem dX7_film_69 : decode cX7_film 69 = .ok (.aload_n 0, 1) := by decide +kernel
theorem dX7_film_70 : decode cX7_film 70 = .ok (.getfield 39, 3) := by decide +kernel
theorem dX7_film_73 : decode cX7_film 73 = .ok (.aload_n 0, 1) := by decide +kernel
theorem dX7_film_74 : decode cX7_film 74 = .ok (.getfield 12, 3) := by decide +kernel
theorem dX7_film_77 : decode cX7_film 77 = .ok (.getfield 87, 3) := by decide +kernel
theorem dX7_film_80 : decode cX7_film 80 = .ok (.invokevirtual 218, 3) := by decide +kernel
theorem dX7_film_83 : decode cX7_film 83 = .ok (.iconst 0, 1) := by decide +kernel
theorem dX7_film_84 : decode cX7_film 84 = .ok (.istore 8, 2) := by decide +kernel
theorem dX7_film_86 : decode cX7_film 86 = .ok (.iload 8, 2) := by decide +kernel
theorem dX7_film_88 : decode cX7_film 88 = .ok (.iload_n 2, 1) := by decide +kernel
theorem dX7_film_89 : decode cX7_film 89 = .ok (.if_icmp .ge 43, 3) := by decide +kernel
theorem dX7_film_92 : decode cX7_film 92 = .ok (.aload_n 0, 1) := by decide +kernel
theorem dX7_film_93 : decode cX7_film 93 = .ok (.getfield 39, 3) := by decide +kernel
theorem dX7_film_96 : decode cX7_film 96 = .ok (.aload_n 0, 1) := by decide +kernel
theorem dX7_film_97 : decode cX7_film 97 = .ok (.getfield 12, 3) := by decide +kernel
theorem dX7_film_100 : decode cX7_film 100 = .ok (.getfield 66, 3) := by decide +kernel
theorem dX7_film_103 : decode cX7_film 103 = .ok (.invokevirtual 212, 3) := by decide +kernel
theorem dX7_film_106 : decode cX7_film 106 = .ok (.aload 6, 2) := by decide +kernel
theorem dX7_film_108 : decode cX7_film 108 = .ok (.iload 5, 2) := by decide +kernel
theorem dX7_film_110 : decode cX7_film 110 = .ok (.iload 8, 2) := by decide +kernel
theorem dX7_film_112 : decode cX7_film 112 = .ok (.iadd, 1) := by decide +kernel
theorem dX7_film_113 : decode cX7_film 113 = .ok (.aload_n 0, 1) := by decide +kernel
theorem dX7_film_114 : decode cX7_film 114 = .ok (.getfield 39, 3) := by decide +kernel
theorem dX7_film_117 : decode cX7_film 117 = .ok (.getfield 120, 3) := by decide +kernel
theorem dX7_film_120 : decode cX7_film 120 = .ok (.iload_n 1, 1) := by decide +kernel
theorem dX7_film_121 : decode cX7_film 121 = .ok (.iaload, 1) := by decide +kernel
theorem dX7_film_122 : decode cX7_film 122 = .ok (.i2l, 1) := by decide +kernel
theorem dX7_film_123 : decode cX7_film 123 = .ok (.invokevirtual 292, 3) := by decide +kernel
theorem dX7_film_126 : decode cX7_film 126 = .ok (.iinc 8 1, 3) := by decide +kernel
theorem dX7_film_129 : decode cX7_film 129 = .ok (.goto (-43), 3) := by decide +kernel
theorem dX7_film_132 : decode cX7_film 132 = .ok (.iload_n 2, 1) := by decide +kernel
theorem dX7_film_133 : decode cX7_film 133 = .ok (.ireturn, 1) := by decide +kernel
theorem dX7_sheet_0 : decode cX7_sheet 0 = .ok (.iload_n 1, 1) := by decide +kernel
theorem dX7_sheet_1 : decode cX7_sheet 1 = .ok (.invokestatic 272, 3) := by decide +kernel
theorem dX7_sheet_4 : decode cX7_sheet 4 = .ok (.ifCond .eq 16, 3) := by decide +kernel
theorem dX7_sheet_7 : decode cX7_sheet 7 = .ok (.iload_n 2, 1) := by decide +kernel
theorem dX7_sheet_8 : decode cX7_sheet 8 = .ok (.invokestatic 275, 3) := by decide +kernel
theorem dX7_sheet_11 : decode cX7_sheet 11 = .ok (.ifCond .eq 9, 3) := by decide +kernel
theorem dX7_sheet_14 : decode cX7_sheet 14 = .ok (.iload_n 3, 1) := by decide +kernel
theorem dX7_sheet_15 : decode cX7_sheet 15 = .ok (.bipush 24, 2) := by decide +kernel
theorem dX7_sheet_17 : decode cX7_sheet 17 = .ok (.if_icmp .le 5, 3) := by decide +kernel
theorem dX7_sheet_20 : decode cX7_sheet 20 = .ok (.iconst (-1), 1) := by decide +kernel
theorem dX7_sheet_21 : decode cX7_sheet 21 = .ok (.ireturn, 1) := by decide +kernel
theorem dX7_sheet_22 : decode cX7_sheet 22 = .ok (.iload_n 3, 1) := by decide +kernel
theorem dX7_sheet_23 : decode cX7_sheet 23 = .ok (.ifCond .ge 6, 3) := by decide +kernel
theorem dX7_sheet_26 : decode cX7_sheet 26 = .ok (.bipush (-14), 2) := by decide +kernel
theorem dX7_sheet_28 : decode cX7_sheet 28 = .ok (.ireturn, 1) := by decide +kernel
theorem dX7_sheet_29 : decode cX7_sheet 29 = .ok (.aload_n 0, 1) := by decide +kernel
theorem dX7_sheet_30 : decode cX7_sheet 30 = .ok (.getfield 32, 3) := by decide +kernel
theorem dX7_sheet_33 : decode cX7_sheet 33 = .ok (.iload_n 1, 1) := by decide +kernel
theorem dX7_sheet_34 : decode cX7_sheet 34 = .ok (.aaload, 1) := by decide +kernel
theorem dX7_sheet_35 : decode cX7_sheet 35 = .ok (.iload_n 2, 1) := by decide +kernel
theorem dX7_sheet_36 : decode cX7_sheet 36 = .ok (.iload_n 3, 1) := by decide +kernel
theorem dX7_sheet_37 : decode cX7_sheet 37 = .ok (.invokevirtual 296, 3) := by decide +kernel
theorem dX7_sheet_40 : decode cX7_sheet 40 = .ok (.iload_n 3, 1) := by decide +kernel
theorem dX7_sheet_41 : decode cX7_sheet 41 = .ok (.ireturn, 1) := by decide +kernel
theorem dX7_drop_0 : decode cX7_drop 0 = .ok (.iload_n 1, 1) := by decide +kernel
theorem dX7_drop_1 : decode cX7_drop 1 = .ok (.invokestatic 272, 3) := by decide +kernel
theorem dX7_drop_4 : decode cX7_drop 4 = .ok (.ifCond .ne 5, 3) := by decide +kernel
theorem dX7_drop_7 : decode cX7_drop 7 = .ok (.iconst (-1), 1) := by decide +kernel
theorem dX7_drop_8 : decode cX7_drop 8 = .ok (.ireturn, 1) := by decide +kernel
theorem dX7_drop_9 : decode cX7_drop 9 = .ok (.aload_n 0, 1) := by decide +kernel
theorem dX7_drop_10 : decode cX7_drop 10 = .ok (.getfield 32, 3) := by decide +kernel
theorem dX7_drop_13 : decode cX7_drop 13 = .ok (.iload_n 1, 1) := by decide +kernel
theorem dX7_drop_14 : decode cX7_drop 14 = .ok (.aaload, 1) := by decide +kernel
theorem dX7_drop_15 : decode cX7_drop 15 = .ok (.astore_n 2, 1) := by decide +kernel
theorem dX7_drop_16 : decode cX7_drop 16 = .ok (.aload_n 2, 1) := by decide +kernel
theorem dX7_drop_17 : decode cX7_drop 17 = .ok (.getfield 299, 3) := by decide +kernel
theorem dX7_drop_20 : decode cX7_drop 20 = .ok (.ifCond .ne 6, 3) := by decide +kernel
theorem dX7_drop_23 : decode cX7_drop 23 = .ok (.bipush (-11), 2) := by decide +kernel
theorem dX7_drop_25 : decode cX7_drop 25 = .ok (.ireturn, 1) := by decide +kernel
theorem dX7_drop_26 : decode cX7_drop 26 = .ok (.aload_n 2, 1) := by decide +kernel
theorem dX7_drop_27 : decode cX7_drop 27 = .ok (.iconst 0, 1) := by decide +kernel
theorem dX7_drop_28 : decode cX7_drop 28 = .ok (.putfield 299, 3) := by decide +kernel
theorem dX7_drop_31 : decode cX7_drop 31 = .ok (.aload_n 2, 1) := by decide +kernel
theorem dX7_drop_32 : decode cX7_drop 32 = .ok (.getfield 302, 3) := by decide +kernel
theorem dX7_drop_35 : decode cX7_drop 35 = .ok (.ireturn, 1) := by decide +kernel
theorem dX7_item_0 : decode cX7_item 0 = .ok (.iload_n 1, 1) := by decide +kernel
theorem dX7_item_1 : decode cX7_item 1 = .ok (.invokestatic 272, 3) := by decide +kernel
theorem dX7_item_4 : decode cX7_item 4 = .ok (.ifCond .eq 10, 3) := by decide +kernel
theorem dX7_item_7 : decode cX7_item 7 = .ok (.iload_n 2, 1) := by decide +kernel
theorem dX7_item_8 : decode cX7_item 8 = .ok (.invokestatic 275, 3) := by decide +kernel
theorem dX7_item_11 : decode cX7_item 11 = .ok (.ifCond .ne 5, 3) := by decide +kernel
theorem dX7_item_14 : decode cX7_item 14 = .ok (.iconst (-1), 1) := by decide +kernel
theorem dX7_item_15 : decode cX7_item 15 = .ok (.ireturn, 1) := by decide +kernel
theorem dX7_item_16 : decode cX7_item 16 = .ok (.aload_n 0, 1) := by decide +kernel
theorem dX7_item_17 : decode cX7_item 17 = .ok (.getfield 32, 3) := by decide +kernel
theorem dX7_item_20 : decode cX7_item 20 = .ok (.iload_n 1, 1) := by decide +kernel
theorem dX7_item_21 : decode cX7_item 21 = .ok (.aaload, 1) := by decide +kernel
theorem dX7_item_22 : decode cX7_item 22 = .ok (.iload_n 2, 1) := by decide +kernel
theorem dX7_item_23 : decode cX7_item 23 = .ok (.iload_n 3, 1) := by decide +kernel
theorem dX7_item_24 : decode cX7_item 24 = .ok (.iconst 1, 1) := by decide +kernel
theorem dX7_item_25 : decode cX7_item 25 = .ok (.invokevirtual 278, 3) := by decide +kernel
theorem dX7_item_28 : decode cX7_item 28 = .ok (.istore 6, 2) := by decide +kernel
theorem dX7_item_30 : decode cX7_item 30 = .ok (.iload 6, 2) := by decide +kernel
theorem dX7_item_32 : decode cX7_item 32 = .ok (.ifCond .eq 6, 3) := by decide +kernel
theorem dX7_item_35 : decode cX7_item 35 = .ok (.iload 6, 2) := by decide +kernel
theorem dX7_item_37 : decode cX7_item 37 = .ok (.ireturn, 1) := by decide +kernel
theorem dX7_item_38 : decode cX7_item 38 = .ok (.aload_n 0, 1) := by decide +kernel
theorem dX7_item_39 : decode cX7_item 39 = .ok (.getfield 32, 3) := by decide +kernel
theorem dX7_item_42 : decode cX7_item 42 = .ok (.iload_n 1, 1) := by decide +kernel
theorem dX7_item_43 : decode cX7_item 43 = .ok (.aaload, 1) := by decide +kernel
theorem dX7_item_44 : decode cX7_item 44 = .ok (.iload_n 3, 1) := by decide +kernel
theorem dX7_item_45 : decode cX7_item 45 = .ok (.lload 4, 2) := by decide +kernel
theorem dX7_item_47 : decode cX7_item 47 = .ok (.invokevirtual 292, 3) := by decide +kernel
theorem dX7_item_50 : decode cX7_item 50 = .ok (.iconst 1, 1) := by decide +kernel
theorem dX7_item_51 : decode cX7_item 51 = .ok (.ireturn, 1) := by decide +kernel
theorem dX7_copy_0 : decode cX7_copy 0 = .ok (.iload_n 1, 1) := by decide +kernel
theorem dX7_copy_1 : decode cX7_copy 1 = .ok (.invokestatic 272, 3) := by decide +kernel
theorem dX7_copy_4 : decode cX7_copy 4 = .ok (.ifCond .eq 10, 3) := by decide +kernel
theorem dX7_copy_7 : decode cX7_copy 7 = .ok (.iload_n 3, 1) := by decide +kernel
theorem dX7_copy_8 : decode cX7_copy 8 = .ok (.invokestatic 272, 3) := by decide +kernel
theorem dX7_copy_11 : decode cX7_copy 11 = .ok (.ifCond .ne 5, 3) := by decide +kernel
theorem dX7_copy_14 : decode cX7_copy 14 = .ok (.iconst (-1), 1) := by decide +kernel
theorem dX7_copy_15 : decode cX7_copy 15 = .ok (.ireturn, 1) := by decide +kernel
theorem dX7_copy_16 : decode cX7_copy 16 = .ok (.aload_n 0, 1) := by decide +kernel
theorem dX7_copy_17 : decode cX7_copy 17 = .ok (.getfield 32, 3) := by decide +kernel
theorem dX7_copy_20 : decode cX7_copy 20 = .ok (.iload_n 1, 1) := by decide +kernel
theorem dX7_copy_21 : decode cX7_copy 21 = .ok (.aaload, 1) := by decide +kernel
theorem dX7_copy_22 : decode cX7_copy 22 = .ok (.astore 6, 2) := by decide +kernel
theorem dX7_copy_24 : decode cX7_copy 24 = .ok (.aload_n 0, 1) := by decide +kernel
theorem dX7_copy_25 : decode cX7_copy 25 = .ok (.getfield 32, 3) := by decide +kernel
theorem dX7_copy_28 : decode cX7_copy 28 = .ok (.iload_n 3, 1) := by decide +kernel
theorem dX7_copy_29 : decode cX7_copy 29 = .ok (.aaload, 1) := by decide +kernel
theorem dX7_copy_30 : decode cX7_copy 30 = .ok (.astore 7, 2) := by decide +kernel
theorem dX7_copy_32 : decode cX7_copy 32 = .ok (.aload 6, 2) := by decide +kernel
theorem dX7_copy_34 : decode cX7_copy 34 = .ok (.getfield 299, 3) := by decide +kernel
theorem dX7_copy_37 : decode cX7_copy 37 = .ok (.ifCond .eq 11, 3) := by decide +kernel
theorem dX7_copy_40 : decode cX7_copy 40 = .ok (.aload 7, 2) := by decide +kernel
theorem dX7_copy_42 : decode cX7_copy 42 = .ok (.getfield 299, 3) := by decide +kernel
theorem dX7_copy_45 : decode cX7_copy 45 = .ok (.ifCond .ne 6, 3) := by decide +kernel
theorem dX7_copy_48 : decode cX7_copy 48 = .ok (.bipush (-11), 2) := by decide +kernel
theorem dX7_copy_50 : decode cX7_copy 50 = .ok (.ireturn, 1) := by decide +kernel
theorem dX7_copy_51 : decode cX7_copy 51 = .ok (.aload 6, 2) := by decide +kernel
theorem dX7_copy_53 : decode cX7_copy 53 = .ok (.getfield 303, 3) := by decide +kernel
theorem dX7_copy_56 : decode cX7_copy 56 = .ok (.aload 7, 2) := by decide +kernel
theorem dX7_copy_58 : decode cX7_copy 58 = .ok (.getfield 303, 3) := by decide +kernel
theorem dX7_copy_61 : decode cX7_copy 61 = .ok (.if_icmp .eq 6, 3) := by decide +kernel
theorem dX7_copy_64 : decode cX7_copy 64 = .ok (.bipush (-12), 2) := by decide +kernel
theorem dX7_copy_66 : decode cX7_copy 66 = .ok (.ireturn, 1) := by decide +kernel
theorem dX7_copy_67 : decode cX7_copy 67 = .ok (.aload 6, 2) := by decide +kernel
theorem dX7_copy_69 : decode cX7_copy 69 = .ok (.iload_n 2, 1) := by decide +kernel
theorem dX7_copy_70 : decode cX7_copy 70 = .ok (.iload 5, 2) := by decide +kernel
theorem dX7_copy_72 : decode cX7_copy 72 = .ok (.invokevirtual 306, 3) := by decide +kernel
theorem dX7_copy_75 : decode cX7_copy 75 = .ok (.ifCond .eq 15, 3) := by decide +kernel
theorem dX7_copy_78 : decode cX7_copy 78 = .ok (.aload 7, 2) := by decide +kernel
theorem dX7_copy_80 : decode cX7_copy 80 = .ok (.iload 4, 2) := by decide +kernel
theorem dX7_copy_82 : decode cX7_copy 82 = .ok (.iload 5, 2) := by decide +kernel
theorem dX7_copy_84 : decode cX7_copy 84 = .ok (.invokevirtual 306, 3) := by decide +kernel
theorem dX7_copy_87 : decode cX7_copy 87 = .ok (.ifCond .ne 6, 3) := by decide +kernel
theorem dX7_copy_90 : decode cX7_copy 90 = .ok (.bipush (-13), 2) := by decide +kernel
theorem dX7_copy_92 : decode cX7_copy 92 = .ok (.ireturn, 1) := by decide +kernel
theorem dX7_copy_93 : decode cX7_copy 93 = .ok (.aload 6, 2) := by decide +kernel
theorem dX7_copy_95 : decode cX7_copy 95 = .ok (.getfield 309, 3) := by decide +kernel
theorem dX7_copy_98 : decode cX7_copy 98 = .ok (.iload_n 2, 1) := by decide +kernel
theorem dX7_copy_99 : decode cX7_copy 99 = .ok (.aload 7, 2) := by decide +kernel
theorem dX7_copy_101 : decode cX7_copy 101 = .ok (.getfield 309, 3) := by decide +kernel
theorem dX7_copy_104 : decode cX7_copy 104 = .ok (.iload 4, 2) := by decide +kernel
theorem dX7_copy_106 : decode cX7_copy 106 = .ok (.iload 5, 2) := by decide +kernel
theorem dX7_copy_108 : decode cX7_copy 108 = .ok (.invokestatic 313, 3) := by decide +kernel
theorem dX7_copy_111 : decode cX7_copy 111 = .ok (.iload 5, 2) := by decide +kernel
theorem dX7_copy_113 : decode cX7_copy 113 = .ok (.ireturn, 1) := by decide +kernel
theorem dX7_foretell_0 : decode cX7_foretell 0 = .ok (.aload_n 0, 1) := by decide +kernel
theorem dX7_foretell_1 : decode cX7_foretell 1 = .ok (.getfield 39, 3) := by decide +kernel
theorem dX7_foretell_4 : decode cX7_foretell 4 = .ok (.aload_n 0, 1) := by decide +kernel
theorem dX7_foretell_5 : decode cX7_foretell 5 = .ok (.getfield 12, 3) := by decide +kernel
theorem dX7_foretell_8 : decode cX7_foretell 8 = .ok (.getfield 87, 3) := by decide +kernel
theorem dX7_foretell_11 : decode cX7_foretell 11 = .ok (.invokevirtual 218, 3) := by decide +kernel
theorem dX7_foretell_14 : decode cX7_foretell 14 = .ok (.aload_n 0, 1) := by decide +kernel
theorem dX7_foretell_15 : decode cX7_foretell 15 = .ok (.getfield 39, 3) := by decide +kernel
theorem dX7_foretell_18 : decode cX7_foretell 18 = .ok (.iload_n 1, 1) := by decide +kernel
theorem dX7_foretell_19 : decode cX7_foretell 19 = .ok (.aload_n 0, 1) := by decide +kernel
theorem dX7_foretell_20 : decode cX7_foretell 20 = .ok (.getfield 12, 3) := by decide +kernel
theorem dX7_foretell_23 : decode cX7_foretell 23 = .ok (.getfield 66, 3) := by decide +kernel
theorem dX7_foretell_26 : decode cX7_foretell 26 = .ok (.invokevirtual 319, 3) := by decide +kernel
theorem dX7_foretell_29 : decode cX7_foretell 29 = .ok (.return_, 1) := by decide +kernel
theorem dX7_foretellFor_0 : decode cX7_foretellFor 0 = .ok (.aload_n 0, 1) := by decide +kernel
theorem dX7_foretellFor_1 : decode cX7_foretellFor 1 = .ok (.getfield 39, 3) := by decide +kernel
theorem dX7_foretellFor_4 : decode cX7_foretellFor 4 = .ok (.aload_n 0, 1) := by decide +kernel
theorem dX7_foretellFor_5 : decode cX7_foretellFor 5 = .ok (.getfield 12, 3) := by decide +kernel
theorem dX7_foretellFor_8 : decode cX7_foretellFor 8 = .ok (.getfield 87, 3) := by decide +kernel
theorem dX7_foretellFor_11 : decode cX7_foretellFor 11 = .ok (.invokevirtual 218, 3) := by decide +kernel
theorem dX7_foretellFor_14 : decode cX7_foretellFor 14 = .ok (.aload_n 0, 1) := by decide +kernel
theorem dX7_foretellFor_15 : decode cX7_foretellFor 15 = .ok (.getfield 39, 3) := by decide +kernel
theorem dX7_foretellFor_18 : decode cX7_foretellFor 18 = .ok (.aload_n 1, 1) := by decide +kernel
theorem dX7_foretellFor_19 : decode cX7_foretellFor 19 = .ok (.invokevirtual 323, 3) := by decide +kernel
theorem dX7_foretellFor_22 : decode cX7_foretellFor 22 = .ok (.aload_n 0, 1) := by decide +kernel
theorem dX7_foretellFor_23 : decode cX7_foretellFor 23 = .ok (.getfield 39, 3) := by decide +kernel
theorem dX7_foretellFor_26 : decode cX7_foretellFor 26 = .ok (.iload_n 2, 1) := by decide +kernel
theorem dX7_foretellFor_27 : decode cX7_foretellFor 27 = .ok (.aload_n 0, 1) := by decide +kernel
theorem dX7_foretellFor_28 : decode cX7_foretellFor 28 = .ok (.getfield 12, 3) := by decide +kernel
theorem dX7_foretellFor_31 : decode cX7_foretellFor 31 = .ok (.getfield 66, 3) := by decide +kernel
theorem dX7_foretellFor_34 : decode cX7_foretellFor 34 = .ok (.invokevirtual 319, 3) := by decide +kernel
theorem dX7_foretellFor_37 : decode cX7_foretellFor 37 = .ok (.return_, 1) := by decide +kernel
theorem dX7_whoCouldStay_0 : decode cX7_whoCouldStay 0 = .ok (.aload_n 0, 1) := by decide +kernel
theorem dX7_whoCouldStay_1 : decode cX7_whoCouldStay 1 = .ok (.getfield 12, 3) := by decide +kernel
theorem dX7_whoCouldStay_4 : decode cX7_whoCouldStay 4 = .ok (.getfield 87, 3) := by decide +kernel
theorem dX7_whoCouldStay_7 : decode cX7_whoCouldStay 7 = .ok (.astore_n 2, 1) := by decide +kernel
theorem dX7_whoCouldStay_8 : decode cX7_whoCouldStay 8 = .ok (.aload_n 0, 1) := by decide +kernel
theorem dX7_whoCouldStay_9 : decode cX7_whoCouldStay 9 = .ok (.aload_n 1, 1) := by decide +kernel
theorem dX7_whoCouldStay_10 : decode cX7_whoCouldStay 10 = .ok (.invokevirtual 327, 3) := by decide +kernel
theorem dX7_whoCouldStay_13 : decode cX7_whoCouldStay 13 = .ok (.istore_n 3, 1) := by decide +kernel
theorem dX7_whoCouldStay_14 : decode cX7_whoCouldStay 14 = .ok (.iconst 0, 1) := by decide +kernel
theorem dX7_whoCouldStay_15 : decode cX7_whoCouldStay 15 = .ok (.istore 4, 2) := by decide +kernel
theorem dX7_whoCouldStay_17 : decode cX7_whoCouldStay 17 = .ok (.iconst (-1), 1) := by decide +kernel
theorem dX7_whoCouldStay_18 : decode cX7_whoCouldStay 18 = .ok (.istore 5, 2) := by decide +kernel
theorem dX7_whoCouldStay_20 : decode cX7_whoCouldStay 20 = .ok (.iconst 0, 1) := by decide +kernel
theorem dX7_whoCouldStay_21 : decode cX7_whoCouldStay 21 = .ok (.istore 6, 2) := by decide +kernel
theorem dX7_whoCouldStay_23 : decode cX7_whoCouldStay 23 = .ok (.iload 6, 2) := by decide +kernel
theorem dX7_whoCouldStay_25 : decode cX7_whoCouldStay 25 = .ok (.aload_n 2, 1) := by decide +kernel
theorem dX7_whoCouldStay_26 : decode cX7_whoCouldStay 26 = .ok (.getfield 161, 3) := by decide +kernel
theorem dX7_whoCouldStay_29 : decode cX7_whoCouldStay 29 = .ok (.if_icmp .ge 60, 3) := by decide +kernel
theorem dX7_whoCouldStay_32 : decode cX7_whoCouldStay 32 = .ok (.aload_n 2, 1) := by decide +kernel
theorem dX7_whoCouldStay_33 : decode cX7_whoCouldStay 33 = .ok (.getfield 173, 3) := by decide +kernel
theorem dX7_whoCouldStay_36 : decode cX7_whoCouldStay 36 = .ok (.iload 6, 2) := by decide +kernel
theorem dX7_whoCouldStay_38 : decode cX7_whoCouldStay 38 = .ok (.iaload, 1) := by decide +kernel
theorem dX7_whoCouldStay_39 : decode cX7_whoCouldStay 39 = .ok (.istore 7, 2) := by decide +kernel
theorem dX7_whoCouldStay_41 : decode cX7_whoCouldStay 41 = .ok (.iload_n 3, 1) := by decide +kernel
theorem dX7_whoCouldStay_42 : decode cX7_whoCouldStay 42 = .ok (.ifCond .le 41, 3) := by decide +kernel
theorem dX7_whoCouldStay_45 : decode cX7_whoCouldStay 45 = .ok (.aload_n 1, 1) := by decide +kernel
theorem dX7_whoCouldStay_46 : decode cX7_whoCouldStay 46 = .ok (.iload 7, 2) := by decide +kernel
theorem dX7_whoCouldStay_48 : decode cX7_whoCouldStay 48 = .ok (.iaload, 1) := by decide +kernel
theorem dX7_whoCouldStay_49 : decode cX7_whoCouldStay 49 = .ok (.iload 5, 2) := by decide +kernel
theorem dX7_whoCouldStay_51 : decode cX7_whoCouldStay 51 = .ok (.if_icmp .le 32, 3) := by decide +kernel
theorem dX7_whoCouldStay_54 : decode cX7_whoCouldStay 54 = .ok (.aload_n 0, 1) := by decide +kernel
theorem dX7_whoCouldStay_55 : decode cX7_whoCouldStay 55 = .ok (.getfield 57, 3) := by decide +kernel
theorem dX7_whoCouldStay_58 : decode cX7_whoCouldStay 58 = .ok (.iload 6, 2) := by decide +kernel
theorem dX7_whoCouldStay_60 : decode cX7_whoCouldStay 60 = .ok (.iaload, 1) := by decide +kernel
theorem dX7_whoCouldStay_61 : decode cX7_whoCouldStay 61 = .ok (.iload_n 3, 1) := by decide +kernel
theorem dX7_whoCouldStay_62 : decode cX7_whoCouldStay 62 = .ok (.if_icmp .ne 21, 3) := by decide +kernel
theorem dX7_whoCouldStay_65 : decode cX7_whoCouldStay 65 = .ok (.iload 4, 2) := by decide +kernel
theorem dX7_whoCouldStay_67 : decode cX7_whoCouldStay 67 = .ok (.iconst 1, 1) := by decide +kernel
theorem dX7_whoCouldStay_68 : decode cX7_whoCouldStay 68 = .ok (.iload 7, 2) := by decide +kernel
theorem dX7_whoCouldStay_70 : decode cX7_whoCouldStay 70 = .ok (.ishl, 1) := by decide +kernel
theorem dX7_whoCouldStay_71 : decode cX7_whoCouldStay 71 = .ok (.ior, 1) := by decide +kernel
theorem dX7_whoCouldStay_72 : decode cX7_whoCouldStay 72 = .ok (.istore 4, 2) := by decide +kernel
theorem dX7_whoCouldStay_74 : decode cX7_whoCouldStay 74 = .ok (.aload_n 1, 1) := by decide +kernel
theorem dX7_whoCouldStay_75 : decode cX7_whoCouldStay 75 = .ok (.iload 7, 2) := by decide +kernel
theorem dX7_whoCouldStay_77 : decode cX7_whoCouldStay 77 = .ok (.iaload, 1) := by decide +kernel
theorem dX7_whoCouldStay_78 : decode cX7_whoCouldStay 78 = .ok (.istore 5, 2) := by decide +kernel
theorem dX7_whoCouldStay_80 : decode cX7_whoCouldStay 80 = .ok (.iinc 3 (-1), 3) := by decide +kernel
theorem dX7_whoCouldStay_83 : decode cX7_whoCouldStay 83 = .ok (.iinc 6 1, 3) := by decide +kernel
theorem dX7_whoCouldStay_86 : decode cX7_whoCouldStay 86 = .ok (.goto (-63), 3) := by decide +kernel
theorem dX7_whoCouldStay_89 : decode cX7_whoCouldStay 89 = .ok (.iload 4, 2) := by decide +kernel
theorem dX7_whoCouldStay_91 : decode cX7_whoCouldStay 91 = .ok (.ireturn, 1) := by decide +kernel
theorem dX7_measureChains_0 : decode cX7_measureChains 0 = .ok (.aload_n 0, 1) := by decide +kernel
theorem dX7_measureChains_1 : decode cX7_measureChains 1 = .ok (.getfield 12, 3) := by decide +kernel
theorem dX7_measureChains_4 : decode cX7_measureChains 4 = .ok (.getfield 87, 3) := by decide +kernel
theorem dX7_measureChains_7 : decode cX7_measureChains 7 = .ok (.astore_n 2, 1) := by decide +kernel
theorem dX7_measureChains_8 : decode cX7_measureChains 8 = .ok (.iconst 0, 1) := by decide +kernel
theorem dX7_measureChains_9 : decode cX7_measureChains 9 = .ok (.istore_n 3, 1) := by decide +kernel
theorem dX7_measureChains_10 : decode cX7_measureChains 10 = .ok (.aload_n 2, 1) := by decide +kernel
theorem dX7_measureChains_11 : decode cX7_measureChains 11 = .ok (.getfield 161, 3) := by decide +kernel
theorem dX7_measureChains_14 : decode cX7_measureChains 14 = .ok (.iconst 1, 1) := by decide +kernel
theorem dX7_measureChains_15 : decode cX7_measureChains 15 = .ok (.isub, 1) := by decide +kernel
theorem dX7_measureChains_16 : decode cX7_measureChains 16 = .ok (.istore 4, 2) := by decide +kernel
theorem dX7_measureChains_18 : decode cX7_measureChains 18 = .ok (.iload 4, 2) := by decide +kernel
theorem dX7_measureChains_20 : decode cX7_measureChains 20 = .ok (.ifCond .lt 91, 3) := by decide +kernel
theorem dX7_measureChains_23 : decode cX7_measureChains 23 = .ok (.iconst 0, 1) := by decide +kernel
theorem dX7_measureChains_24 : decode cX7_measureChains 24 = .ok (.istore 5, 2) := by decide +kernel
theorem dX7_measureChains_26 : decode cX7_measureChains 26 = .ok (.iload 4, 2) := by decide +kernel
theorem dX7_measureChains_28 : decode cX7_measureChains 28 = .ok (.iconst 1, 1) := by decide +kernel
theorem dX7_measureChains_29 : decode cX7_measureChains 29 = .ok (.iadd, 1) := by decide +kernel
theorem dX7_measureChains_30 : decode cX7_measureChains 30 = .ok (.istore 6, 2) := by decide +kernel
theorem dX7_measureChains_32 : decode cX7_measureChains 32 = .ok (.iload 6, 2) := by decide +kernel
theorem dX7_measureChains_34 : decode cX7_measureChains 34 = .ok (.aload_n 2, 1) := by decide +kernel
theorem dX7_measureChains_35 : decode cX7_measureChains 35 = .ok (.getfield 161, 3) := by decide +kernel
theorem dX7_measureChains_38 : decode cX7_measureChains 38 = .ok (.if_icmp .ge 44, 3) := by decide +kernel
theorem dX7_measureChains_41 : decode cX7_measureChains 41 = .ok (.aload_n 1, 1) := by decide +kernel
theorem dX7_measureChains_42 : decode cX7_measureChains 42 = .ok (.aload_n 2, 1) := by decide +kernel
theorem dX7_measureChains_43 : decode cX7_measureChains 43 = .ok (.getfield 173, 3) := by decide +kernel
theorem dX7_measureChains_46 : decode cX7_measureChains 46 = .ok (.iload 6, 2) := by decide +kernel
theorem dX7_measureChains_48 : decode cX7_measureChains 48 = .ok (.iaload, 1) := by decide +kernel
theorem dX7_measureChains_49 : decode cX7_measureChains 49 = .ok (.iaload, 1) := by decide +kernel
theorem dX7_measureChains_50 : decode cX7_measureChains 50 = .ok (.aload_n 1, 1) := by decide +kernel
theorem dX7_measureChains_51 : decode cX7_measureChains 51 = .ok (.aload_n 2, 1) := by decide +kernel
theorem dX7_measureChains_52 : decode cX7_measureChains 52 = .ok (.getfield 173, 3) := by decide +kernel
theorem dX7_measureChains_55 : decode cX7_measureChains 55 = .ok (.iload 4, 2) := by decide +kernel
theorem dX7_measureChains_57 : decode cX7_measureChains 57 = .ok (.iaload, 1) := by decide +kernel
theorem dX7_measureChains_58 : decode cX7_measureChains 58 = .ok (.iaload, 1) := by decide +kernel
theorem dX7_measureChains_59 : decode cX7_measureChains 59 = .ok (.if_icmp .le 17, 3) := by decide +kernel
theorem dX7_measureChains_62 : decode cX7_measureChains 62 = .ok (.iload 5, 2) := by decide +kernel
theorem dX7_measureChains_64 : decode cX7_measureChains 64 = .ok (.aload_n 0, 1) := by decide +kernel
theorem dX7_measureChains_65 : decode cX7_measureChains 65 = .ok (.getfield 57, 3) := by decide +kernel
theorem dX7_measureChains_68 : decode cX7_measureChains 68 = .ok (.iload 6, 2) := by decide +kernel
theorem dX7_measureChains_70 : decode cX7_measureChains 70 = .ok (.iaload, 1) := by decide +kernel
theorem dX7_measureChains_71 : decode cX7_measureChains 71 = .ok (.invokestatic 330, 3) := by decide +kernel
theorem dX7_measureChains_74 : decode cX7_measureChains 74 = .ok (.istore 5, 2) := by decide +kernel
theorem dX7_measureChains_76 : decode cX7_measureChains 76 = .ok (.iinc 6 1, 3) := by decide +kernel
theorem dX7_measureChains_79 : decode cX7_measureChains 79 = .ok (.goto (-47), 3) := by decide +kernel
theorem dX7_measureChains_82 : decode cX7_measureChains 82 = .ok (.aload_n 0, 1) := by decide +kernel
theorem dX7_measureChains_83 : decode cX7_measureChains 83 = .ok (.getfield 57, 3) := by decide +kernel
theorem dX7_measureChains_86 : decode cX7_measureChains 86 = .ok (.iload 4, 2) := by decide +kernel
theorem dX7_measureChains_88 : decode cX7_measureChains 88 = .ok (.iload 5, 2) := by decide +kernel
theorem dX7_measureChains_90 : decode cX7_measureChains 90 = .ok (.iconst 1, 1) := by decide +kernel
theorem dX7_measureChains_91 : decode cX7_measureChains 91 = .ok (.iadd, 1) := by decide +kernel
theorem dX7_measureChains_92 : decode cX7_measureChains 92 = .ok (.iastore, 1) := by decide +kernel
theorem dX7_measureChains_93 : decode cX7_measureChains 93 = .ok (.iload_n 3, 1) := by decide +kernel
theorem dX7_measureChains_94 : decode cX7_measureChains 94 = .ok (.aload_n 0, 1) := by decide +kernel
theorem dX7_measureChains_95 : decode cX7_measureChains 95 = .ok (.getfield 57, 3) := by decide +kernel
theorem dX7_measureChains_98 : decode cX7_measureChains 98 = .ok (.iload 4, 2) := by decide +kernel
theorem dX7_measureChains_100 : decode cX7_measureChains 100 = .ok (.iaload, 1) := by decide +kernel
theorem dX7_measureChains_101 : decode cX7_measureChains 101 = .ok (.invokestatic 330, 3) := by decide +kernel
theorem dX7_measureChains_104 : decode cX7_measureChains 104 = .ok (.istore_n 3, 1) := by decide +kernel
theorem dX7_measureChains_105 : decode cX7_measureChains 105 = .ok (.iinc 4 (-1), 3) := by decide +kernel
theorem dX7_measureChains_108 : decode cX7_measureChains 108 = .ok (.goto (-90), 3) := by decide +kernel
theorem dX7_measureChains_111 : decode cX7_measureChains 111 = .ok (.iload_n 3, 1) := by decide +kernel
theorem dX7_measureChains_112 : decode cX7_measureChains 112 = .ok (.ireturn, 1) := by decide +kernel
theorem dX7_findEase_0 : decode cX7_findEase 0 = .ok (.aload_n 0, 1) := by decide +kernel
theorem dX7_findEase_1 : decode cX7_findEase 1 = .ok (.getfield 53, 3) := by decide +kernel
theorem dX7_findEase_4 : decode cX7_findEase 4 = .ok (.aload_n 0, 1) := by decide +kernel
theorem dX7_findEase_5 : decode cX7_findEase 5 = .ok (.getfield 12, 3) := by decide +kernel
theorem dX7_findEase_8 : decode cX7_findEase 8 = .ok (.getfield 87, 3) := by decide +kernel
theorem dX7_findEase_11 : decode cX7_findEase 11 = .ok (.invokevirtual 232, 3) := by decide +kernel
theorem dX7_findEase_14 : decode cX7_findEase 14 = .ok (.aload_n 0, 1) := by decide +kernel
theorem dX7_findEase_15 : decode cX7_findEase 15 = .ok (.getfield 53, 3) := by decide +kernel
theorem dX7_findEase_18 : decode cX7_findEase 18 = .ok (.getfield 237, 3) := by decide +kernel
theorem dX7_findEase_21 : decode cX7_findEase 21 = .ok (.istore_n 1, 1) := by decide +kernel
theorem dX7_findEase_22 : decode cX7_findEase 22 = .ok (.iconst 0, 1) := by decide +kernel
theorem dX7_findEase_23 : decode cX7_findEase 23 = .ok (.istore_n 2, 1) := by decide +kernel
theorem dX7_findEase_24 : decode cX7_findEase 24 = .ok (.iload_n 2, 1) := by decide +kernel
theorem dX7_findEase_25 : decode cX7_findEase 25 = .ok (.sipush 720, 3) := by decide +kernel
theorem dX7_findEase_28 : decode cX7_findEase 28 = .ok (.if_icmp .ge 65, 3) := by decide +kernel
theorem dX7_findEase_31 : decode cX7_findEase 31 = .ok (.aload_n 0, 1) := by decide +kernel
theorem dX7_findEase_32 : decode cX7_findEase 32 = .ok (.getfield 12, 3) := by decide +kernel
theorem dX7_findEase_35 : decode cX7_findEase 35 = .ok (.getfield 66, 3) := by decide +kernel
theorem dX7_findEase_38 : decode cX7_findEase 38 = .ok (.aload_n 0, 1) := by decide +kernel
theorem dX7_findEase_39 : decode cX7_findEase 39 = .ok (.getfield 53, 3) := by decide +kernel
theorem dX7_findEase_42 : decode cX7_findEase 42 = .ok (.getfield 235, 3) := by decide +kernel
theorem dX7_findEase_45 : decode cX7_findEase 45 = .ok (.aload_n 0, 1) := by decide +kernel
theorem dX7_findEase_46 : decode cX7_findEase 46 = .ok (.getfield 53, 3) := by decide +kernel
theorem dX7_findEase_49 : decode cX7_findEase 49 = .ok (.getfield 237, 3) := by decide +kernel
theorem dX7_findEase_52 : decode cX7_findEase 52 = .ok (.invokevirtual 176, 3) := by decide +kernel
theorem dX7_findEase_55 : decode cX7_findEase 55 = .ok (.istore_n 3, 1) := by decide +kernel
theorem dX7_findEase_56 : decode cX7_findEase 56 = .ok (.iload_n 3, 1) := by decide +kernel
theorem dX7_findEase_57 : decode cX7_findEase 57 = .ok (.iload_n 1, 1) := by decide +kernel
theorem dX7_findEase_58 : decode cX7_findEase 58 = .ok (.if_icmp .ge 12, 3) := by decide +kernel
theorem dX7_findEase_61 : decode cX7_findEase 61 = .ok (.iload_n 3, 1) := by decide +kernel
theorem dX7_findEase_62 : decode cX7_findEase 62 = .ok (.istore_n 1, 1) := by decide +kernel
theorem dX7_findEase_63 : decode cX7_findEase 63 = .ok (.aload_n 0, 1) := by decide +kernel
theorem dX7_findEase_64 : decode cX7_findEase 64 = .ok (.getfield 53, 3) := by decide +kernel
theorem dX7_findEase_67 : decode cX7_findEase 67 = .ok (.invokevirtual 333, 3) := by decide +kernel
theorem dX7_findEase_70 : decode cX7_findEase 70 = .ok (.iload_n 1, 1) := by decide +kernel
theorem dX7_findEase_71 : decode cX7_findEase 71 = .ok (.ifCond .eq 22, 3) := by decide +kernel
theorem dX7_findEase_74 : decode cX7_findEase 74 = .ok (.aload_n 0, 1) := by decide +kernel
theorem dX7_findEase_75 : decode cX7_findEase 75 = .ok (.getfield 53, 3) := by decide +kernel
theorem dX7_findEase_78 : decode cX7_findEase 78 = .ok (.invokevirtual 240, 3) := by decide +kernel
theorem dX7_findEase_81 : decode cX7_findEase 81 = .ok (.ifCond .ne 6, 3) := by decide +kernel
theorem dX7_findEase_84 : decode cX7_findEase 84 = .ok (.goto 9, 3) := by decide +kernel
theorem dX7_findEase_87 : decode cX7_findEase 87 = .ok (.iinc 2 1, 3) := by decide +kernel
theorem dX7_findEase_90 : decode cX7_findEase 90 = .ok (.goto (-66), 3) := by decide +kernel
theorem dX7_findEase_93 : decode cX7_findEase 93 = .ok (.iload_n 1, 1) := by decide +kernel
theorem dX7_findEase_94 : decode cX7_findEase 94 = .ok (.ireturn, 1) := by decide +kernel
theorem dX7_findMostLeft_0 : decode cX7_findMostLeft 0 = .ok (.aload_n 0, 1) := by decide +kernel
theorem dX7_findMostLeft_1 : decode cX7_findMostLeft 1 = .ok (.getfield 53, 3) := by decide +kernel
theorem dX7_findMostLeft_4 : decode cX7_findMostLeft 4 = .ok (.aload_n 0, 1) := by decide +kernel
theorem dX7_findMostLeft_5 : decode cX7_findMostLeft 5 = .ok (.getfield 12, 3) := by decide +kernel
theorem dX7_findMostLeft_8 : decode cX7_findMostLeft 8 = .ok (.getfield 87, 3) := by decide +kernel
theorem dX7_findMostLeft_11 : decode cX7_findMostLeft 11 = .ok (.invokevirtual 232, 3) := by decide +kernel
theorem dX7_findMostLeft_14 : decode cX7_findMostLeft 14 = .ok (.iconst (-1), 1) := by decide +kernel
theorem dX7_findMostLeft_15 : decode cX7_findMostLeft 15 = .ok (.istore_n 2, 1) := by decide +kernel
theorem dX7_findMostLeft_16 : decode cX7_findMostLeft 16 = .ok (.iconst (-1), 1) := by decide +kernel
theorem dX7_findMostLeft_17 : decode cX7_findMostLeft 17 = .ok (.istore_n 3, 1) := by decide +kernel
theorem dX7_findMostLeft_18 : decode cX7_findMostLeft 18 = .ok (.iconst 0, 1) := by decide +kernel
theorem dX7_findMostLeft_19 : decode cX7_findMostLeft 19 = .ok (.istore 4, 2) := by decide +kernel
theorem dX7_findMostLeft_21 : decode cX7_findMostLeft 21 = .ok (.iload 4, 2) := by decide +kernel
theorem dX7_findMostLeft_23 : decode cX7_findMostLeft 23 = .ok (.sipush 720, 3) := by decide +kernel
theorem dX7_findMostLeft_26 : decode cX7_findMostLeft 26 = .ok (.if_icmp .ge 99, 3) := by decide +kernel
theorem dX7_findMostLeft_29 : decode cX7_findMostLeft 29 = .ok (.aload_n 0, 1) := by decide +kernel
theorem dX7_findMostLeft_30 : decode cX7_findMostLeft 30 = .ok (.getfield 53, 3) := by decide +kernel
theorem dX7_findMostLeft_33 : decode cX7_findMostLeft 33 = .ok (.invokevirtual 336, 3) := by decide +kernel
theorem dX7_findMostLeft_36 : decode cX7_findMostLeft 36 = .ok (.ifCond .ne 70, 3) := by decide +kernel
theorem dX7_findMostLeft_39 : decode cX7_findMostLeft 39 = .ok (.aload_n 0, 1) := by decide +kernel
theorem dX7_findMostLeft_40 : decode cX7_findMostLeft 40 = .ok (.aload_n 0, 1) := by decide +kernel
theorem dX7_findMostLeft_41 : decode cX7_findMostLeft 41 = .ok (.getfield 53, 3) := by decide +kernel
theorem dX7_findMostLeft_44 : decode cX7_findMostLeft 44 = .ok (.getfield 235, 3) := by decide +kernel
theorem dX7_findMostLeft_47 : decode cX7_findMostLeft 47 = .ok (.iload_n 1, 1) := by decide +kernel
theorem dX7_findMostLeft_48 : decode cX7_findMostLeft 48 = .ok (.invokevirtual 256, 3) := by decide +kernel
theorem dX7_findMostLeft_51 : decode cX7_findMostLeft 51 = .ok (.aload_n 0, 1) := by decide +kernel
theorem dX7_findMostLeft_52 : decode cX7_findMostLeft 52 = .ok (.getfield 39, 3) := by decide +kernel
theorem dX7_findMostLeft_55 : decode cX7_findMostLeft 55 = .ok (.invokevirtual 170, 3) := by decide +kernel
theorem dX7_findMostLeft_58 : decode cX7_findMostLeft 58 = .ok (.istore 5, 2) := by decide +kernel
theorem dX7_findMostLeft_60 : decode cX7_findMostLeft 60 = .ok (.aload_n 0, 1) := by decide +kernel
theorem dX7_findMostLeft_61 : decode cX7_findMostLeft 61 = .ok (.getfield 39, 3) := by decide +kernel
theorem dX7_findMostLeft_64 : decode cX7_findMostLeft 64 = .ok (.getfield 161, 3) := by decide +kernel
theorem dX7_findMostLeft_67 : decode cX7_findMostLeft 67 = .ok (.iload_n 2, 1) := by decide +kernel
theorem dX7_findMostLeft_68 : decode cX7_findMostLeft 68 = .ok (.if_icmp .gt 20, 3) := by decide +kernel
theorem dX7_findMostLeft_71 : decode cX7_findMostLeft 71 = .ok (.aload_n 0, 1) := by decide +kernel
theorem dX7_findMostLeft_72 : decode cX7_findMostLeft 72 = .ok (.getfield 39, 3) := by decide +kernel
theorem dX7_findMostLeft_75 : decode cX7_findMostLeft 75 = .ok (.getfield 161, 3) := by decide +kernel
theorem dX7_findMostLeft_78 : decode cX7_findMostLeft 78 = .ok (.iload_n 2, 1) := by decide +kernel
theorem dX7_findMostLeft_79 : decode cX7_findMostLeft 79 = .ok (.if_icmp .ne 27, 3) := by decide +kernel
theorem dX7_findMostLeft_82 : decode cX7_findMostLeft 82 = .ok (.iload 5, 2) := by decide +kernel
theorem dX7_findMostLeft_84 : decode cX7_findMostLeft 84 = .ok (.iload_n 3, 1) := by decide +kernel
theorem dX7_findMostLeft_85 : decode cX7_findMostLeft 85 = .ok (.if_icmp .le 21, 3) := by decide +kernel
theorem dX7_findMostLeft_88 : decode cX7_findMostLeft 88 = .ok (.aload_n 0, 1) := by decide +kernel
theorem dX7_findMostLeft_89 : decode cX7_findMostLeft 89 = .ok (.getfield 39, 3) := by decide +kernel
theorem dX7_findMostLeft_92 : decode cX7_findMostLeft 92 = .ok (.getfield 161, 3) := by decide +kernel
theorem dX7_findMostLeft_95 : decode cX7_findMostLeft 95 = .ok (.istore_n 2, 1) := by decide +kernel
theorem dX7_findMostLeft_96 : decode cX7_findMostLeft 96 = .ok (.iload 5, 2) := by decide +kernel
theorem dX7_findMostLeft_98 : decode cX7_findMostLeft 98 = .ok (.istore_n 3, 1) := by decide +kernel
theorem dX7_findMostLeft_99 : decode cX7_findMostLeft 99 = .ok (.aload_n 0, 1) := by decide +kernel
theorem dX7_findMostLeft_100 : decode cX7_findMostLeft 100 = .ok (.getfield 53, 3) := by decide +kernel
theorem dX7_findMostLeft_103 : decode cX7_findMostLeft 103 = .ok (.invokevirtual 333, 3) := by decide +kernel
theorem dX7_findMostLeft_106 : decode cX7_findMostLeft 106 = .ok (.aload_n 0, 1) := by decide +kernel
theorem dX7_findMostLeft_107 : decode cX7_findMostLeft 107 = .ok (.getfield 53, 3) := by decide +kernel
theorem dX7_findMostLeft_110 : decode cX7_findMostLeft 110 = .ok (.invokevirtual 240, 3) := by decide +kernel
theorem dX7_findMostLeft_113 : decode cX7_findMostLeft 113 = .ok (.ifCond .ne 6, 3) := by decide +kernel
theorem dX7_findMostLeft_116 : decode cX7_findMostLeft 116 = .ok (.goto 9, 3) := by decide +kernel
theorem dX7_findMostLeft_119 : decode cX7_findMostLeft 119 = .ok (.iinc 4 1, 3) := by decide +kernel
theorem dX7_findMostLeft_122 : decode cX7_findMostLeft 122 = .ok (.goto (-101), 3) := by decide +kernel
theorem dX7_findMostLeft_125 : decode cX7_findMostLeft 125 = .ok (.return_, 1) := by decide +kernel
theorem dX7_weightOfWinters_0 : decode cX7_weightOfWinters 0 = .ok (.aload_n 0, 1) := by decide +kernel
theorem dX7_weightOfWinters_1 : decode cX7_weightOfWinters 1 = .ok (.getfield 12, 3) := by decide +kernel
theorem dX7_weightOfWinters_4 : decode cX7_weightOfWinters 4 = .ok (.getfield 87, 3) := by decide +kernel
theorem dX7_weightOfWinters_7 : decode cX7_weightOfWinters 7 = .ok (.getfield 161, 3) := by decide +kernel
theorem dX7_weightOfWinters_10 : decode cX7_weightOfWinters 10 = .ok (.istore_n 3, 1) := by decide +kernel
theorem dX7_weightOfWinters_11 : decode cX7_weightOfWinters 11 = .ok (.iconst 0, 1) := by decide +kernel
theorem dX7_weightOfWinters_12 : decode cX7_weightOfWinters 12 = .ok (.istore 4, 2) := by decide +kernel
theorem dX7_weightOfWinters_14 : decode cX7_weightOfWinters 14 = .ok (.iconst 0, 1) := by decide +kernel
theorem dX7_weightOfWinters_15 : decode cX7_weightOfWinters 15 = .ok (.istore 5, 2) := by decide +kernel
theorem dX7_weightOfWinters_17 : decode cX7_weightOfWinters 17 = .ok (.iload 5, 2) := by decide +kernel
theorem dX7_weightOfWinters_19 : decode cX7_weightOfWinters 19 = .ok (.iconst 1, 1) := by decide +kernel
theorem dX7_weightOfWinters_20 : decode cX7_weightOfWinters 20 = .ok (.iload_n 3, 1) := by decide +kernel
theorem dX7_weightOfWinters_21 : decode cX7_weightOfWinters 21 = .ok (.ishl, 1) := by decide +kernel
theorem dX7_weightOfWinters_22 : decode cX7_weightOfWinters 22 = .ok (.if_icmp .ge 54, 3) := by decide +kernel
theorem dX7_weightOfWinters_25 : decode cX7_weightOfWinters 25 = .ok (.iload 5, 2) := by decide +kernel
theorem dX7_weightOfWinters_27 : decode cX7_weightOfWinters 27 = .ok (.invokestatic 227, 3) := by decide +kernel
theorem dX7_weightOfWinters_30 : decode cX7_weightOfWinters 30 = .ok (.istore 6, 2) := by decide +kernel
theorem dX7_weightOfWinters_32 : decode cX7_weightOfWinters 32 = .ok (.iload 6, 2) := by decide +kernel
theorem dX7_weightOfWinters_34 : decode cX7_weightOfWinters 34 = .ok (.iload_n 1, 1) := by decide +kernel
theorem dX7_weightOfWinters_35 : decode cX7_weightOfWinters 35 = .ok (.if_icmp .lt 35, 3) := by decide +kernel
theorem dX7_weightOfWinters_38 : decode cX7_weightOfWinters 38 = .ok (.aload_n 0, 1) := by decide +kernel
theorem dX7_weightOfWinters_39 : decode cX7_weightOfWinters 39 = .ok (.iload 5, 2) := by decide +kernel
theorem dX7_weightOfWinters_41 : decode cX7_weightOfWinters 41 = .ok (.invokevirtual 339, 3) := by decide +kernel
theorem dX7_weightOfWinters_44 : decode cX7_weightOfWinters 44 = .ok (.ifCond .eq 26, 3) := by decide +kernel
theorem dX7_weightOfWinters_47 : decode cX7_weightOfWinters 47 = .ok (.iload 4, 2) := by decide +kernel
theorem dX7_weightOfWinters_49 : decode cX7_weightOfWinters 49 = .ok (.bipush 10, 2) := by decide +kernel
theorem dX7_weightOfWinters_51 : decode cX7_weightOfWinters 51 = .ok (.iload_n 2, 1) := by decide +kernel
theorem dX7_weightOfWinters_52 : decode cX7_weightOfWinters 52 = .ok (.isub, 1) := by decide +kernel
theorem dX7_weightOfWinters_53 : decode cX7_weightOfWinters 53 = .ok (.iload 6, 2) := by decide +kernel
theorem dX7_weightOfWinters_55 : decode cX7_weightOfWinters 55 = .ok (.invokestatic 263, 3) := by decide +kernel
theorem dX7_weightOfWinters_58 : decode cX7_weightOfWinters 58 = .ok (.iload_n 2, 1) := by decide +kernel
theorem dX7_weightOfWinters_59 : decode cX7_weightOfWinters 59 = .ok (.iload_n 3, 1) := by decide +kernel
theorem dX7_weightOfWinters_60 : decode cX7_weightOfWinters 60 = .ok (.iload 6, 2) := by decide +kernel
theorem dX7_weightOfWinters_62 : decode cX7_weightOfWinters 62 = .ok (.isub, 1) := by decide +kernel
theorem dX7_weightOfWinters_63 : decode cX7_weightOfWinters 63 = .ok (.invokestatic 263, 3) := by decide +kernel
theorem dX7_weightOfWinters_66 : decode cX7_weightOfWinters 66 = .ok (.imul, 1) := by decide +kernel
theorem dX7_weightOfWinters_67 : decode cX7_weightOfWinters 67 = .ok (.iadd, 1) := by decide +kernel
theorem dX7_weightOfWinters_68 : decode cX7_weightOfWinters 68 = .ok (.istore 4, 2) := by decide +kernel
theorem dX7_weightOfWinters_70 : decode cX7_weightOfWinters 70 = .ok (.iinc 5 1, 3) := by decide +kernel
theorem dX7_weightOfWinters_73 : decode cX7_weightOfWinters 73 = .ok (.goto (-56), 3) := by decide +kernel
theorem dX7_weightOfWinters_76 : decode cX7_weightOfWinters 76 = .ok (.iload 4, 2) := by decide +kernel
theorem dX7_weightOfWinters_78 : decode cX7_weightOfWinters 78 = .ok (.ireturn, 1) := by decide +kernel
theorem dX7_areAllByTheirOwn_0 : decode cX7_areAllByTheirOwn 0 = .ok (.iconst (-1), 1) := by decide +kernel
theorem dX7_areAllByTheirOwn_1 : decode cX7_areAllByTheirOwn 1 = .ok (.istore_n 2, 1) := by decide +kernel
theorem dX7_areAllByTheirOwn_2 : decode cX7_areAllByTheirOwn 2 = .ok (.iconst 0, 1) := by decide +kernel
theorem dX7_areAllByTheirOwn_3 : decode cX7_areAllByTheirOwn 3 = .ok (.istore_n 3, 1) := by decide +kernel
theorem dX7_areAllByTheirOwn_4 : decode cX7_areAllByTheirOwn 4 = .ok (.iload_n 3, 1) := by decide +kernel
theorem dX7_areAllByTheirOwn_5 : decode cX7_areAllByTheirOwn 5 = .ok (.aload_n 0, 1) := by decide +kernel
theorem dX7_areAllByTheirOwn_6 : decode cX7_areAllByTheirOwn 6 = .ok (.getfield 12, 3) := by decide +kernel
theorem dX7_areAllByTheirOwn_9 : decode cX7_areAllByTheirOwn 9 = .ok (.getfield 87, 3) := by decide +kernel
theorem dX7_areAllByTheirOwn_12 : decode cX7_areAllByTheirOwn 12 = .ok (.getfield 161, 3) := by decide +kernel
theorem dX7_areAllByTheirOwn_15 : decode cX7_areAllByTheirOwn 15 = .ok (.if_icmp .ge 61, 3) := by decide +kernel
theorem dX7_areAllByTheirOwn_18 : decode cX7_areAllByTheirOwn 18 = .ok (.iload_n 1, 1) := by decide +kernel
theorem dX7_areAllByTheirOwn_19 : decode cX7_areAllByTheirOwn 19 = .ok (.iload_n 3, 1) := by decide +kernel
theorem dX7_areAllByTheirOwn_20 : decode cX7_areAllByTheirOwn 20 = .ok (.invokestatic 220, 3) := by decide +kernel
theorem dX7_areAllByTheirOwn_23 : decode cX7_areAllByTheirOwn 23 = .ok (.ifCond .eq 47, 3) := by decide +kernel
theorem dX7_areAllByTheirOwn_26 : decode cX7_areAllByTheirOwn 26 = .ok (.aload_n 0, 1) := by decide +kernel
theorem dX7_areAllByTheirOwn_27 : decode cX7_areAllByTheirOwn 27 = .ok (.getfield 12, 3) := by decide +kernel
theorem dX7_areAllByTheirOwn_30 : decode cX7_areAllByTheirOwn 30 = .ok (.getfield 87, 3) := by decide +kernel
theorem dX7_areAllByTheirOwn_33 : decode cX7_areAllByTheirOwn 33 = .ok (.getfield 173, 3) := by decide +kernel
theorem dX7_areAllByTheirOwn_36 : decode cX7_areAllByTheirOwn 36 = .ok (.iload_n 3, 1) := by decide +kernel
theorem dX7_areAllByTheirOwn_37 : decode cX7_areAllByTheirOwn 37 = .ok (.iaload, 1) := by decide +kernel
theorem dX7_areAllByTheirOwn_38 : decode cX7_areAllByTheirOwn 38 = .ok (.istore 4, 2) := by decide +kernel
theorem dX7_areAllByTheirOwn_40 : decode cX7_areAllByTheirOwn 40 = .ok (.iload_n 2, 1) := by decide +kernel
theorem dX7_areAllByTheirOwn_41 : decode cX7_areAllByTheirOwn 41 = .ok (.iconst (-1), 1) := by decide +kernel
theorem dX7_areAllByTheirOwn_42 : decode cX7_areAllByTheirOwn 42 = .ok (.if_icmp .eq 25, 3) := by decide +kernel
theorem dX7_areAllByTheirOwn_45 : decode cX7_areAllByTheirOwn 45 = .ok (.aload_n 0, 1) := by decide +kernel
theorem dX7_areAllByTheirOwn_46 : decode cX7_areAllByTheirOwn 46 = .ok (.getfield 12, 3) := by decide +kernel
theorem dX7_areAllByTheirOwn_49 : decode cX7_areAllByTheirOwn 49 = .ok (.getfield 66, 3) := by decide +kernel
theorem dX7_areAllByTheirOwn_52 : decode cX7_areAllByTheirOwn 52 = .ok (.getfield 127, 3) := by decide +kernel
theorem dX7_areAllByTheirOwn_55 : decode cX7_areAllByTheirOwn 55 = .ok (.iload_n 2, 1) := by decide +kernel
theorem dX7_areAllByTheirOwn_56 : decode cX7_areAllByTheirOwn 56 = .ok (.iaload, 1) := by decide +kernel
theorem dX7_areAllByTheirOwn_57 : decode cX7_areAllByTheirOwn 57 = .ok (.iload 4, 2) := by decide +kernel
theorem dX7_areAllByTheirOwn_59 : decode cX7_areAllByTheirOwn 59 = .ok (.invokestatic 220, 3) := by decide +kernel
theorem dX7_areAllByTheirOwn_62 : decode cX7_areAllByTheirOwn 62 = .ok (.ifCond .ne 5, 3) := by decide +kernel
theorem dX7_areAllByTheirOwn_65 : decode cX7_areAllByTheirOwn 65 = .ok (.iconst 0, 1) := by decide +kernel
theorem dX7_areAllByTheirOwn_66 : decode cX7_areAllByTheirOwn 66 = .ok (.ireturn, 1) := by decide +kernel
theorem dX7_areAllByTheirOwn_67 : decode cX7_areAllByTheirOwn 67 = .ok (.iload 4, 2) := by decide +kernel
theorem dX7_areAllByTheirOwn_69 : decode cX7_areAllByTheirOwn 69 = .ok (.istore_n 2, 1) := by decide +kernel
theorem dX7_areAllByTheirOwn_70 : decode cX7_areAllByTheirOwn 70 = .ok (.iinc 3 1, 3) := by decide +kernel
theorem dX7_areAllByTheirOwn_73 : decode cX7_areAllByTheirOwn 73 = .ok (.goto (-69), 3) := by decide +kernel
theorem dX7_areAllByTheirOwn_76 : decode cX7_areAllByTheirOwn 76 = .ok (.iconst 1, 1) := by decide +kernel
theorem dX7_areAllByTheirOwn_77 : decode cX7_areAllByTheirOwn 77 = .ok (.ireturn, 1) := by decide +kernel
theorem dX7_kindsThatFit_0 : decode cX7_kindsThatFit 0 = .ok (.iconst 0, 1) := by decide +kernel
theorem dX7_kindsThatFit_1 : decode cX7_kindsThatFit 1 = .ok (.istore 5, 2) := by decide +kernel
theorem dX7_kindsThatFit_3 : decode cX7_kindsThatFit 3 = .ok (.iconst 0, 1) := by decide +kernel
theorem dX7_kindsThatFit_4 : decode cX7_kindsThatFit 4 = .ok (.istore 6, 2) := by decide +kernel
theorem dX7_kindsThatFit_6 : decode cX7_kindsThatFit 6 = .ok (.iload 6, 2) := by decide +kernel
theorem dX7_kindsThatFit_8 : decode cX7_kindsThatFit 8 = .ok (.iconst 5, 1) := by decide +kernel
theorem dX7_kindsThatFit_9 : decode cX7_kindsThatFit 9 = .ok (.if_icmp .ge 69, 3) := by decide +kernel
theorem dX7_kindsThatFit_12 : decode cX7_kindsThatFit 12 = .ok (.aload_n 0, 1) := by decide +kernel
theorem dX7_kindsThatFit_13 : decode cX7_kindsThatFit 13 = .ok (.getfield 46, 3) := by decide +kernel
theorem dX7_kindsThatFit_16 : decode cX7_kindsThatFit 16 = .ok (.aload_n 0, 1) := by decide +kernel
theorem dX7_kindsThatFit_17 : decode cX7_kindsThatFit 17 = .ok (.getfield 12, 3) := by decide +kernel
theorem dX7_kindsThatFit_20 : decode cX7_kindsThatFit 20 = .ok (.getfield 66, 3) := by decide +kernel
theorem dX7_kindsThatFit_23 : decode cX7_kindsThatFit 23 = .ok (.invokevirtual 152, 3) := by decide +kernel
theorem dX7_kindsThatFit_26 : decode cX7_kindsThatFit 26 = .ok (.aload_n 0, 1) := by decide +kernel
theorem dX7_kindsThatFit_27 : decode cX7_kindsThatFit 27 = .ok (.getfield 46, 3) := by decide +kernel
theorem dX7_kindsThatFit_30 : decode cX7_kindsThatFit 30 = .ok (.getfield 117, 3) := by decide +kernel
theorem dX7_kindsThatFit_33 : decode cX7_kindsThatFit 33 = .ok (.iload_n 1, 1) := by decide +kernel
theorem dX7_kindsThatFit_34 : decode cX7_kindsThatFit 34 = .ok (.iload 6, 2) := by decide +kernel
theorem dX7_kindsThatFit_36 : decode cX7_kindsThatFit 36 = .ok (.iastore, 1) := by decide +kernel
theorem dX7_kindsThatFit_37 : decode cX7_kindsThatFit 37 = .ok (.aload_n 0, 1) := by decide +kernel
theorem dX7_kindsThatFit_38 : decode cX7_kindsThatFit 38 = .ok (.getfield 39, 3) := by decide +kernel
theorem dX7_kindsThatFit_41 : decode cX7_kindsThatFit 41 = .ok (.aload_n 0, 1) := by decide +kernel
theorem dX7_kindsThatFit_42 : decode cX7_kindsThatFit 42 = .ok (.getfield 12, 3) := by decide +kernel
theorem dX7_kindsThatFit_45 : decode cX7_kindsThatFit 45 = .ok (.getfield 87, 3) := by decide +kernel
theorem dX7_kindsThatFit_48 : decode cX7_kindsThatFit 48 = .ok (.invokevirtual 218, 3) := by decide +kernel
theorem dX7_kindsThatFit_51 : decode cX7_kindsThatFit 51 = .ok (.aload_n 0, 1) := by decide +kernel
theorem dX7_kindsThatFit_52 : decode cX7_kindsThatFit 52 = .ok (.iload_n 1, 1) := by decide +kernel
theorem dX7_kindsThatFit_53 : decode cX7_kindsThatFit 53 = .ok (.aload_n 2, 1) := by decide +kernel
theorem dX7_kindsThatFit_54 : decode cX7_kindsThatFit 54 = .ok (.iload_n 3, 1) := by decide +kernel
theorem dX7_kindsThatFit_55 : decode cX7_kindsThatFit 55 = .ok (.iload 4, 2) := by decide +kernel
theorem dX7_kindsThatFit_57 : decode cX7_kindsThatFit 57 = .ok (.invokevirtual 342, 3) := by decide +kernel
theorem dX7_kindsThatFit_60 : decode cX7_kindsThatFit 60 = .ok (.ifCond .eq 12, 3) := by decide +kernel
theorem dX7_kindsThatFit_63 : decode cX7_kindsThatFit 63 = .ok (.iload 5, 2) := by decide +kernel
theorem dX7_kindsThatFit_65 : decode cX7_kindsThatFit 65 = .ok (.iconst 1, 1) := by decide +kernel
theorem dX7_kindsThatFit_66 : decode cX7_kindsThatFit 66 = .ok (.iload 6, 2) := by decide +kernel
theorem dX7_kindsThatFit_68 : decode cX7_kindsThatFit 68 = .ok (.ishl, 1) := by decide +kernel
theorem dX7_kindsThatFit_69 : decode cX7_kindsThatFit 69 = .ok (.ior, 1) := by decide +kernel
theorem dX7_kindsThatFit_70 : decode cX7_kindsThatFit 70 = .ok (.istore 5, 2) := by decide +kernel
theorem dX7_kindsThatFit_72 : decode cX7_kindsThatFit 72 = .ok (.iinc 6 1, 3) := by decide +kernel
theorem dX7_kindsThatFit_75 : decode cX7_kindsThatFit 75 = .ok (.goto (-69), 3) := by decide +kernel
theorem dX7_kindsThatFit_78 : decode cX7_kindsThatFit 78 = .ok (.iload 5, 2) := by decide +kernel
theorem dX7_kindsThatFit_80 : decode cX7_kindsThatFit 80 = .ok (.ireturn, 1) := by decide +kernel
theorem dX7_howManyLivesFit_0 : decode cX7_howManyLivesFit 0 = .ok (.iconst 0, 1) := by decide +kernel
theorem dX7_howManyLivesFit_1 : decode cX7_howManyLivesFit 1 = .ok (.istore 5, 2) := by decide +kernel
theorem dX7_howManyLivesFit_3 : decode cX7_howManyLivesFit 3 = .ok (.iconst 1, 1) := by decide +kernel
theorem dX7_howManyLivesFit_4 : decode cX7_howManyLivesFit 4 = .ok (.istore 6, 2) := by decide +kernel
theorem dX7_howManyLivesFit_6 : decode cX7_howManyLivesFit 6 = .ok (.iload 6, 2) := by decide +kernel
theorem dX7_howManyLivesFit_8 : decode cX7_howManyLivesFit 8 = .ok (.bipush 60, 2) := by decide +kernel
theorem dX7_howManyLivesFit_10 : decode cX7_howManyLivesFit 10 = .ok (.if_icmp .gt 26, 3) := by decide +kernel
theorem dX7_howManyLivesFit_13 : decode cX7_howManyLivesFit 13 = .ok (.aload_n 0, 1) := by decide +kernel
theorem dX7_howManyLivesFit_14 : decode cX7_howManyLivesFit 14 = .ok (.iload_n 1, 1) := by decide +kernel
theorem dX7_howManyLivesFit_15 : decode cX7_howManyLivesFit 15 = .ok (.iload 6, 2) := by decide +kernel
theorem dX7_howManyLivesFit_17 : decode cX7_howManyLivesFit 17 = .ok (.aload_n 2, 1) := by decide +kernel
theorem dX7_howManyLivesFit_18 : decode cX7_howManyLivesFit 18 = .ok (.iload_n 3, 1) := by decide +kernel
theorem dX7_howManyLivesFit_19 : decode cX7_howManyLivesFit 19 = .ok (.iload 4, 2) := by decide +kernel
theorem dX7_howManyLivesFit_21 : decode cX7_howManyLivesFit 21 = .ok (.invokevirtual 346, 3) := by decide +kernel
theorem dX7_howManyLivesFit_24 : decode cX7_howManyLivesFit 24 = .ok (.ifCond .eq 6, 3) := by decide +kernel
theorem dX7_howManyLivesFit_27 : decode cX7_howManyLivesFit 27 = .ok (.iinc 5 1, 3) := by decide +kernel
theorem dX7_howManyLivesFit_30 : decode cX7_howManyLivesFit 30 = .ok (.iinc 6 1, 3) := by decide +kernel
theorem dX7_howManyLivesFit_33 : decode cX7_howManyLivesFit 33 = .ok (.goto (-27), 3) := by decide +kernel
theorem dX7_howManyLivesFit_36 : decode cX7_howManyLivesFit 36 = .ok (.iload 5, 2) := by decide +kernel
theorem dX7_howManyLivesFit_38 : decode cX7_howManyLivesFit 38 = .ok (.ireturn, 1) := by decide +kernel
theorem dX7_leastLifeThatFits_0 : decode cX7_leastLifeThatFits 0 = .ok (.iconst 1, 1) := by decide +kernel
theorem dX7_leastLifeThatFits_1 : decode cX7_leastLifeThatFits 1 = .ok (.istore 5, 2) := by decide +kernel
theorem dX7_leastLifeThatFits_3 : decode cX7_leastLifeThatFits 3 = .ok (.iload 5, 2) := by decide +kernel
theorem dX7_leastLifeThatFits_5 : decode cX7_leastLifeThatFits 5 = .ok (.bipush 60, 2) := by decide +kernel
theorem dX7_leastLifeThatFits_7 : decode cX7_leastLifeThatFits 7 = .ok (.if_icmp .gt 26, 3) := by decide +kernel
theorem dX7_leastLifeThatFits_10 : decode cX7_leastLifeThatFits 10 = .ok (.aload_n 0, 1) := by decide +kernel
theorem dX7_leastLifeThatFits_11 : decode cX7_leastLifeThatFits 11 = .ok (.iload_n 1, 1) := by decide +kernel
theorem dX7_leastLifeThatFits_12 : decode cX7_leastLifeThatFits 12 = .ok (.iload 5, 2) := by decide +kernel
theorem dX7_leastLifeThatFits_14 : decode cX7_leastLifeThatFits 14 = .ok (.aload_n 2, 1) := by decide +kernel
theorem dX7_leastLifeThatFits_15 : decode cX7_leastLifeThatFits 15 = .ok (.iload_n 3, 1) := by decide +kernel
theorem dX7_leastLifeThatFits_16 : decode cX7_leastLifeThatFits 16 = .ok (.iload 4, 2) := by decide +kernel
theorem dX7_leastLifeThatFits_18 : decode cX7_leastLifeThatFits 18 = .ok (.invokevirtual 346, 3) := by decide +kernel
theorem dX7_leastLifeThatFits_21 : decode cX7_leastLifeThatFits 21 = .ok (.ifCond .eq 6, 3) := by decide +kernel
theorem dX7_leastLifeThatFits_24 : decode cX7_leastLifeThatFits 24 = .ok (.iload 5, 2) := by decide +kernel
theorem dX7_leastLifeThatFits_26 : decode cX7_leastLifeThatFits 26 = .ok (.ireturn, 1) := by decide +kernel
theorem dX7_leastLifeThatFits_27 : decode cX7_leastLifeThatFits 27 = .ok (.iinc 5 1, 3) := by decide +kernel
theorem dX7_leastLifeThatFits_30 : decode cX7_leastLifeThatFits 30 = .ok (.goto (-27), 3) := by decide +kernel
theorem dX7_leastLifeThatFits_33 : decode cX7_leastLifeThatFits 33 = .ok (.bipush (-4), 2) := by decide +kernel
theorem dX7_leastLifeThatFits_35 : decode cX7_leastLifeThatFits 35 = .ok (.ireturn, 1) := by decide +kernel
theorem dX7_doesLifeFit_0 : decode cX7_doesLifeFit 0 = .ok (.aload_n 0, 1) := by decide +kernel
theorem dX7_doesLifeFit_1 : decode cX7_doesLifeFit 1 = .ok (.getfield 46, 3) := by decide +kernel
theorem dX7_doesLifeFit_4 : decode cX7_doesLifeFit 4 = .ok (.aload_n 0, 1) := by decide +kernel
theorem dX7_doesLifeFit_5 : decode cX7_doesLifeFit 5 = .ok (.getfield 12, 3) := by decide +kernel
theorem dX7_doesLifeFit_8 : decode cX7_doesLifeFit 8 = .ok (.getfield 66, 3) := by decide +kernel
theorem dX7_doesLifeFit_11 : decode cX7_doesLifeFit 11 = .ok (.invokevirtual 152, 3) := by decide +kernel
theorem dX7_doesLifeFit_14 : decode cX7_doesLifeFit 14 = .ok (.aload_n 0, 1) := by decide +kernel
theorem dX7_doesLifeFit_15 : decode cX7_doesLifeFit 15 = .ok (.getfield 39, 3) := by decide +kernel
theorem dX7_doesLifeFit_18 : decode cX7_doesLifeFit 18 = .ok (.aload_n 0, 1) := by decide +kernel
theorem dX7_doesLifeFit_19 : decode cX7_doesLifeFit 19 = .ok (.getfield 12, 3) := by decide +kernel
theorem dX7_doesLifeFit_22 : decode cX7_doesLifeFit 22 = .ok (.getfield 87, 3) := by decide +kernel
theorem dX7_doesLifeFit_25 : decode cX7_doesLifeFit 25 = .ok (.invokevirtual 218, 3) := by decide +kernel
theorem dX7_doesLifeFit_28 : decode cX7_doesLifeFit 28 = .ok (.aload_n 0, 1) := by decide +kernel
theorem dX7_doesLifeFit_29 : decode cX7_doesLifeFit 29 = .ok (.getfield 39, 3) := by decide +kernel
theorem dX7_doesLifeFit_32 : decode cX7_doesLifeFit 32 = .ok (.getfield 120, 3) := by decide +kernel
theorem dX7_doesLifeFit_35 : decode cX7_doesLifeFit 35 = .ok (.iload_n 1, 1) := by decide +kernel
theorem dX7_doesLifeFit_36 : decode cX7_doesLifeFit 36 = .ok (.iload_n 2, 1) := by decide +kernel
theorem dX7_doesLifeFit_37 : decode cX7_doesLifeFit 37 = .ok (.iastore, 1) := by decide +kernel
theorem dX7_doesLifeFit_38 : decode cX7_doesLifeFit 38 = .ok (.aload_n 0, 1) := by decide +kernel
theorem dX7_doesLifeFit_39 : decode cX7_doesLifeFit 39 = .ok (.iload_n 1, 1) := by decide +kernel
theorem dX7_doesLifeFit_40 : decode cX7_doesLifeFit 40 = .ok (.aload_n 3, 1) := by decide +kernel
theorem dX7_doesLifeFit_41 : decode cX7_doesLifeFit 41 = .ok (.iload 4, 2) := by decide +kernel
theorem dX7_doesLifeFit_43 : decode cX7_doesLifeFit 43 = .ok (.iload 5, 2) := by decide +kernel
theorem dX7_doesLifeFit_45 : decode cX7_doesLifeFit 45 = .ok (.invokevirtual 342, 3) := by decide +kernel
theorem dX7_doesLifeFit_48 : decode cX7_doesLifeFit 48 = .ok (.ireturn, 1) := by decide +kernel
theorem dX7_doesFail_0 : decode cX7_doesFail 0 = .ok (.iconst 0, 1) := by decide +kernel
theorem dX7_doesFail_1 : decode cX7_doesFail 1 = .ok (.istore 5, 2) := by decide +kernel
theorem dX7_doesFail_3 : decode cX7_doesFail 3 = .ok (.iload 5, 2) := by decide +kernel
theorem dX7_doesFail_5 : decode cX7_doesFail 5 = .ok (.iload 4, 2) := by decide +kernel
theorem dX7_doesFail_7 : decode cX7_doesFail 7 = .ok (.if_icmp .ge 45, 3) := by decide +kernel
theorem dX7_doesFail_10 : decode cX7_doesFail 10 = .ok (.aload_n 0, 1) := by decide +kernel
theorem dX7_doesFail_11 : decode cX7_doesFail 11 = .ok (.getfield 39, 3) := by decide +kernel
theorem dX7_doesFail_14 : decode cX7_doesFail 14 = .ok (.aload_n 0, 1) := by decide +kernel
theorem dX7_doesFail_15 : decode cX7_doesFail 15 = .ok (.getfield 46, 3) := by decide +kernel
theorem dX7_doesFail_18 : decode cX7_doesFail 18 = .ok (.invokevirtual 212, 3) := by decide +kernel
theorem dX7_doesFail_21 : decode cX7_doesFail 21 = .ok (.aload_n 2, 1) := by decide +kernel
theorem dX7_doesFail_22 : decode cX7_doesFail 22 = .ok (.getfield 309, 3) := by decide +kernel
theorem dX7_doesFail_25 : decode cX7_doesFail 25 = .ok (.iload_n 3, 1) := by decide +kernel
theorem dX7_doesFail_26 : decode cX7_doesFail 26 = .ok (.iload 5, 2) := by decide +kernel
theorem dX7_doesFail_28 : decode cX7_doesFail 28 = .ok (.iadd, 1) := by decide +kernel
theorem dX7_doesFail_29 : decode cX7_doesFail 29 = .ok (.laload, 1) := by decide +kernel
theorem dX7_doesFail_30 : decode cX7_doesFail 30 = .ok (.aload_n 0, 1) := by decide +kernel
theorem dX7_doesFail_31 : decode cX7_doesFail 31 = .ok (.getfield 39, 3) := by decide +kernel
theorem dX7_doesFail_34 : decode cX7_doesFail 34 = .ok (.getfield 120, 3) := by decide +kernel
theorem dX7_doesFail_37 : decode cX7_doesFail 37 = .ok (.iload_n 1, 1) := by decide +kernel
theorem dX7_doesFail_38 : decode cX7_doesFail 38 = .ok (.iaload, 1) := by decide +kernel
theorem dX7_doesFail_39 : decode cX7_doesFail 39 = .ok (.i2l, 1) := by decide +kernel
theorem dX7_doesFail_40 : decode cX7_doesFail 40 = .ok (.lcmp, 1) := by decide +kernel
theorem dX7_doesFail_41 : decode cX7_doesFail 41 = .ok (.ifCond .eq 5, 3) := by decide +kernel
theorem dX7_doesFail_44 : decode cX7_doesFail 44 = .ok (.iconst 0, 1) := by decide +kernel
theorem dX7_doesFail_45 : decode cX7_doesFail 45 = .ok (.ireturn, 1) := by decide +kernel
theorem dX7_doesFail_46 : decode cX7_doesFail 46 = .ok (.iinc 5 1, 3) := by decide +kernel
theorem dX7_doesFail_49 : decode cX7_doesFail 49 = .ok (.goto (-46), 3) := by decide +kernel
theorem dX7_doesFail_52 : decode cX7_doesFail 52 = .ok (.iconst 1, 1) := by decide +kernel
theorem dX7_doesFail_53 : decode cX7_doesFail 53 = .ok (.ireturn, 1) := by decide +kernel
theorem dX7_within_0 : decode cX7_within 0 = .ok (.iload_n 0, 1) := by decide +kernel
theorem dX7_within_1 : decode cX7_within 1 = .ok (.iload_n 1, 1) := by decide +kernel
theorem dX7_within_2 : decode cX7_within 2 = .ok (.if_icmp .lt 12, 3) := by decide +kernel
theorem dX7_within_5 : decode cX7_within 5 = .ok (.iload_n 0, 1) := by decide +kernel
theorem dX7_within_6 : decode cX7_within 6 = .ok (.iload_n 2, 1) := by decide +kernel
theorem dX7_within_7 : decode cX7_within 7 = .ok (.if_icmp .gt 7, 3) := by decide +kernel
theorem dX7_within_10 : decode cX7_within 10 = .ok (.iconst 1, 1) := by decide +kernel
theorem dX7_within_11 : decode cX7_within 11 = .ok (.goto 4, 3) := by decide +kernel
theorem dX7_within_14 : decode cX7_within 14 = .ok (.iconst 0, 1) := by decide +kernel
theorem dX7_within_15 : decode cX7_within 15 = .ok (.ireturn, 1) := by decide +kernel
theorem dX7_isHour_0 : decode cX7_isHour 0 = .ok (.iload_n 0, 1) := by decide +kernel
theorem dX7_isHour_1 : decode cX7_isHour 1 = .ok (.iconst 0, 1) := by decide +kernel
theorem dX7_isHour_2 : decode cX7_isHour 2 = .ok (.iconst 2, 1) := by decide +kernel
theorem dX7_isHour_3 : decode cX7_isHour 3 = .ok (.invokestatic 62, 3) := by decide +kernel
theorem dX7_isHour_6 : decode cX7_isHour 6 = .ok (.ireturn, 1) := by decide +kernel
theorem dX7_isSheet_0 : decode cX7_isSheet 0 = .ok (.iload_n 0, 1) := by decide +kernel
theorem dX7_isSheet_1 : decode cX7_isSheet 1 = .ok (.iconst 0, 1) := by decide +kernel
theorem dX7_isSheet_2 : decode cX7_isSheet 2 = .ok (.iconst 3, 1) := by decide +kernel
theorem dX7_isSheet_3 : decode cX7_isSheet 3 = .ok (.invokestatic 62, 3) := by decide +kernel
theorem dX7_isSheet_6 : decode cX7_isSheet 6 = .ok (.ireturn, 1) := by decide +kernel
theorem dX7_isLane_0 : decode cX7_isLane 0 = .ok (.iload_n 0, 1) := by decide +kernel
theorem dX7_isLane_1 : decode cX7_isLane 1 = .ok (.iconst 0, 1) := by decide +kernel
theorem dX7_isLane_2 : decode cX7_isLane 2 = .ok (.iconst 3, 1) := by decide +kernel
theorem dX7_isLane_3 : decode cX7_isLane 3 = .ok (.invokestatic 62, 3) := by decide +kernel
theorem dX7_isLane_6 : decode cX7_isLane 6 = .ok (.ireturn, 1) := by decide +kernel
theorem dX7_holds_0 : decode cX7_holds 0 = .ok (.iload_n 0, 1) := by decide +kernel
theorem dX7_holds_1 : decode cX7_holds 1 = .ok (.iload_n 1, 1) := by decide +kernel
theorem dX7_holds_2 : decode cX7_holds 2 = .ok (.ishr, 1) := by decide +kernel
theorem dX7_holds_3 : decode cX7_holds 3 = .ok (.iconst 1, 1) := by decide +kernel
theorem dX7_holds_4 : decode cX7_holds 4 = .ok (.iand, 1) := by decide +kernel
theorem dX7_holds_5 : decode cX7_holds 5 = .ok (.iconst 1, 1) := by decide +kernel
theorem dX7_holds_6 : decode cX7_holds 6 = .ok (.if_icmp .ne 7, 3) := by decide +kernel
theorem dX7_holds_9 : decode cX7_holds 9 = .ok (.iconst 1, 1) := by decide +kernel
theorem dX7_holds_10 : decode cX7_holds 10 = .ok (.goto 4, 3) := by decide +kernel
theorem dX7_holds_13 : decode cX7_holds 13 = .ok (.iconst 0, 1) := by decide +kernel
theorem dX7_holds_14 : decode cX7_holds 14 = .ok (.ireturn, 1) := by decide +kernel
theorem dX7_power_0 : decode cX7_power 0 = .ok (.iconst 1, 1) := by decide +kernel
theorem dX7_power_1 : decode cX7_power 1 = .ok (.istore_n 2, 1) := by decide +kernel
theorem dX7_power_2 : decode cX7_power 2 = .ok (.iconst 0, 1) := by decide +kernel
theorem dX7_power_3 : decode cX7_power 3 = .ok (.istore_n 3, 1) := by decide +kernel
theorem dX7_power_4 : decode cX7_power 4 = .ok (.iload_n 3, 1) := by decide +kernel
theorem dX7_power_5 : decode cX7_power 5 = .ok (.iload_n 1, 1) := by decide +kernel
theorem dX7_power_6 : decode cX7_power 6 = .ok (.if_icmp .ge 13, 3) := by decide +kernel
theorem dX7_power_9 : decode cX7_power 9 = .ok (.iload_n 2, 1) := by decide +kernel
theorem dX7_power_10 : decode cX7_power 10 = .ok (.iload_n 0, 1) := by decide +kernel
theorem dX7_power_11 : decode cX7_power 11 = .ok (.imul, 1) := by decide +kernel
theorem dX7_power_12 : decode cX7_power 12 = .ok (.istore_n 2, 1) := by decide +kernel
theorem dX7_power_13 : decode cX7_power 13 = .ok (.iinc 3 1, 3) := by decide +kernel
theorem dX7_power_16 : decode cX7_power 16 = .ok (.goto (-12), 3) := by decide +kernel
theorem dX7_power_19 : decode cX7_power 19 = .ok (.iload_n 2, 1) := by decide +kernel
theorem dX7_power_20 : decode cX7_power 20 = .ok (.ireturn, 1) := by decide +kernel
theorem dX7_commonDivisor_0 : decode cX7_commonDivisor 0 = .ok (.iload_n 0, 1) := by decide +kernel
theorem dX7_commonDivisor_1 : decode cX7_commonDivisor 1 = .ok (.istore_n 2, 1) := by decide +kernel
theorem dX7_commonDivisor_2 : decode cX7_commonDivisor 2 = .ok (.iload_n 1, 1) := by decide +kernel
theorem dX7_commonDivisor_3 : decode cX7_commonDivisor 3 = .ok (.istore_n 3, 1) := by decide +kernel
theorem dX7_commonDivisor_4 : decode cX7_commonDivisor 4 = .ok (.iconst 0, 1) := by decide +kernel
theorem dX7_commonDivisor_5 : decode cX7_commonDivisor 5 = .ok (.istore 4, 2) := by decide +kernel
theorem dX7_commonDivisor_7 : decode cX7_commonDivisor 7 = .ok (.iload 4, 2) := by decide +kernel
theorem dX7_commonDivisor_9 : decode cX7_commonDivisor 9 = .ok (.bipush 100, 2) := by decide +kernel
theorem dX7_commonDivisor_11 : decode cX7_commonDivisor 11 = .ok (.if_icmp .ge 23, 3) := by decide +kernel
theorem dX7_commonDivisor_14 : decode cX7_commonDivisor 14 = .ok (.iload_n 3, 1) := by decide +kernel
theorem dX7_commonDivisor_15 : decode cX7_commonDivisor 15 = .ok (.ifCond .eq 19, 3) := by decide +kernel
theorem dX7_commonDivisor_18 : decode cX7_commonDivisor 18 = .ok (.iload_n 2, 1) := by decide +kernel
theorem dX7_commonDivisor_19 : decode cX7_commonDivisor 19 = .ok (.iload_n 3, 1) := by decide +kernel
theorem dX7_commonDivisor_20 : decode cX7_commonDivisor 20 = .ok (.irem, 1) := by decide +kernel
theorem dX7_commonDivisor_21 : decode cX7_commonDivisor 21 = .ok (.istore 5, 2) := by decide +kernel
theorem dX7_commonDivisor_23 : decode cX7_commonDivisor 23 = .ok (.iload_n 3, 1) := by decide +kernel
theorem dX7_commonDivisor_24 : decode cX7_commonDivisor 24 = .ok (.istore_n 2, 1) := by decide +kernel
theorem dX7_commonDivisor_25 : decode cX7_commonDivisor 25 = .ok (.iload 5, 2) := by decide +kernel
theorem dX7_commonDivisor_27 : decode cX7_commonDivisor 27 = .ok (.istore_n 3, 1) := by decide +kernel
theorem dX7_commonDivisor_28 : decode cX7_commonDivisor 28 = .ok (.iinc 4 1, 3) := by decide +kernel
theorem dX7_commonDivisor_31 : decode cX7_commonDivisor 31 = .ok (.goto (-24), 3) := by decide +kernel
theorem dX7_commonDivisor_34 : decode cX7_commonDivisor 34 = .ok (.iload_n 2, 1) := by decide +kernel
theorem dX7_commonDivisor_35 : decode cX7_commonDivisor 35 = .ok (.ireturn, 1) := by decide +kernel
