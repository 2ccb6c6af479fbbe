theorem dX0_init_0 : decode cX0_init 0 = .ok (.aload_n 0, 1) := by decide +kernel
theorem dX0_init_1 : decode cX0_init 1 = .ok (.invokespecial 3, 3) := by decide +kernel
theorem dX0_init_4 : decode cX0_init 4 = .ok (.aload_n 0, 1) := by decide +kernel
theorem dX0_init_5 : decode cX0_init 5 = .ok (.bipush 6, 2) := by decide +kernel
theorem dX0_init_7 : decode cX0_init 7 = .ok (.newarray .int, 2) := by decide +kernel
theorem dX0_init_9 : decode cX0_init 9 = .ok (.putfield 9, 3) := by decide +kernel
theorem dX0_init_12 : decode cX0_init 12 = .ok (.aload_n 0, 1) := by decide +kernel
theorem dX0_init_13 : decode cX0_init 13 = .ok (.bipush 6, 2) := by decide +kernel
theorem dX0_init_15 : decode cX0_init 15 = .ok (.newarray .int, 2) := by decide +kernel
theorem dX0_init_17 : decode cX0_init 17 = .ok (.putfield 15, 3) := by decide +kernel
theorem dX0_init_20 : decode cX0_init 20 = .ok (.aload_n 0, 1) := by decide +kernel
theorem dX0_init_21 : decode cX0_init 21 = .ok (.iconst 0, 1) := by decide +kernel
theorem dX0_init_22 : decode cX0_init 22 = .ok (.putfield 18, 3) := by decide +kernel
theorem dX0_init_25 : decode cX0_init 25 = .ok (.aload_n 0, 1) := by decide +kernel
theorem dX0_init_26 : decode cX0_init 26 = .ok (.iconst 0, 1) := by decide +kernel
theorem dX0_init_27 : decode cX0_init 27 = .ok (.putfield 22, 3) := by decide +kernel
theorem dX0_init_30 : decode cX0_init 30 = .ok (.aload_n 0, 1) := by decide +kernel
theorem dX0_init_31 : decode cX0_init 31 = .ok (.iconst 1, 1) := by decide +kernel
theorem dX0_init_32 : decode cX0_init 32 = .ok (.putfield 25, 3) := by decide +kernel
theorem dX0_init_35 : decode cX0_init 35 = .ok (.return_, 1) := by decide +kernel
theorem dX0_takeFrom_0 : decode cX0_takeFrom 0 = .ok (.iconst 0, 1) := by decide +kernel
theorem dX0_takeFrom_1 : decode cX0_takeFrom 1 = .ok (.istore_n 2, 1) := by decide +kernel
theorem dX0_takeFrom_2 : decode cX0_takeFrom 2 = .ok (.iload_n 2, 1) := by decide +kernel
theorem dX0_takeFrom_3 : decode cX0_takeFrom 3 = .ok (.bipush 6, 2) := by decide +kernel
theorem dX0_takeFrom_5 : decode cX0_takeFrom 5 = .ok (.if_icmp .ge 33, 3) := by decide +kernel
theorem dX0_takeFrom_8 : decode cX0_takeFrom 8 = .ok (.aload_n 0, 1) := by decide +kernel
theorem dX0_takeFrom_9 : decode cX0_takeFrom 9 = .ok (.getfield 9, 3) := by decide +kernel
theorem dX0_takeFrom_12 : decode cX0_takeFrom 12 = .ok (.iload_n 2, 1) := by decide +kernel
theorem dX0_takeFrom_13 : decode cX0_takeFrom 13 = .ok (.aload_n 1, 1) := by decide +kernel
theorem dX0_takeFrom_14 : decode cX0_takeFrom 14 = .ok (.getfield 9, 3) := by decide +kernel
theorem dX0_takeFrom_17 : decode cX0_takeFrom 17 = .ok (.iload_n 2, 1) := by decide +kernel
theorem dX0_takeFrom_18 : decode cX0_takeFrom 18 = .ok (.iaload, 1) := by decide +kernel
theorem dX0_takeFrom_19 : decode cX0_takeFrom 19 = .ok (.iastore, 1) := by decide +kernel
theorem dX0_takeFrom_20 : decode cX0_takeFrom 20 = .ok (.aload_n 0, 1) := by decide +kernel
theorem dX0_takeFrom_21 : decode cX0_takeFrom 21 = .ok (.getfield 15, 3) := by decide +kernel
theorem dX0_takeFrom_24 : decode cX0_takeFrom 24 = .ok (.iload_n 2, 1) := by decide +kernel
theorem dX0_takeFrom_25 : decode cX0_takeFrom 25 = .ok (.aload_n 1, 1) := by decide +kernel
theorem dX0_takeFrom_26 : decode cX0_takeFrom 26 = .ok (.getfield 15, 3) := by decide +kernel
theorem dX0_takeFrom_29 : decode cX0_takeFrom 29 = .ok (.iload_n 2, 1) := by decide +kernel
theorem dX0_takeFrom_30 : decode cX0_takeFrom 30 = .ok (.iaload, 1) := by decide +kernel
theorem dX0_takeFrom_31 : decode cX0_takeFrom 31 = .ok (.iastore, 1) := by decide +kernel
theorem dX0_takeFrom_32 : decode cX0_takeFrom 32 = .ok (.iinc 2 1, 3) := by decide +kernel
theorem dX0_takeFrom_35 : decode cX0_takeFrom 35 = .ok (.goto (-33), 3) := by decide +kernel
theorem dX0_takeFrom_38 : decode cX0_takeFrom 38 = .ok (.aload_n 0, 1) := by decide +kernel
theorem dX0_takeFrom_39 : decode cX0_takeFrom 39 = .ok (.aload_n 1, 1) := by decide +kernel
theorem dX0_takeFrom_40 : decode cX0_takeFrom 40 = .ok (.getfield 18, 3) := by decide +kernel
theorem dX0_takeFrom_43 : decode cX0_takeFrom 43 = .ok (.putfield 18, 3) := by decide +kernel
theorem dX0_takeFrom_46 : decode cX0_takeFrom 46 = .ok (.aload_n 0, 1) := by decide +kernel
theorem dX0_takeFrom_47 : decode cX0_takeFrom 47 = .ok (.aload_n 1, 1) := by decide +kernel
theorem dX0_takeFrom_48 : decode cX0_takeFrom 48 = .ok (.getfield 22, 3) := by decide +kernel
theorem dX0_takeFrom_51 : decode cX0_takeFrom 51 = .ok (.putfield 22, 3) := by decide +kernel
theorem dX0_takeFrom_54 : decode cX0_takeFrom 54 = .ok (.aload_n 0, 1) := by decide +kernel
theorem dX0_takeFrom_55 : decode cX0_takeFrom 55 = .ok (.aload_n 1, 1) := by decide +kernel
theorem dX0_takeFrom_56 : decode cX0_takeFrom 56 = .ok (.getfield 25, 3) := by decide +kernel
theorem dX0_takeFrom_59 : decode cX0_takeFrom 59 = .ok (.putfield 25, 3) := by decide +kernel
theorem dX0_takeFrom_62 : decode cX0_takeFrom 62 = .ok (.return_, 1) := by decide +kernel
theorem dX0_seatLast_0 : decode cX0_seatLast 0 = .ok (.aload_n 0, 1) := by decide +kernel
theorem dX0_seatLast_1 : decode cX0_seatLast 1 = .ok (.getfield 18, 3) := by decide +kernel
theorem dX0_seatLast_4 : decode cX0_seatLast 4 = .ok (.bipush 6, 2) := by decide +kernel
theorem dX0_seatLast_6 : decode cX0_seatLast 6 = .ok (.if_icmp .ge 30, 3) := by decide +kernel
theorem dX0_seatLast_9 : decode cX0_seatLast 9 = .ok (.aload_n 0, 1) := by decide +kernel
theorem dX0_seatLast_10 : decode cX0_seatLast 10 = .ok (.getfield 9, 3) := by decide +kernel
theorem dX0_seatLast_13 : decode cX0_seatLast 13 = .ok (.iload_n 1, 1) := by decide +kernel
theorem dX0_seatLast_14 : decode cX0_seatLast 14 = .ok (.iload_n 2, 1) := by decide +kernel
theorem dX0_seatLast_15 : decode cX0_seatLast 15 = .ok (.iastore, 1) := by decide +kernel
theorem dX0_seatLast_16 : decode cX0_seatLast 16 = .ok (.aload_n 0, 1) := by decide +kernel
theorem dX0_seatLast_17 : decode cX0_seatLast 17 = .ok (.getfield 15, 3) := by decide +kernel
theorem dX0_seatLast_20 : decode cX0_seatLast 20 = .ok (.aload_n 0, 1) := by decide +kernel
theorem dX0_seatLast_21 : decode cX0_seatLast 21 = .ok (.getfield 18, 3) := by decide +kernel
theorem dX0_seatLast_24 : decode cX0_seatLast 24 = .ok (.iload_n 1, 1) := by decide +kernel
theorem dX0_seatLast_25 : decode cX0_seatLast 25 = .ok (.iastore, 1) := by decide +kernel
theorem dX0_seatLast_26 : decode cX0_seatLast 26 = .ok (.aload_n 0, 1) := by decide +kernel
theorem dX0_seatLast_27 : decode cX0_seatLast 27 = .ok (.dup, 1) := by decide +kernel
theorem dX0_seatLast_28 : decode cX0_seatLast 28 = .ok (.getfield 18, 3) := by decide +kernel
theorem dX0_seatLast_31 : decode cX0_seatLast 31 = .ok (.iconst 1, 1) := by decide +kernel
theorem dX0_seatLast_32 : decode cX0_seatLast 32 = .ok (.iadd, 1) := by decide +kernel
theorem dX0_seatLast_33 : decode cX0_seatLast 33 = .ok (.putfield 18, 3) := by decide +kernel
theorem dX0_seatLast_36 : decode cX0_seatLast 36 = .ok (.return_, 1) := by decide +kernel
theorem dX0_seatAll_0 : decode cX0_seatAll 0 = .ok (.aload_n 0, 1) := by decide +kernel
theorem dX0_seatAll_1 : decode cX0_seatAll 1 = .ok (.iconst 0, 1) := by decide +kernel
theorem dX0_seatAll_2 : decode cX0_seatAll 2 = .ok (.putfield 18, 3) := by decide +kernel
theorem dX0_seatAll_5 : decode cX0_seatAll 5 = .ok (.aload_n 0, 1) := by decide +kernel
theorem dX0_seatAll_6 : decode cX0_seatAll 6 = .ok (.iconst 0, 1) := by decide +kernel
theorem dX0_seatAll_7 : decode cX0_seatAll 7 = .ok (.putfield 22, 3) := by decide +kernel
theorem dX0_seatAll_10 : decode cX0_seatAll 10 = .ok (.iconst 0, 1) := by decide +kernel
theorem dX0_seatAll_11 : decode cX0_seatAll 11 = .ok (.istore_n 3, 1) := by decide +kernel
theorem dX0_seatAll_12 : decode cX0_seatAll 12 = .ok (.iload_n 3, 1) := by decide +kernel
theorem dX0_seatAll_13 : decode cX0_seatAll 13 = .ok (.iload_n 1, 1) := by decide +kernel
theorem dX0_seatAll_14 : decode cX0_seatAll 14 = .ok (.if_icmp .ge 17, 3) := by decide +kernel
theorem dX0_seatAll_17 : decode cX0_seatAll 17 = .ok (.aload_n 0, 1) := by decide +kernel
theorem dX0_seatAll_18 : decode cX0_seatAll 18 = .ok (.iload_n 3, 1) := by decide +kernel
theorem dX0_seatAll_19 : decode cX0_seatAll 19 = .ok (.aload_n 2, 1) := by decide +kernel
theorem dX0_seatAll_20 : decode cX0_seatAll 20 = .ok (.iload_n 3, 1) := by decide +kernel
theorem dX0_seatAll_21 : decode cX0_seatAll 21 = .ok (.iaload, 1) := by decide +kernel
theorem dX0_seatAll_22 : decode cX0_seatAll 22 = .ok (.invokevirtual 28, 3) := by decide +kernel
theorem dX0_seatAll_25 : decode cX0_seatAll 25 = .ok (.iinc 3 1, 3) := by decide +kernel
theorem dX0_seatAll_28 : decode cX0_seatAll 28 = .ok (.goto (-16), 3) := by decide +kernel
theorem dX0_seatAll_31 : decode cX0_seatAll 31 = .ok (.return_, 1) := by decide +kernel
theorem dX0_seatAs_0 : decode cX0_seatAs 0 = .ok (.iconst 0, 1) := by decide +kernel
theorem dX0_seatAs_1 : decode cX0_seatAs 1 = .ok (.istore_n 2, 1) := by decide +kernel
theorem dX0_seatAs_2 : decode cX0_seatAs 2 = .ok (.iload_n 2, 1) := by decide +kernel
theorem dX0_seatAs_3 : decode cX0_seatAs 3 = .ok (.aload_n 0, 1) := by decide +kernel
theorem dX0_seatAs_4 : decode cX0_seatAs 4 = .ok (.getfield 18, 3) := by decide +kernel
theorem dX0_seatAs_7 : decode cX0_seatAs 7 = .ok (.if_icmp .ge 18, 3) := by decide +kernel
theorem dX0_seatAs_10 : decode cX0_seatAs 10 = .ok (.aload_n 0, 1) := by decide +kernel
theorem dX0_seatAs_11 : decode cX0_seatAs 11 = .ok (.getfield 15, 3) := by decide +kernel
theorem dX0_seatAs_14 : decode cX0_seatAs 14 = .ok (.iload_n 2, 1) := by decide +kernel
theorem dX0_seatAs_15 : decode cX0_seatAs 15 = .ok (.aload_n 1, 1) := by decide +kernel
theorem dX0_seatAs_16 : decode cX0_seatAs 16 = .ok (.iload_n 2, 1) := by decide +kernel
theorem dX0_seatAs_17 : decode cX0_seatAs 17 = .ok (.iaload, 1) := by decide +kernel
theorem dX0_seatAs_18 : decode cX0_seatAs 18 = .ok (.iastore, 1) := by decide +kernel
theorem dX0_seatAs_19 : decode cX0_seatAs 19 = .ok (.iinc 2 1, 3) := by decide +kernel
theorem dX0_seatAs_22 : decode cX0_seatAs 22 = .ok (.goto (-20), 3) := by decide +kernel
theorem dX0_seatAs_25 : decode cX0_seatAs 25 = .ok (.return_, 1) := by decide +kernel
theorem dX0_whoIsOn_0 : decode cX0_whoIsOn 0 = .ok (.iload_n 1, 1) := by decide +kernel
theorem dX0_whoIsOn_1 : decode cX0_whoIsOn 1 = .ok (.iconst 0, 1) := by decide +kernel
theorem dX0_whoIsOn_2 : decode cX0_whoIsOn 2 = .ok (.aload_n 0, 1) := by decide +kernel
theorem dX0_whoIsOn_3 : decode cX0_whoIsOn 3 = .ok (.getfield 18, 3) := by decide +kernel
theorem dX0_whoIsOn_6 : decode cX0_whoIsOn 6 = .ok (.iconst 1, 1) := by decide +kernel
theorem dX0_whoIsOn_7 : decode cX0_whoIsOn 7 = .ok (.isub, 1) := by decide +kernel
theorem dX0_whoIsOn_8 : decode cX0_whoIsOn 8 = .ok (.invokestatic 32, 3) := by decide +kernel
theorem dX0_whoIsOn_11 : decode cX0_whoIsOn 11 = .ok (.ifCond .eq 12, 3) := by decide +kernel
theorem dX0_whoIsOn_14 : decode cX0_whoIsOn 14 = .ok (.aload_n 0, 1) := by decide +kernel
theorem dX0_whoIsOn_15 : decode cX0_whoIsOn 15 = .ok (.getfield 15, 3) := by decide +kernel
theorem dX0_whoIsOn_18 : decode cX0_whoIsOn 18 = .ok (.iload_n 1, 1) := by decide +kernel
theorem dX0_whoIsOn_19 : decode cX0_whoIsOn 19 = .ok (.iaload, 1) := by decide +kernel
theorem dX0_whoIsOn_20 : decode cX0_whoIsOn 20 = .ok (.goto 5, 3) := by decide +kernel
theorem dX0_whoIsOn_23 : decode cX0_whoIsOn 23 = .ok (.bipush (-4), 2) := by decide +kernel
theorem dX0_whoIsOn_25 : decode cX0_whoIsOn 25 = .ok (.ireturn, 1) := by decide +kernel
theorem dX0_seatOf_0 : decode cX0_seatOf 0 = .ok (.iconst 0, 1) := by decide +kernel
theorem dX0_seatOf_1 : decode cX0_seatOf 1 = .ok (.istore_n 2, 1) := by decide +kernel
theorem dX0_seatOf_2 : decode cX0_seatOf 2 = .ok (.iload_n 2, 1) := by decide +kernel
theorem dX0_seatOf_3 : decode cX0_seatOf 3 = .ok (.aload_n 0, 1) := by decide +kernel
theorem dX0_seatOf_4 : decode cX0_seatOf 4 = .ok (.getfield 18, 3) := by decide +kernel
theorem dX0_seatOf_7 : decode cX0_seatOf 7 = .ok (.if_icmp .ge 21, 3) := by decide +kernel
theorem dX0_seatOf_10 : decode cX0_seatOf 10 = .ok (.aload_n 0, 1) := by decide +kernel
theorem dX0_seatOf_11 : decode cX0_seatOf 11 = .ok (.getfield 15, 3) := by decide +kernel
theorem dX0_seatOf_14 : decode cX0_seatOf 14 = .ok (.iload_n 2, 1) := by decide +kernel
theorem dX0_seatOf_15 : decode cX0_seatOf 15 = .ok (.iaload, 1) := by decide +kernel
theorem dX0_seatOf_16 : decode cX0_seatOf 16 = .ok (.iload_n 1, 1) := by decide +kernel
theorem dX0_seatOf_17 : decode cX0_seatOf 17 = .ok (.if_icmp .ne 5, 3) := by decide +kernel
theorem dX0_seatOf_20 : decode cX0_seatOf 20 = .ok (.iload_n 2, 1) := by decide +kernel
theorem dX0_seatOf_21 : decode cX0_seatOf 21 = .ok (.ireturn, 1) := by decide +kernel
theorem dX0_seatOf_22 : decode cX0_seatOf 22 = .ok (.iinc 2 1, 3) := by decide +kernel
theorem dX0_seatOf_25 : decode cX0_seatOf 25 = .ok (.goto (-23), 3) := by decide +kernel
theorem dX0_seatOf_28 : decode cX0_seatOf 28 = .ok (.bipush (-4), 2) := by decide +kernel
theorem dX0_seatOf_30 : decode cX0_seatOf 30 = .ok (.ireturn, 1) := by decide +kernel
theorem dX0_whoSits_0 : decode cX0_whoSits 0 = .ok (.iconst 0, 1) := by decide +kernel
theorem dX0_whoSits_1 : decode cX0_whoSits 1 = .ok (.istore_n 1, 1) := by decide +kernel
theorem dX0_whoSits_2 : decode cX0_whoSits 2 = .ok (.iconst 0, 1) := by decide +kernel
theorem dX0_whoSits_3 : decode cX0_whoSits 3 = .ok (.istore_n 2, 1) := by decide +kernel
theorem dX0_whoSits_4 : decode cX0_whoSits 4 = .ok (.iload_n 2, 1) := by decide +kernel
theorem dX0_whoSits_5 : decode cX0_whoSits 5 = .ok (.aload_n 0, 1) := by decide +kernel
theorem dX0_whoSits_6 : decode cX0_whoSits 6 = .ok (.getfield 18, 3) := by decide +kernel
theorem dX0_whoSits_9 : decode cX0_whoSits 9 = .ok (.if_icmp .ge 20, 3) := by decide +kernel
theorem dX0_whoSits_12 : decode cX0_whoSits 12 = .ok (.iload_n 1, 1) := by decide +kernel
theorem dX0_whoSits_13 : decode cX0_whoSits 13 = .ok (.iconst 1, 1) := by decide +kernel
theorem dX0_whoSits_14 : decode cX0_whoSits 14 = .ok (.aload_n 0, 1) := by decide +kernel
theorem dX0_whoSits_15 : decode cX0_whoSits 15 = .ok (.getfield 15, 3) := by decide +kernel
theorem dX0_whoSits_18 : decode cX0_whoSits 18 = .ok (.iload_n 2, 1) := by decide +kernel
theorem dX0_whoSits_19 : decode cX0_whoSits 19 = .ok (.iaload, 1) := by decide +kernel
theorem dX0_whoSits_20 : decode cX0_whoSits 20 = .ok (.ishl, 1) := by decide +kernel
theorem dX0_whoSits_21 : decode cX0_whoSits 21 = .ok (.ior, 1) := by decide +kernel
theorem dX0_whoSits_22 : decode cX0_whoSits 22 = .ok (.istore_n 1, 1) := by decide +kernel
theorem dX0_whoSits_23 : decode cX0_whoSits 23 = .ok (.iinc 2 1, 3) := by decide +kernel
theorem dX0_whoSits_26 : decode cX0_whoSits 26 = .ok (.goto (-22), 3) := by decide +kernel
theorem dX0_whoSits_29 : decode cX0_whoSits 29 = .ok (.iload_n 1, 1) := by decide +kernel
theorem dX0_whoSits_30 : decode cX0_whoSits 30 = .ok (.ireturn, 1) := by decide +kernel
theorem dX0_whoSitsBy_0 : decode cX0_whoSitsBy 0 = .ok (.aload_n 0, 1) := by decide +kernel
theorem dX0_whoSitsBy_1 : decode cX0_whoSitsBy 1 = .ok (.iload_n 1, 1) := by decide +kernel
theorem dX0_whoSitsBy_2 : decode cX0_whoSitsBy 2 = .ok (.invokevirtual 36, 3) := by decide +kernel
theorem dX0_whoSitsBy_5 : decode cX0_whoSitsBy 5 = .ok (.istore_n 2, 1) := by decide +kernel
theorem dX0_whoSitsBy_6 : decode cX0_whoSitsBy 6 = .ok (.iload_n 2, 1) := by decide +kernel
theorem dX0_whoSitsBy_7 : decode cX0_whoSitsBy 7 = .ok (.bipush (-4), 2) := by decide +kernel
theorem dX0_whoSitsBy_9 : decode cX0_whoSitsBy 9 = .ok (.if_icmp .ne 5, 3) := by decide +kernel
theorem dX0_whoSitsBy_12 : decode cX0_whoSitsBy 12 = .ok (.iconst 0, 1) := by decide +kernel
theorem dX0_whoSitsBy_13 : decode cX0_whoSitsBy 13 = .ok (.ireturn, 1) := by decide +kernel
theorem dX0_whoSitsBy_14 : decode cX0_whoSitsBy 14 = .ok (.aload_n 0, 1) := by decide +kernel
theorem dX0_whoSitsBy_15 : decode cX0_whoSitsBy 15 = .ok (.iload_n 2, 1) := by decide +kernel
theorem dX0_whoSitsBy_16 : decode cX0_whoSitsBy 16 = .ok (.iconst 1, 1) := by decide +kernel
theorem dX0_whoSitsBy_17 : decode cX0_whoSitsBy 17 = .ok (.isub, 1) := by decide +kernel
theorem dX0_whoSitsBy_18 : decode cX0_whoSitsBy 18 = .ok (.invokevirtual 40, 3) := by decide +kernel
theorem dX0_whoSitsBy_21 : decode cX0_whoSitsBy 21 = .ok (.aload_n 0, 1) := by decide +kernel
theorem dX0_whoSitsBy_22 : decode cX0_whoSitsBy 22 = .ok (.iload_n 2, 1) := by decide +kernel
theorem dX0_whoSitsBy_23 : decode cX0_whoSitsBy 23 = .ok (.iconst 1, 1) := by decide +kernel
theorem dX0_whoSitsBy_24 : decode cX0_whoSitsBy 24 = .ok (.iadd, 1) := by decide +kernel
theorem dX0_whoSitsBy_25 : decode cX0_whoSitsBy 25 = .ok (.invokevirtual 40, 3) := by decide +kernel
theorem dX0_whoSitsBy_28 : decode cX0_whoSitsBy 28 = .ok (.ior, 1) := by decide +kernel
theorem dX0_whoSitsBy_29 : decode cX0_whoSitsBy 29 = .ok (.ireturn, 1) := by decide +kernel
theorem dX0_setOn_0 : decode cX0_setOn 0 = .ok (.iload_n 1, 1) := by decide +kernel
theorem dX0_setOn_1 : decode cX0_setOn 1 = .ok (.iconst 0, 1) := by decide +kernel
theorem dX0_setOn_2 : decode cX0_setOn 2 = .ok (.aload_n 0, 1) := by decide +kernel
theorem dX0_setOn_3 : decode cX0_setOn 3 = .ok (.getfield 18, 3) := by decide +kernel
theorem dX0_setOn_6 : decode cX0_setOn 6 = .ok (.iconst 1, 1) := by decide +kernel
theorem dX0_setOn_7 : decode cX0_setOn 7 = .ok (.isub, 1) := by decide +kernel
theorem dX0_setOn_8 : decode cX0_setOn 8 = .ok (.invokestatic 32, 3) := by decide +kernel
theorem dX0_setOn_11 : decode cX0_setOn 11 = .ok (.ifCond .eq 14, 3) := by decide +kernel
theorem dX0_setOn_14 : decode cX0_setOn 14 = .ok (.iconst 1, 1) := by decide +kernel
theorem dX0_setOn_15 : decode cX0_setOn 15 = .ok (.aload_n 0, 1) := by decide +kernel
theorem dX0_setOn_16 : decode cX0_setOn 16 = .ok (.getfield 15, 3) := by decide +kernel
theorem dX0_setOn_19 : decode cX0_setOn 19 = .ok (.iload_n 1, 1) := by decide +kernel
theorem dX0_setOn_20 : decode cX0_setOn 20 = .ok (.iaload, 1) := by decide +kernel
theorem dX0_setOn_21 : decode cX0_setOn 21 = .ok (.ishl, 1) := by decide +kernel
theorem dX0_setOn_22 : decode cX0_setOn 22 = .ok (.goto 4, 3) := by decide +kernel
theorem dX0_setOn_25 : decode cX0_setOn 25 = .ok (.iconst 0, 1) := by decide +kernel
theorem dX0_setOn_26 : decode cX0_setOn 26 = .ok (.ireturn, 1) := by decide +kernel
theorem dX0_lifeOfAll_0 : decode cX0_lifeOfAll 0 = .ok (.iconst 0, 1) := by decide +kernel
theorem dX0_lifeOfAll_1 : decode cX0_lifeOfAll 1 = .ok (.istore_n 1, 1) := by decide +kernel
theorem dX0_lifeOfAll_2 : decode cX0_lifeOfAll 2 = .ok (.iconst 0, 1) := by decide +kernel
theorem dX0_lifeOfAll_3 : decode cX0_lifeOfAll 3 = .ok (.istore_n 2, 1) := by decide +kernel
theorem dX0_lifeOfAll_4 : decode cX0_lifeOfAll 4 = .ok (.iload_n 2, 1) := by decide +kernel
theorem dX0_lifeOfAll_5 : decode cX0_lifeOfAll 5 = .ok (.aload_n 0, 1) := by decide +kernel
theorem dX0_lifeOfAll_6 : decode cX0_lifeOfAll 6 = .ok (.getfield 18, 3) := by decide +kernel
theorem dX0_lifeOfAll_9 : decode cX0_lifeOfAll 9 = .ok (.if_icmp .ge 23, 3) := by decide +kernel
theorem dX0_lifeOfAll_12 : decode cX0_lifeOfAll 12 = .ok (.iload_n 1, 1) := by decide +kernel
theorem dX0_lifeOfAll_13 : decode cX0_lifeOfAll 13 = .ok (.aload_n 0, 1) := by decide +kernel
theorem dX0_lifeOfAll_14 : decode cX0_lifeOfAll 14 = .ok (.getfield 9, 3) := by decide +kernel
theorem dX0_lifeOfAll_17 : decode cX0_lifeOfAll 17 = .ok (.aload_n 0, 1) := by decide +kernel
theorem dX0_lifeOfAll_18 : decode cX0_lifeOfAll 18 = .ok (.getfield 15, 3) := by decide +kernel
theorem dX0_lifeOfAll_21 : decode cX0_lifeOfAll 21 = .ok (.iload_n 2, 1) := by decide +kernel
theorem dX0_lifeOfAll_22 : decode cX0_lifeOfAll 22 = .ok (.iaload, 1) := by decide +kernel
theorem dX0_lifeOfAll_23 : decode cX0_lifeOfAll 23 = .ok (.iaload, 1) := by decide +kernel
theorem dX0_lifeOfAll_24 : decode cX0_lifeOfAll 24 = .ok (.iadd, 1) := by decide +kernel
theorem dX0_lifeOfAll_25 : decode cX0_lifeOfAll 25 = .ok (.istore_n 1, 1) := by decide +kernel
theorem dX0_lifeOfAll_26 : decode cX0_lifeOfAll 26 = .ok (.iinc 2 1, 3) := by decide +kernel
theorem dX0_lifeOfAll_29 : decode cX0_lifeOfAll 29 = .ok (.goto (-25), 3) := by decide +kernel
theorem dX0_lifeOfAll_32 : decode cX0_lifeOfAll 32 = .ok (.iload_n 1, 1) := by decide +kernel
theorem dX0_lifeOfAll_33 : decode cX0_lifeOfAll 33 = .ok (.ireturn, 1) := by decide +kernel
theorem dX0_lossOf_0 : decode cX0_lossOf 0 = .ok (.aload_n 0, 1) := by decide +kernel
theorem dX0_lossOf_1 : decode cX0_lossOf 1 = .ok (.iload_n 1, 1) := by decide +kernel
theorem dX0_lossOf_2 : decode cX0_lossOf 2 = .ok (.invokevirtual 36, 3) := by decide +kernel
theorem dX0_lossOf_5 : decode cX0_lossOf 5 = .ok (.istore_n 3, 1) := by decide +kernel
theorem dX0_lossOf_6 : decode cX0_lossOf 6 = .ok (.iload_n 3, 1) := by decide +kernel
theorem dX0_lossOf_7 : decode cX0_lossOf 7 = .ok (.bipush (-4), 2) := by decide +kernel
theorem dX0_lossOf_9 : decode cX0_lossOf 9 = .ok (.if_icmp .ne 7, 3) := by decide +kernel
theorem dX0_lossOf_12 : decode cX0_lossOf 12 = .ok (.iconst 0, 1) := by decide +kernel
theorem dX0_lossOf_13 : decode cX0_lossOf 13 = .ok (.goto 26, 3) := by decide +kernel
theorem dX0_lossOf_16 : decode cX0_lossOf 16 = .ok (.aload_n 2, 1) := by decide +kernel
theorem dX0_lossOf_17 : decode cX0_lossOf 17 = .ok (.iload_n 1, 1) := by decide +kernel
theorem dX0_lossOf_18 : decode cX0_lossOf 18 = .ok (.aload_n 0, 1) := by decide +kernel
theorem dX0_lossOf_19 : decode cX0_lossOf 19 = .ok (.getfield 22, 3) := by decide +kernel
theorem dX0_lossOf_22 : decode cX0_lossOf 22 = .ok (.aload_n 0, 1) := by decide +kernel
theorem dX0_lossOf_23 : decode cX0_lossOf 23 = .ok (.iload_n 3, 1) := by decide +kernel
theorem dX0_lossOf_24 : decode cX0_lossOf 24 = .ok (.iconst 1, 1) := by decide +kernel
theorem dX0_lossOf_25 : decode cX0_lossOf 25 = .ok (.isub, 1) := by decide +kernel
theorem dX0_lossOf_26 : decode cX0_lossOf 26 = .ok (.invokevirtual 40, 3) := by decide +kernel
theorem dX0_lossOf_29 : decode cX0_lossOf 29 = .ok (.aload_n 0, 1) := by decide +kernel
theorem dX0_lossOf_30 : decode cX0_lossOf 30 = .ok (.iload_n 3, 1) := by decide +kernel
theorem dX0_lossOf_31 : decode cX0_lossOf 31 = .ok (.iconst 1, 1) := by decide +kernel
theorem dX0_lossOf_32 : decode cX0_lossOf 32 = .ok (.iadd, 1) := by decide +kernel
theorem dX0_lossOf_33 : decode cX0_lossOf 33 = .ok (.invokevirtual 40, 3) := by decide +kernel
theorem dX0_lossOf_36 : decode cX0_lossOf 36 = .ok (.invokevirtual 43, 3) := by decide +kernel
theorem dX0_lossOf_39 : decode cX0_lossOf 39 = .ok (.ireturn, 1) := by decide +kernel
theorem dX0_hasPairAt_0 : decode cX0_hasPairAt 0 = .ok (.iload_n 1, 1) := by decide +kernel
theorem dX0_hasPairAt_1 : decode cX0_hasPairAt 1 = .ok (.iconst 0, 1) := by decide +kernel
theorem dX0_hasPairAt_2 : decode cX0_hasPairAt 2 = .ok (.aload_n 0, 1) := by decide +kernel
theorem dX0_hasPairAt_3 : decode cX0_hasPairAt 3 = .ok (.getfield 18, 3) := by decide +kernel
theorem dX0_hasPairAt_6 : decode cX0_hasPairAt 6 = .ok (.iconst 2, 1) := by decide +kernel
theorem dX0_hasPairAt_7 : decode cX0_hasPairAt 7 = .ok (.isub, 1) := by decide +kernel
theorem dX0_hasPairAt_8 : decode cX0_hasPairAt 8 = .ok (.invokestatic 32, 3) := by decide +kernel
theorem dX0_hasPairAt_11 : decode cX0_hasPairAt 11 = .ok (.ireturn, 1) := by decide +kernel
theorem dX0_swapAt_0 : decode cX0_swapAt 0 = .ok (.aload_n 0, 1) := by decide +kernel
theorem dX0_swapAt_1 : decode cX0_swapAt 1 = .ok (.iload_n 1, 1) := by decide +kernel
theorem dX0_swapAt_2 : decode cX0_swapAt 2 = .ok (.invokevirtual 49, 3) := by decide +kernel
theorem dX0_swapAt_5 : decode cX0_swapAt 5 = .ok (.ifCond .eq 33, 3) := by decide +kernel
theorem dX0_swapAt_8 : decode cX0_swapAt 8 = .ok (.aload_n 0, 1) := by decide +kernel
theorem dX0_swapAt_9 : decode cX0_swapAt 9 = .ok (.getfield 15, 3) := by decide +kernel
theorem dX0_swapAt_12 : decode cX0_swapAt 12 = .ok (.iload_n 1, 1) := by decide +kernel
theorem dX0_swapAt_13 : decode cX0_swapAt 13 = .ok (.iaload, 1) := by decide +kernel
theorem dX0_swapAt_14 : decode cX0_swapAt 14 = .ok (.istore_n 2, 1) := by decide +kernel
theorem dX0_swapAt_15 : decode cX0_swapAt 15 = .ok (.aload_n 0, 1) := by decide +kernel
theorem dX0_swapAt_16 : decode cX0_swapAt 16 = .ok (.getfield 15, 3) := by decide +kernel
theorem dX0_swapAt_19 : decode cX0_swapAt 19 = .ok (.iload_n 1, 1) := by decide +kernel
theorem dX0_swapAt_20 : decode cX0_swapAt 20 = .ok (.aload_n 0, 1) := by decide +kernel
theorem dX0_swapAt_21 : decode cX0_swapAt 21 = .ok (.getfield 15, 3) := by decide +kernel
theorem dX0_swapAt_24 : decode cX0_swapAt 24 = .ok (.iload_n 1, 1) := by decide +kernel
theorem dX0_swapAt_25 : decode cX0_swapAt 25 = .ok (.iconst 1, 1) := by decide +kernel
theorem dX0_swapAt_26 : decode cX0_swapAt 26 = .ok (.iadd, 1) := by decide +kernel
theorem dX0_swapAt_27 : decode cX0_swapAt 27 = .ok (.iaload, 1) := by decide +kernel
theorem dX0_swapAt_28 : decode cX0_swapAt 28 = .ok (.iastore, 1) := by decide +kernel
theorem dX0_swapAt_29 : decode cX0_swapAt 29 = .ok (.aload_n 0, 1) := by decide +kernel
theorem dX0_swapAt_30 : decode cX0_swapAt 30 = .ok (.getfield 15, 3) := by decide +kernel
theorem dX0_swapAt_33 : decode cX0_swapAt 33 = .ok (.iload_n 1, 1) := by decide +kernel
theorem dX0_swapAt_34 : decode cX0_swapAt 34 = .ok (.iconst 1, 1) := by decide +kernel
theorem dX0_swapAt_35 : decode cX0_swapAt 35 = .ok (.iadd, 1) := by decide +kernel
theorem dX0_swapAt_36 : decode cX0_swapAt 36 = .ok (.iload_n 2, 1) := by decide +kernel
theorem dX0_swapAt_37 : decode cX0_swapAt 37 = .ok (.iastore, 1) := by decide +kernel
theorem dX0_swapAt_38 : decode cX0_swapAt 38 = .ok (.return_, 1) := by decide +kernel
theorem dX0_moveByDraw_0 : decode cX0_moveByDraw 0 = .ok (.aload_n 0, 1) := by decide +kernel
theorem dX0_moveByDraw_1 : decode cX0_moveByDraw 1 = .ok (.aload_n 0, 1) := by decide +kernel
theorem dX0_moveByDraw_2 : decode cX0_moveByDraw 2 = .ok (.getfield 25, 3) := by decide +kernel
theorem dX0_moveByDraw_5 : decode cX0_moveByDraw 5 = .ok (.ldc 53, 2) := by decide +kernel
theorem dX0_moveByDraw_7 : decode cX0_moveByDraw 7 = .ok (.imul, 1) := by decide +kernel
theorem dX0_moveByDraw_8 : decode cX0_moveByDraw 8 = .ok (.sipush 12345, 3) := by decide +kernel
theorem dX0_moveByDraw_11 : decode cX0_moveByDraw 11 = .ok (.iadd, 1) := by decide +kernel
theorem dX0_moveByDraw_12 : decode cX0_moveByDraw 12 = .ok (.ldc 54, 2) := by decide +kernel
theorem dX0_moveByDraw_14 : decode cX0_moveByDraw 14 = .ok (.iand, 1) := by decide +kernel
theorem dX0_moveByDraw_15 : decode cX0_moveByDraw 15 = .ok (.putfield 25, 3) := by decide +kernel
theorem dX0_moveByDraw_18 : decode cX0_moveByDraw 18 = .ok (.aload_n 0, 1) := by decide +kernel
theorem dX0_moveByDraw_19 : decode cX0_moveByDraw 19 = .ok (.getfield 18, 3) := by decide +kernel
theorem dX0_moveByDraw_22 : decode cX0_moveByDraw 22 = .ok (.iconst 2, 1) := by decide +kernel
theorem dX0_moveByDraw_23 : decode cX0_moveByDraw 23 = .ok (.if_icmp .lt 21, 3) := by decide +kernel
theorem dX0_moveByDraw_26 : decode cX0_moveByDraw 26 = .ok (.aload_n 0, 1) := by decide +kernel
theorem dX0_moveByDraw_27 : decode cX0_moveByDraw 27 = .ok (.aload_n 0, 1) := by decide +kernel
theorem dX0_moveByDraw_28 : decode cX0_moveByDraw 28 = .ok (.getfield 25, 3) := by decide +kernel
theorem dX0_moveByDraw_31 : decode cX0_moveByDraw 31 = .ok (.ldc 55, 2) := by decide +kernel
theorem dX0_moveByDraw_33 : decode cX0_moveByDraw 33 = .ok (.idiv, 1) := by decide +kernel
theorem dX0_moveByDraw_34 : decode cX0_moveByDraw 34 = .ok (.aload_n 0, 1) := by decide +kernel
theorem dX0_moveByDraw_35 : decode cX0_moveByDraw 35 = .ok (.getfield 18, 3) := by decide +kernel
theorem dX0_moveByDraw_38 : decode cX0_moveByDraw 38 = .ok (.iconst 1, 1) := by decide +kernel
theorem dX0_moveByDraw_39 : decode cX0_moveByDraw 39 = .ok (.isub, 1) := by decide +kernel
theorem dX0_moveByDraw_40 : decode cX0_moveByDraw 40 = .ok (.irem, 1) := by decide +kernel
theorem dX0_moveByDraw_41 : decode cX0_moveByDraw 41 = .ok (.invokevirtual 56, 3) := by decide +kernel
theorem dX0_moveByDraw_44 : decode cX0_moveByDraw 44 = .ok (.return_, 1) := by decide +kernel
theorem dX0_passYear_0 : decode cX0_passYear 0 = .ok (.aload_n 0, 1) := by decide +kernel
theorem dX0_passYear_1 : decode cX0_passYear 1 = .ok (.getfield 18, 3) := by decide +kernel
theorem dX0_passYear_4 : decode cX0_passYear 4 = .ok (.iconst 1, 1) := by decide +kernel
theorem dX0_passYear_5 : decode cX0_passYear 5 = .ok (.isub, 1) := by decide +kernel
theorem dX0_passYear_6 : decode cX0_passYear 6 = .ok (.istore_n 2, 1) := by decide +kernel
theorem dX0_passYear_7 : decode cX0_passYear 7 = .ok (.iconst 0, 1) := by decide +kernel
theorem dX0_passYear_8 : decode cX0_passYear 8 = .ok (.istore_n 3, 1) := by decide +kernel
theorem dX0_passYear_9 : decode cX0_passYear 9 = .ok (.iconst 0, 1) := by decide +kernel
theorem dX0_passYear_10 : decode cX0_passYear 10 = .ok (.istore 4, 2) := by decide +kernel
theorem dX0_passYear_12 : decode cX0_passYear 12 = .ok (.iconst 0, 1) := by decide +kernel
theorem dX0_passYear_13 : decode cX0_passYear 13 = .ok (.istore 5, 2) := by decide +kernel
theorem dX0_passYear_15 : decode cX0_passYear 15 = .ok (.iload 5, 2) := by decide +kernel
theorem dX0_passYear_17 : decode cX0_passYear 17 = .ok (.iload_n 2, 1) := by decide +kernel
theorem dX0_passYear_18 : decode cX0_passYear 18 = .ok (.if_icmp .gt 101, 3) := by decide +kernel
theorem dX0_passYear_21 : decode cX0_passYear 21 = .ok (.aload_n 0, 1) := by decide +kernel
theorem dX0_passYear_22 : decode cX0_passYear 22 = .ok (.getfield 15, 3) := by decide +kernel
theorem dX0_passYear_25 : decode cX0_passYear 25 = .ok (.iload 5, 2) := by decide +kernel
theorem dX0_passYear_27 : decode cX0_passYear 27 = .ok (.iaload, 1) := by decide +kernel
theorem dX0_passYear_28 : decode cX0_passYear 28 = .ok (.istore 6, 2) := by decide +kernel
theorem dX0_passYear_30 : decode cX0_passYear 30 = .ok (.iload 5, 2) := by decide +kernel
theorem dX0_passYear_32 : decode cX0_passYear 32 = .ok (.iload_n 2, 1) := by decide +kernel
theorem dX0_passYear_33 : decode cX0_passYear 33 = .ok (.if_icmp .ge 17, 3) := by decide +kernel
theorem dX0_passYear_36 : decode cX0_passYear 36 = .ok (.iconst 1, 1) := by decide +kernel
theorem dX0_passYear_37 : decode cX0_passYear 37 = .ok (.aload_n 0, 1) := by decide +kernel
theorem dX0_passYear_38 : decode cX0_passYear 38 = .ok (.getfield 15, 3) := by decide +kernel
theorem dX0_passYear_41 : decode cX0_passYear 41 = .ok (.iload 5, 2) := by decide +kernel
theorem dX0_passYear_43 : decode cX0_passYear 43 = .ok (.iconst 1, 1) := by decide +kernel
theorem dX0_passYear_44 : decode cX0_passYear 44 = .ok (.iadd, 1) := by decide +kernel
theorem dX0_passYear_45 : decode cX0_passYear 45 = .ok (.iaload, 1) := by decide +kernel
theorem dX0_passYear_46 : decode cX0_passYear 46 = .ok (.ishl, 1) := by decide +kernel
theorem dX0_passYear_47 : decode cX0_passYear 47 = .ok (.goto 4, 3) := by decide +kernel
theorem dX0_passYear_50 : decode cX0_passYear 50 = .ok (.iconst 0, 1) := by decide +kernel
theorem dX0_passYear_51 : decode cX0_passYear 51 = .ok (.istore 7, 2) := by decide +kernel
theorem dX0_passYear_53 : decode cX0_passYear 53 = .ok (.aload_n 0, 1) := by decide +kernel
theorem dX0_passYear_54 : decode cX0_passYear 54 = .ok (.getfield 9, 3) := by decide +kernel
theorem dX0_passYear_57 : decode cX0_passYear 57 = .ok (.iload 6, 2) := by decide +kernel
theorem dX0_passYear_59 : decode cX0_passYear 59 = .ok (.iconst 0, 1) := by decide +kernel
theorem dX0_passYear_60 : decode cX0_passYear 60 = .ok (.aload_n 0, 1) := by decide +kernel
theorem dX0_passYear_61 : decode cX0_passYear 61 = .ok (.getfield 9, 3) := by decide +kernel
theorem dX0_passYear_64 : decode cX0_passYear 64 = .ok (.iload 6, 2) := by decide +kernel
theorem dX0_passYear_66 : decode cX0_passYear 66 = .ok (.iaload, 1) := by decide +kernel
theorem dX0_passYear_67 : decode cX0_passYear 67 = .ok (.aload_n 1, 1) := by decide +kernel
theorem dX0_passYear_68 : decode cX0_passYear 68 = .ok (.iload 6, 2) := by decide +kernel
theorem dX0_passYear_70 : decode cX0_passYear 70 = .ok (.aload_n 0, 1) := by decide +kernel
theorem dX0_passYear_71 : decode cX0_passYear 71 = .ok (.getfield 22, 3) := by decide +kernel
theorem dX0_passYear_74 : decode cX0_passYear 74 = .ok (.iload 4, 2) := by decide +kernel
theorem dX0_passYear_76 : decode cX0_passYear 76 = .ok (.iload 7, 2) := by decide +kernel
theorem dX0_passYear_78 : decode cX0_passYear 78 = .ok (.invokevirtual 43, 3) := by decide +kernel
theorem dX0_passYear_81 : decode cX0_passYear 81 = .ok (.isub, 1) := by decide +kernel
theorem dX0_passYear_82 : decode cX0_passYear 82 = .ok (.invokestatic 60, 3) := by decide +kernel
theorem dX0_passYear_85 : decode cX0_passYear 85 = .ok (.iastore, 1) := by decide +kernel
theorem dX0_passYear_86 : decode cX0_passYear 86 = .ok (.aload_n 0, 1) := by decide +kernel
theorem dX0_passYear_87 : decode cX0_passYear 87 = .ok (.getfield 9, 3) := by decide +kernel
theorem dX0_passYear_90 : decode cX0_passYear 90 = .ok (.iload 6, 2) := by decide +kernel
theorem dX0_passYear_92 : decode cX0_passYear 92 = .ok (.iaload, 1) := by decide +kernel
theorem dX0_passYear_93 : decode cX0_passYear 93 = .ok (.ifCond .le 14, 3) := by decide +kernel
theorem dX0_passYear_96 : decode cX0_passYear 96 = .ok (.aload_n 0, 1) := by decide +kernel
theorem dX0_passYear_97 : decode cX0_passYear 97 = .ok (.getfield 15, 3) := by decide +kernel
theorem dX0_passYear_100 : decode cX0_passYear 100 = .ok (.iload_n 3, 1) := by decide +kernel
theorem dX0_passYear_101 : decode cX0_passYear 101 = .ok (.iload 6, 2) := by decide +kernel
theorem dX0_passYear_103 : decode cX0_passYear 103 = .ok (.iastore, 1) := by decide +kernel
theorem dX0_passYear_104 : decode cX0_passYear 104 = .ok (.iinc 3 1, 3) := by decide +kernel
theorem dX0_passYear_107 : decode cX0_passYear 107 = .ok (.iconst 1, 1) := by decide +kernel
theorem dX0_passYear_108 : decode cX0_passYear 108 = .ok (.iload 6, 2) := by decide +kernel
theorem dX0_passYear_110 : decode cX0_passYear 110 = .ok (.ishl, 1) := by decide +kernel
theorem dX0_passYear_111 : decode cX0_passYear 111 = .ok (.istore 4, 2) := by decide +kernel
theorem dX0_passYear_113 : decode cX0_passYear 113 = .ok (.iinc 5 1, 3) := by decide +kernel
theorem dX0_passYear_116 : decode cX0_passYear 116 = .ok (.goto (-101), 3) := by decide +kernel
theorem dX0_passYear_119 : decode cX0_passYear 119 = .ok (.aload_n 0, 1) := by decide +kernel
theorem dX0_passYear_120 : decode cX0_passYear 120 = .ok (.iload_n 3, 1) := by decide +kernel
theorem dX0_passYear_121 : decode cX0_passYear 121 = .ok (.putfield 18, 3) := by decide +kernel
theorem dX0_passYear_124 : decode cX0_passYear 124 = .ok (.aload_n 0, 1) := by decide +kernel
theorem dX0_passYear_125 : decode cX0_passYear 125 = .ok (.dup, 1) := by decide +kernel
theorem dX0_passYear_126 : decode cX0_passYear 126 = .ok (.getfield 22, 3) := by decide +kernel
theorem dX0_passYear_129 : decode cX0_passYear 129 = .ok (.iconst 1, 1) := by decide +kernel
theorem dX0_passYear_130 : decode cX0_passYear 130 = .ok (.iadd, 1) := by decide +kernel
theorem dX0_passYear_131 : decode cX0_passYear 131 = .ok (.putfield 22, 3) := by decide +kernel
theorem dX0_passYear_134 : decode cX0_passYear 134 = .ok (.return_, 1) := by decide +kernel
theorem dX0_passYears_0 : decode cX0_passYears 0 = .ok (.iconst 0, 1) := by decide +kernel
theorem dX0_passYears_1 : decode cX0_passYears 1 = .ok (.istore_n 3, 1) := by decide +kernel
theorem dX0_passYears_2 : decode cX0_passYears 2 = .ok (.iload_n 3, 1) := by decide +kernel
theorem dX0_passYears_3 : decode cX0_passYears 3 = .ok (.iload_n 1, 1) := by decide +kernel
theorem dX0_passYears_4 : decode cX0_passYears 4 = .ok (.if_icmp .ge 14, 3) := by decide +kernel
theorem dX0_passYears_7 : decode cX0_passYears 7 = .ok (.aload_n 0, 1) := by decide +kernel
theorem dX0_passYears_8 : decode cX0_passYears 8 = .ok (.aload_n 2, 1) := by decide +kernel
theorem dX0_passYears_9 : decode cX0_passYears 9 = .ok (.invokevirtual 66, 3) := by decide +kernel
theorem dX0_passYears_12 : decode cX0_passYears 12 = .ok (.iinc 3 1, 3) := by decide +kernel
theorem dX0_passYears_15 : decode cX0_passYears 15 = .ok (.goto (-13), 3) := by decide +kernel
theorem dX0_passYears_18 : decode cX0_passYears 18 = .ok (.return_, 1) := by decide +kernel
theorem dX1_init_0 : decode cX1_init 0 = .ok (.aload_n 0, 1) := by decide +kernel
theorem dX1_init_1 : decode cX1_init 1 = .ok (.invokespecial 3, 3) := by decide +kernel
theorem dX1_init_4 : decode cX1_init 4 = .ok (.aload_n 0, 1) := by decide +kernel
theorem dX1_init_5 : decode cX1_init 5 = .ok (.bipush 8, 2) := by decide +kernel
theorem dX1_init_7 : decode cX1_init 7 = .ok (.anewarray 9, 3) := by decide +kernel
theorem dX1_init_10 : decode cX1_init 10 = .ok (.putfield 11, 3) := by decide +kernel
theorem dX1_init_13 : decode cX1_init 13 = .ok (.aload_n 0, 1) := by decide +kernel
theorem dX1_init_14 : decode cX1_init 14 = .ok (.iconst 0, 1) := by decide +kernel
theorem dX1_init_15 : decode cX1_init 15 = .ok (.putfield 17, 3) := by decide +kernel
theorem dX1_init_18 : decode cX1_init 18 = .ok (.aload_n 0, 1) := by decide +kernel
theorem dX1_init_19 : decode cX1_init 19 = .ok (.iconst 0, 1) := by decide +kernel
theorem dX1_init_20 : decode cX1_init 20 = .ok (.putfield 21, 3) := by decide +kernel
theorem dX1_init_23 : decode cX1_init 23 = .ok (.iconst 0, 1) := by decide +kernel
theorem dX1_init_24 : decode cX1_init 24 = .ok (.istore_n 1, 1) := by decide +kernel
theorem dX1_init_25 : decode cX1_init 25 = .ok (.iload_n 1, 1) := by decide +kernel
theorem dX1_init_26 : decode cX1_init 26 = .ok (.bipush 8, 2) := by decide +kernel
theorem dX1_init_28 : decode cX1_init 28 = .ok (.if_icmp .ge 22, 3) := by decide +kernel
theorem dX1_init_31 : decode cX1_init 31 = .ok (.aload_n 0, 1) := by decide +kernel
theorem dX1_init_32 : decode cX1_init 32 = .ok (.getfield 11, 3) := by decide +kernel
theorem dX1_init_35 : decode cX1_init 35 = .ok (.iload_n 1, 1) := by decide +kernel
theorem dX1_init_36 : decode cX1_init 36 = .ok (.new 9, 3) := by decide +kernel
theorem dX1_init_39 : decode cX1_init 39 = .ok (.dup, 1) := by decide +kernel
theorem dX1_init_40 : decode cX1_init 40 = .ok (.invokespecial 24, 3) := by decide +kernel
theorem dX1_init_43 : decode cX1_init 43 = .ok (.aastore, 1) := by decide +kernel
theorem dX1_init_44 : decode cX1_init 44 = .ok (.iinc 1 1, 3) := by decide +kernel
theorem dX1_init_47 : decode cX1_init 47 = .ok (.goto (-22), 3) := by decide +kernel
theorem dX1_init_50 : decode cX1_init 50 = .ok (.return_, 1) := by decide +kernel
theorem dX1_takeFrom_0 : decode cX1_takeFrom 0 = .ok (.iconst 0, 1) := by decide +kernel
theorem dX1_takeFrom_1 : decode cX1_takeFrom 1 = .ok (.istore_n 2, 1) := by decide +kernel
theorem dX1_takeFrom_2 : decode cX1_takeFrom 2 = .ok (.iload_n 2, 1) := by decide +kernel
theorem dX1_takeFrom_3 : decode cX1_takeFrom 3 = .ok (.bipush 8, 2) := by decide +kernel
theorem dX1_takeFrom_5 : decode cX1_takeFrom 5 = .ok (.if_icmp .ge 24, 3) := by decide +kernel
theorem dX1_takeFrom_8 : decode cX1_takeFrom 8 = .ok (.aload_n 0, 1) := by decide +kernel
theorem dX1_takeFrom_9 : decode cX1_takeFrom 9 = .ok (.getfield 11, 3) := by decide +kernel
theorem dX1_takeFrom_12 : decode cX1_takeFrom 12 = .ok (.iload_n 2, 1) := by decide +kernel
theorem dX1_takeFrom_13 : decode cX1_takeFrom 13 = .ok (.aaload, 1) := by decide +kernel
theorem dX1_takeFrom_14 : decode cX1_takeFrom 14 = .ok (.aload_n 1, 1) := by decide +kernel
theorem dX1_takeFrom_15 : decode cX1_takeFrom 15 = .ok (.getfield 11, 3) := by decide +kernel
theorem dX1_takeFrom_18 : decode cX1_takeFrom 18 = .ok (.iload_n 2, 1) := by decide +kernel
theorem dX1_takeFrom_19 : decode cX1_takeFrom 19 = .ok (.aaload, 1) := by decide +kernel
theorem dX1_takeFrom_20 : decode cX1_takeFrom 20 = .ok (.invokevirtual 25, 3) := by decide +kernel
theorem dX1_takeFrom_23 : decode cX1_takeFrom 23 = .ok (.iinc 2 1, 3) := by decide +kernel
theorem dX1_takeFrom_26 : decode cX1_takeFrom 26 = .ok (.goto (-24), 3) := by decide +kernel
theorem dX1_takeFrom_29 : decode cX1_takeFrom 29 = .ok (.aload_n 0, 1) := by decide +kernel
theorem dX1_takeFrom_30 : decode cX1_takeFrom 30 = .ok (.aload_n 1, 1) := by decide +kernel
theorem dX1_takeFrom_31 : decode cX1_takeFrom 31 = .ok (.getfield 17, 3) := by decide +kernel
theorem dX1_takeFrom_34 : decode cX1_takeFrom 34 = .ok (.putfield 17, 3) := by decide +kernel
theorem dX1_takeFrom_37 : decode cX1_takeFrom 37 = .ok (.aload_n 0, 1) := by decide +kernel
theorem dX1_takeFrom_38 : decode cX1_takeFrom 38 = .ok (.aload_n 1, 1) := by decide +kernel
theorem dX1_takeFrom_39 : decode cX1_takeFrom 39 = .ok (.getfield 21, 3) := by decide +kernel
theorem dX1_takeFrom_42 : decode cX1_takeFrom 42 = .ok (.putfield 21, 3) := by decide +kernel
theorem dX1_takeFrom_45 : decode cX1_takeFrom 45 = .ok (.return_, 1) := by decide +kernel
theorem dX1_keep_0 : decode cX1_keep 0 = .ok (.aload_n 0, 1) := by decide +kernel
theorem dX1_keep_1 : decode cX1_keep 1 = .ok (.getfield 11, 3) := by decide +kernel
theorem dX1_keep_4 : decode cX1_keep 4 = .ok (.aload_n 0, 1) := by decide +kernel
theorem dX1_keep_5 : decode cX1_keep 5 = .ok (.getfield 21, 3) := by decide +kernel
theorem dX1_keep_8 : decode cX1_keep 8 = .ok (.aaload, 1) := by decide +kernel
theorem dX1_keep_9 : decode cX1_keep 9 = .ok (.aload_n 1, 1) := by decide +kernel
theorem dX1_keep_10 : decode cX1_keep 10 = .ok (.invokevirtual 25, 3) := by decide +kernel
theorem dX1_keep_13 : decode cX1_keep 13 = .ok (.aload_n 0, 1) := by decide +kernel
theorem dX1_keep_14 : decode cX1_keep 14 = .ok (.aload_n 0, 1) := by decide +kernel
theorem dX1_keep_15 : decode cX1_keep 15 = .ok (.getfield 21, 3) := by decide +kernel
theorem dX1_keep_18 : decode cX1_keep 18 = .ok (.iconst 1, 1) := by decide +kernel
theorem dX1_keep_19 : decode cX1_keep 19 = .ok (.iadd, 1) := by decide +kernel
theorem dX1_keep_20 : decode cX1_keep 20 = .ok (.bipush 8, 2) := by decide +kernel
theorem dX1_keep_22 : decode cX1_keep 22 = .ok (.irem, 1) := by decide +kernel
theorem dX1_keep_23 : decode cX1_keep 23 = .ok (.putfield 21, 3) := by decide +kernel
theorem dX1_keep_26 : decode cX1_keep 26 = .ok (.aload_n 0, 1) := by decide +kernel
theorem dX1_keep_27 : decode cX1_keep 27 = .ok (.bipush 8, 2) := by decide +kernel
theorem dX1_keep_29 : decode cX1_keep 29 = .ok (.aload_n 0, 1) := by decide +kernel
theorem dX1_keep_30 : decode cX1_keep 30 = .ok (.getfield 17, 3) := by decide +kernel
theorem dX1_keep_33 : decode cX1_keep 33 = .ok (.iconst 1, 1) := by decide +kernel
theorem dX1_keep_34 : decode cX1_keep 34 = .ok (.iadd, 1) := by decide +kernel
theorem dX1_keep_35 : decode cX1_keep 35 = .ok (.invokestatic 29, 3) := by decide +kernel
theorem dX1_keep_38 : decode cX1_keep 38 = .ok (.putfield 17, 3) := by decide +kernel
theorem dX1_keep_41 : decode cX1_keep 41 = .ok (.return_, 1) := by decide +kernel
theorem dX1_giveBack_0 : decode cX1_giveBack 0 = .ok (.aload_n 0, 1) := by decide +kernel
theorem dX1_giveBack_1 : decode cX1_giveBack 1 = .ok (.getfield 17, 3) := by decide +kernel
theorem dX1_giveBack_4 : decode cX1_giveBack 4 = .ok (.ifCond .le 42, 3) := by decide +kernel
theorem dX1_giveBack_7 : decode cX1_giveBack 7 = .ok (.aload_n 0, 1) := by decide +kernel
theorem dX1_giveBack_8 : decode cX1_giveBack 8 = .ok (.aload_n 0, 1) := by decide +kernel
theorem dX1_giveBack_9 : decode cX1_giveBack 9 = .ok (.getfield 21, 3) := by decide +kernel
theorem dX1_giveBack_12 : decode cX1_giveBack 12 = .ok (.bipush 8, 2) := by decide +kernel
theorem dX1_giveBack_14 : decode cX1_giveBack 14 = .ok (.iadd, 1) := by decide +kernel
theorem dX1_giveBack_15 : decode cX1_giveBack 15 = .ok (.iconst 1, 1) := by decide +kernel
theorem dX1_giveBack_16 : decode cX1_giveBack 16 = .ok (.isub, 1) := by decide +kernel
theorem dX1_giveBack_17 : decode cX1_giveBack 17 = .ok (.bipush 8, 2) := by decide +kernel
theorem dX1_giveBack_19 : decode cX1_giveBack 19 = .ok (.irem, 1) := by decide +kernel
theorem dX1_giveBack_20 : decode cX1_giveBack 20 = .ok (.putfield 21, 3) := by decide +kernel
theorem dX1_giveBack_23 : decode cX1_giveBack 23 = .ok (.aload_n 0, 1) := by decide +kernel
theorem dX1_giveBack_24 : decode cX1_giveBack 24 = .ok (.dup, 1) := by decide +kernel
theorem dX1_giveBack_25 : decode cX1_giveBack 25 = .ok (.getfield 17, 3) := by decide +kernel
theorem dX1_giveBack_28 : decode cX1_giveBack 28 = .ok (.iconst 1, 1) := by decide +kernel
theorem dX1_giveBack_29 : decode cX1_giveBack 29 = .ok (.isub, 1) := by decide +kernel
theorem dX1_giveBack_30 : decode cX1_giveBack 30 = .ok (.putfield 17, 3) := by decide +kernel
theorem dX1_giveBack_33 : decode cX1_giveBack 33 = .ok (.aload_n 1, 1) := by decide +kernel
theorem dX1_giveBack_34 : decode cX1_giveBack 34 = .ok (.aload_n 0, 1) := by decide +kernel
theorem dX1_giveBack_35 : decode cX1_giveBack 35 = .ok (.getfield 11, 3) := by decide +kernel
theorem dX1_giveBack_38 : decode cX1_giveBack 38 = .ok (.aload_n 0, 1) := by decide +kernel
theorem dX1_giveBack_39 : decode cX1_giveBack 39 = .ok (.getfield 21, 3) := by decide +kernel
theorem dX1_giveBack_42 : decode cX1_giveBack 42 = .ok (.aaload, 1) := by decide +kernel
theorem dX1_giveBack_43 : decode cX1_giveBack 43 = .ok (.invokevirtual 25, 3) := by decide +kernel
theorem dX1_giveBack_46 : decode cX1_giveBack 46 = .ok (.return_, 1) := by decide +kernel
theorem dX1_forget_0 : decode cX1_forget 0 = .ok (.aload_n 0, 1) := by decide +kernel
theorem dX1_forget_1 : decode cX1_forget 1 = .ok (.iconst 0, 1) := by decide +kernel
theorem dX1_forget_2 : decode cX1_forget 2 = .ok (.putfield 17, 3) := by decide +kernel
theorem dX1_forget_5 : decode cX1_forget 5 = .ok (.return_, 1) := by decide +kernel
theorem dX2_init_0 : decode cX2_init 0 = .ok (.aload_n 0, 1) := by decide +kernel
theorem dX2_init_1 : decode cX2_init 1 = .ok (.invokespecial 3, 3) := by decide +kernel
theorem dX2_init_4 : decode cX2_init 4 = .ok (.aload_n 0, 1) := by decide +kernel
theorem dX2_init_5 : decode cX2_init 5 = .ok (.bipush 6, 2) := by decide +kernel
theorem dX2_init_7 : decode cX2_init 7 = .ok (.newarray .int, 2) := by decide +kernel
theorem dX2_init_9 : decode cX2_init 9 = .ok (.putfield 9, 3) := by decide +kernel
theorem dX2_init_12 : decode cX2_init 12 = .ok (.aload_n 0, 1) := by decide +kernel
theorem dX2_init_13 : decode cX2_init 13 = .ok (.bipush 6, 2) := by decide +kernel
theorem dX2_init_15 : decode cX2_init 15 = .ok (.newarray .int, 2) := by decide +kernel
theorem dX2_init_17 : decode cX2_init 17 = .ok (.putfield 15, 3) := by decide +kernel
theorem dX2_init_20 : decode cX2_init 20 = .ok (.aload_n 0, 1) := by decide +kernel
theorem dX2_init_21 : decode cX2_init 21 = .ok (.iconst 0, 1) := by decide +kernel
theorem dX2_init_22 : decode cX2_init 22 = .ok (.putfield 18, 3) := by decide +kernel
theorem dX2_init_25 : decode cX2_init 25 = .ok (.return_, 1) := by decide +kernel
theorem dX2_start_0 : decode cX2_start 0 = .ok (.aload_n 1, 1) := by decide +kernel
theorem dX2_start_1 : decode cX2_start 1 = .ok (.invokevirtual 22, 3) := by decide +kernel
theorem dX2_start_4 : decode cX2_start 4 = .ok (.istore_n 2, 1) := by decide +kernel
theorem dX2_start_5 : decode cX2_start 5 = .ok (.aload_n 0, 1) := by decide +kernel
theorem dX2_start_6 : decode cX2_start 6 = .ok (.iconst 0, 1) := by decide +kernel
theorem dX2_start_7 : decode cX2_start 7 = .ok (.putfield 18, 3) := by decide +kernel
theorem dX2_start_10 : decode cX2_start 10 = .ok (.iconst 0, 1) := by decide +kernel
theorem dX2_start_11 : decode cX2_start 11 = .ok (.istore_n 3, 1) := by decide +kernel
theorem dX2_start_12 : decode cX2_start 12 = .ok (.iload_n 3, 1) := by decide +kernel
theorem dX2_start_13 : decode cX2_start 13 = .ok (.bipush 6, 2) := by decide +kernel
theorem dX2_start_15 : decode cX2_start 15 = .ok (.if_icmp .ge 37, 3) := by decide +kernel
theorem dX2_start_18 : decode cX2_start 18 = .ok (.iload_n 2, 1) := by decide +kernel
theorem dX2_start_19 : decode cX2_start 19 = .ok (.iload_n 3, 1) := by decide +kernel
theorem dX2_start_20 : decode cX2_start 20 = .ok (.invokestatic 28, 3) := by decide +kernel
theorem dX2_start_23 : decode cX2_start 23 = .ok (.ifCond .eq 23, 3) := by decide +kernel
theorem dX2_start_26 : decode cX2_start 26 = .ok (.aload_n 0, 1) := by decide +kernel
theorem dX2_start_27 : decode cX2_start 27 = .ok (.getfield 9, 3) := by decide +kernel
theorem dX2_start_30 : decode cX2_start 30 = .ok (.aload_n 0, 1) := by decide +kernel
theorem dX2_start_31 : decode cX2_start 31 = .ok (.getfield 18, 3) := by decide +kernel
theorem dX2_start_34 : decode cX2_start 34 = .ok (.iload_n 3, 1) := by decide +kernel
theorem dX2_start_35 : decode cX2_start 35 = .ok (.iastore, 1) := by decide +kernel
theorem dX2_start_36 : decode cX2_start 36 = .ok (.aload_n 0, 1) := by decide +kernel
theorem dX2_start_37 : decode cX2_start 37 = .ok (.dup, 1) := by decide +kernel
theorem dX2_start_38 : decode cX2_start 38 = .ok (.getfield 18, 3) := by decide +kernel
theorem dX2_start_41 : decode cX2_start 41 = .ok (.iconst 1, 1) := by decide +kernel
theorem dX2_start_42 : decode cX2_start 42 = .ok (.iadd, 1) := by decide +kernel
theorem dX2_start_43 : decode cX2_start 43 = .ok (.putfield 18, 3) := by decide +kernel
theorem dX2_start_46 : decode cX2_start 46 = .ok (.iinc 3 1, 3) := by decide +kernel
theorem dX2_start_49 : decode cX2_start 49 = .ok (.goto (-37), 3) := by decide +kernel
theorem dX2_start_52 : decode cX2_start 52 = .ok (.aload_n 0, 1) := by decide +kernel
theorem dX2_start_53 : decode cX2_start 53 = .ok (.invokevirtual 32, 3) := by decide +kernel
theorem dX2_start_56 : decode cX2_start 56 = .ok (.return_, 1) := by decide +kernel
theorem dX2_keepAsBest_0 : decode cX2_keepAsBest 0 = .ok (.iconst 0, 1) := by decide +kernel
theorem dX2_keepAsBest_1 : decode cX2_keepAsBest 1 = .ok (.istore_n 1, 1) := by decide +kernel
theorem dX2_keepAsBest_2 : decode cX2_keepAsBest 2 = .ok (.iload_n 1, 1) := by decide +kernel
theorem dX2_keepAsBest_3 : decode cX2_keepAsBest 3 = .ok (.bipush 6, 2) := by decide +kernel
theorem dX2_keepAsBest_5 : decode cX2_keepAsBest 5 = .ok (.if_icmp .ge 21, 3) := by decide +kernel
theorem dX2_keepAsBest_8 : decode cX2_keepAsBest 8 = .ok (.aload_n 0, 1) := by decide +kernel
theorem dX2_keepAsBest_9 : decode cX2_keepAsBest 9 = .ok (.getfield 15, 3) := by decide +kernel
theorem dX2_keepAsBest_12 : decode cX2_keepAsBest 12 = .ok (.iload_n 1, 1) := by decide +kernel
theorem dX2_keepAsBest_13 : decode cX2_keepAsBest 13 = .ok (.aload_n 0, 1) := by decide +kernel
theorem dX2_keepAsBest_14 : decode cX2_keepAsBest 14 = .ok (.getfield 9, 3) := by decide +kernel
theorem dX2_keepAsBest_17 : decode cX2_keepAsBest 17 = .ok (.iload_n 1, 1) := by decide +kernel
theorem dX2_keepAsBest_18 : decode cX2_keepAsBest 18 = .ok (.iaload, 1) := by decide +kernel
theorem dX2_keepAsBest_19 : decode cX2_keepAsBest 19 = .ok (.iastore, 1) := by decide +kernel
theorem dX2_keepAsBest_20 : decode cX2_keepAsBest 20 = .ok (.iinc 1 1, 3) := by decide +kernel
theorem dX2_keepAsBest_23 : decode cX2_keepAsBest 23 = .ok (.goto (-21), 3) := by decide +kernel
theorem dX2_keepAsBest_26 : decode cX2_keepAsBest 26 = .ok (.return_, 1) := by decide +kernel
theorem dX2_bestOn_0 : decode cX2_bestOn 0 = .ok (.iload_n 1, 1) := by decide +kernel
theorem dX2_bestOn_1 : decode cX2_bestOn 1 = .ok (.iconst 0, 1) := by decide +kernel
theorem dX2_bestOn_2 : decode cX2_bestOn 2 = .ok (.aload_n 0, 1) := by decide +kernel
theorem dX2_bestOn_3 : decode cX2_bestOn 3 = .ok (.getfield 18, 3) := by decide +kernel
theorem dX2_bestOn_6 : decode cX2_bestOn 6 = .ok (.iconst 1, 1) := by decide +kernel
theorem dX2_bestOn_7 : decode cX2_bestOn 7 = .ok (.isub, 1) := by decide +kernel
theorem dX2_bestOn_8 : decode cX2_bestOn 8 = .ok (.invokestatic 35, 3) := by decide +kernel
theorem dX2_bestOn_11 : decode cX2_bestOn 11 = .ok (.ifCond .eq 12, 3) := by decide +kernel
theorem dX2_bestOn_14 : decode cX2_bestOn 14 = .ok (.aload_n 0, 1) := by decide +kernel
theorem dX2_bestOn_15 : decode cX2_bestOn 15 = .ok (.getfield 15, 3) := by decide +kernel
theorem dX2_bestOn_18 : decode cX2_bestOn 18 = .ok (.iload_n 1, 1) := by decide +kernel
theorem dX2_bestOn_19 : decode cX2_bestOn 19 = .ok (.iaload, 1) := by decide +kernel
theorem dX2_bestOn_20 : decode cX2_bestOn 20 = .ok (.goto 5, 3) := by decide +kernel
theorem dX2_bestOn_23 : decode cX2_bestOn 23 = .ok (.bipush (-4), 2) := by decide +kernel
theorem dX2_bestOn_25 : decode cX2_bestOn 25 = .ok (.ireturn, 1) := by decide +kernel
theorem dX2_isTurnedRound_0 : decode cX2_isTurnedRound 0 = .ok (.aload_n 0, 1) := by decide +kernel
theorem dX2_isTurnedRound_1 : decode cX2_isTurnedRound 1 = .ok (.getfield 18, 3) := by decide +kernel
theorem dX2_isTurnedRound_4 : decode cX2_isTurnedRound 4 = .ok (.iconst 1, 1) := by decide +kernel
theorem dX2_isTurnedRound_5 : decode cX2_isTurnedRound 5 = .ok (.if_icmp .le 27, 3) := by decide +kernel
theorem dX2_isTurnedRound_8 : decode cX2_isTurnedRound 8 = .ok (.aload_n 0, 1) := by decide +kernel
theorem dX2_isTurnedRound_9 : decode cX2_isTurnedRound 9 = .ok (.getfield 9, 3) := by decide +kernel
theorem dX2_isTurnedRound_12 : decode cX2_isTurnedRound 12 = .ok (.iconst 0, 1) := by decide +kernel
theorem dX2_isTurnedRound_13 : decode cX2_isTurnedRound 13 = .ok (.iaload, 1) := by decide +kernel
theorem dX2_isTurnedRound_14 : decode cX2_isTurnedRound 14 = .ok (.aload_n 0, 1) := by decide +kernel
theorem dX2_isTurnedRound_15 : decode cX2_isTurnedRound 15 = .ok (.getfield 9, 3) := by decide +kernel
theorem dX2_isTurnedRound_18 : decode cX2_isTurnedRound 18 = .ok (.aload_n 0, 1) := by decide +kernel
theorem dX2_isTurnedRound_19 : decode cX2_isTurnedRound 19 = .ok (.getfield 18, 3) := by decide +kernel
theorem dX2_isTurnedRound_22 : decode cX2_isTurnedRound 22 = .ok (.iconst 1, 1) := by decide +kernel
theorem dX2_isTurnedRound_23 : decode cX2_isTurnedRound 23 = .ok (.isub, 1) := by decide +kernel
theorem dX2_isTurnedRound_24 : decode cX2_isTurnedRound 24 = .ok (.iaload, 1) := by decide +kernel
theorem dX2_isTurnedRound_25 : decode cX2_isTurnedRound 25 = .ok (.if_icmp .le 7, 3) := by decide +kernel
theorem dX2_isTurnedRound_28 : decode cX2_isTurnedRound 28 = .ok (.iconst 1, 1) := by decide +kernel
theorem dX2_isTurnedRound_29 : decode cX2_isTurnedRound 29 = .ok (.goto 4, 3) := by decide +kernel
theorem dX2_isTurnedRound_32 : decode cX2_isTurnedRound 32 = .ok (.iconst 0, 1) := by decide +kernel
theorem dX2_isTurnedRound_33 : decode cX2_isTurnedRound 33 = .ok (.ireturn, 1) := by decide +kernel
theorem dX2_advance_0 : decode cX2_advance 0 = .ok (.aload_n 0, 1) := by decide +kernel
theorem dX2_advance_1 : decode cX2_advance 1 = .ok (.getfield 18, 3) := by decide +kernel
theorem dX2_advance_4 : decode cX2_advance 4 = .ok (.iconst 2, 1) := by decide +kernel
theorem dX2_advance_5 : decode cX2_advance 5 = .ok (.isub, 1) := by decide +kernel
theorem dX2_advance_6 : decode cX2_advance 6 = .ok (.istore_n 1, 1) := by decide +kernel
theorem dX2_advance_7 : decode cX2_advance 7 = .ok (.iload_n 1, 1) := by decide +kernel
theorem dX2_advance_8 : decode cX2_advance 8 = .ok (.ifCond .lt 26, 3) := by decide +kernel
theorem dX2_advance_11 : decode cX2_advance 11 = .ok (.aload_n 0, 1) := by decide +kernel
theorem dX2_advance_12 : decode cX2_advance 12 = .ok (.getfield 9, 3) := by decide +kernel
theorem dX2_advance_15 : decode cX2_advance 15 = .ok (.iload_n 1, 1) := by decide +kernel
theorem dX2_advance_16 : decode cX2_advance 16 = .ok (.iaload, 1) := by decide +kernel
theorem dX2_advance_17 : decode cX2_advance 17 = .ok (.aload_n 0, 1) := by decide +kernel
theorem dX2_advance_18 : decode cX2_advance 18 = .ok (.getfield 9, 3) := by decide +kernel
theorem dX2_advance_21 : decode cX2_advance 21 = .ok (.iload_n 1, 1) := by decide +kernel
theorem dX2_advance_22 : decode cX2_advance 22 = .ok (.iconst 1, 1) := by decide +kernel
theorem dX2_advance_23 : decode cX2_advance 23 = .ok (.iadd, 1) := by decide +kernel
theorem dX2_advance_24 : decode cX2_advance 24 = .ok (.iaload, 1) := by decide +kernel
theorem dX2_advance_25 : decode cX2_advance 25 = .ok (.if_icmp .le 9, 3) := by decide +kernel
theorem dX2_advance_28 : decode cX2_advance 28 = .ok (.iinc 1 (-1), 3) := by decide +kernel
theorem dX2_advance_31 : decode cX2_advance 31 = .ok (.goto (-24), 3) := by decide +kernel
theorem dX2_advance_34 : decode cX2_advance 34 = .ok (.iload_n 1, 1) := by decide +kernel
theorem dX2_advance_35 : decode cX2_advance 35 = .ok (.ifCond .ge 5, 3) := by decide +kernel
theorem dX2_advance_38 : decode cX2_advance 38 = .ok (.iconst 0, 1) := by decide +kernel
theorem dX2_advance_39 : decode cX2_advance 39 = .ok (.ireturn, 1) := by decide +kernel
theorem dX2_advance_40 : decode cX2_advance 40 = .ok (.aload_n 0, 1) := by decide +kernel
theorem dX2_advance_41 : decode cX2_advance 41 = .ok (.getfield 18, 3) := by decide +kernel
theorem dX2_advance_44 : decode cX2_advance 44 = .ok (.iconst 1, 1) := by decide +kernel
theorem dX2_advance_45 : decode cX2_advance 45 = .ok (.isub, 1) := by decide +kernel
theorem dX2_advance_46 : decode cX2_advance 46 = .ok (.istore_n 2, 1) := by decide +kernel
theorem dX2_advance_47 : decode cX2_advance 47 = .ok (.iload_n 2, 1) := by decide +kernel
theorem dX2_advance_48 : decode cX2_advance 48 = .ok (.iload_n 1, 1) := by decide +kernel
theorem dX2_advance_49 : decode cX2_advance 49 = .ok (.iconst 1, 1) := by decide +kernel
theorem dX2_advance_50 : decode cX2_advance 50 = .ok (.iadd, 1) := by decide +kernel
theorem dX2_advance_51 : decode cX2_advance 51 = .ok (.if_icmp .le 24, 3) := by decide +kernel
theorem dX2_advance_54 : decode cX2_advance 54 = .ok (.aload_n 0, 1) := by decide +kernel
theorem dX2_advance_55 : decode cX2_advance 55 = .ok (.getfield 9, 3) := by decide +kernel
theorem dX2_advance_58 : decode cX2_advance 58 = .ok (.iload_n 2, 1) := by decide +kernel
theorem dX2_advance_59 : decode cX2_advance 59 = .ok (.iaload, 1) := by decide +kernel
theorem dX2_advance_60 : decode cX2_advance 60 = .ok (.aload_n 0, 1) := by decide +kernel
theorem dX2_advance_61 : decode cX2_advance 61 = .ok (.getfield 9, 3) := by decide +kernel
theorem dX2_advance_64 : decode cX2_advance 64 = .ok (.iload_n 1, 1) := by decide +kernel
theorem dX2_advance_65 : decode cX2_advance 65 = .ok (.iaload, 1) := by decide +kernel
theorem dX2_advance_66 : decode cX2_advance 66 = .ok (.if_icmp .ge 9, 3) := by decide +kernel
theorem dX2_advance_69 : decode cX2_advance 69 = .ok (.iinc 2 (-1), 3) := by decide +kernel
theorem dX2_advance_72 : decode cX2_advance 72 = .ok (.goto (-25), 3) := by decide +kernel
theorem dX2_advance_75 : decode cX2_advance 75 = .ok (.aload_n 0, 1) := by decide +kernel
theorem dX2_advance_76 : decode cX2_advance 76 = .ok (.iload_n 1, 1) := by decide +kernel
theorem dX2_advance_77 : decode cX2_advance 77 = .ok (.iload_n 2, 1) := by decide +kernel
theorem dX2_advance_78 : decode cX2_advance 78 = .ok (.invokevirtual 39, 3) := by decide +kernel
theorem dX2_advance_81 : decode cX2_advance 81 = .ok (.iload_n 1, 1) := by decide +kernel
theorem dX2_advance_82 : decode cX2_advance 82 = .ok (.iconst 1, 1) := by decide +kernel
theorem dX2_advance_83 : decode cX2_advance 83 = .ok (.iadd, 1) := by decide +kernel
theorem dX2_advance_84 : decode cX2_advance 84 = .ok (.istore_n 3, 1) := by decide +kernel
theorem dX2_advance_85 : decode cX2_advance 85 = .ok (.aload_n 0, 1) := by decide +kernel
theorem dX2_advance_86 : decode cX2_advance 86 = .ok (.getfield 18, 3) := by decide +kernel
theorem dX2_advance_89 : decode cX2_advance 89 = .ok (.iconst 1, 1) := by decide +kernel
theorem dX2_advance_90 : decode cX2_advance 90 = .ok (.isub, 1) := by decide +kernel
theorem dX2_advance_91 : decode cX2_advance 91 = .ok (.istore 4, 2) := by decide +kernel
theorem dX2_advance_93 : decode cX2_advance 93 = .ok (.iload_n 3, 1) := by decide +kernel
theorem dX2_advance_94 : decode cX2_advance 94 = .ok (.iload 4, 2) := by decide +kernel
theorem dX2_advance_96 : decode cX2_advance 96 = .ok (.if_icmp .ge 19, 3) := by decide +kernel
theorem dX2_advance_99 : decode cX2_advance 99 = .ok (.aload_n 0, 1) := by decide +kernel
theorem dX2_advance_100 : decode cX2_advance 100 = .ok (.iload_n 3, 1) := by decide +kernel
theorem dX2_advance_101 : decode cX2_advance 101 = .ok (.iload 4, 2) := by decide +kernel
theorem dX2_advance_103 : decode cX2_advance 103 = .ok (.invokevirtual 39, 3) := by decide +kernel
theorem dX2_advance_106 : decode cX2_advance 106 = .ok (.iinc 3 1, 3) := by decide +kernel
theorem dX2_advance_109 : decode cX2_advance 109 = .ok (.iinc 4 (-1), 3) := by decide +kernel
theorem dX2_advance_112 : decode cX2_advance 112 = .ok (.goto (-19), 3) := by decide +kernel
theorem dX2_advance_115 : decode cX2_advance 115 = .ok (.iconst 1, 1) := by decide +kernel
theorem dX2_advance_116 : decode cX2_advance 116 = .ok (.ireturn, 1) := by decide +kernel
theorem dX2_swap_0 : decode cX2_swap 0 = .ok (.aload_n 0, 1) := by decide +kernel
theorem dX2_swap_1 : decode cX2_swap 1 = .ok (.getfield 9, 3) := by decide +kernel
theorem dX2_swap_4 : decode cX2_swap 4 = .ok (.iload_n 1, 1) := by decide +kernel
theorem dX2_swap_5 : decode cX2_swap 5 = .ok (.iaload, 1) := by decide +kernel
theorem dX2_swap_6 : decode cX2_swap 6 = .ok (.istore_n 3, 1) := by decide +kernel
theorem dX2_swap_7 : decode cX2_swap 7 = .ok (.aload_n 0, 1) := by decide +kernel
theorem dX2_swap_8 : decode cX2_swap 8 = .ok (.getfield 9, 3) := by decide +kernel
theorem dX2_swap_11 : decode cX2_swap 11 = .ok (.iload_n 1, 1) := by decide +kernel
theorem dX2_swap_12 : decode cX2_swap 12 = .ok (.aload_n 0, 1) := by decide +kernel
theorem dX2_swap_13 : decode cX2_swap 13 = .ok (.getfield 9, 3) := by decide +kernel
theorem dX2_swap_16 : decode cX2_swap 16 = .ok (.iload_n 2, 1) := by decide +kernel
theorem dX2_swap_17 : decode cX2_swap 17 = .ok (.iaload, 1) := by decide +kernel
theorem dX2_swap_18 : decode cX2_swap 18 = .ok (.iastore, 1) := by decide +kernel
theorem dX2_swap_19 : decode cX2_swap 19 = .ok (.aload_n 0, 1) := by decide +kernel
theorem dX2_swap_20 : decode cX2_swap 20 = .ok (.getfield 9, 3) := by decide +kernel
theorem dX2_swap_23 : decode cX2_swap 23 = .ok (.iload_n 2, 1) := by decide +kernel
theorem dX2_swap_24 : decode cX2_swap 24 = .ok (.iload_n 3, 1) := by decide +kernel
theorem dX2_swap_25 : decode cX2_swap 25 = .ok (.iastore, 1) := by decide +kernel
theorem dX2_swap_26 : decode cX2_swap 26 = .ok (.return_, 1) := by decide +kernel
theorem dX3_init_0 : decode cX3_init 0 = .ok (.aload_n 0, 1) := by decide +kernel
theorem dX3_init_1 : decode cX3_init 1 = .ok (.invokespecial 3, 3) := by decide +kernel
theorem dX3_init_4 : decode cX3_init 4 = .ok (.aload_n 0, 1) := by decide +kernel
theorem dX3_init_5 : decode cX3_init 5 = .ok (.iconst 0, 1) := by decide +kernel
theorem dX3_init_6 : decode cX3_init 6 = .ok (.putfield 9, 3) := by decide +kernel
theorem dX3_init_9 : decode cX3_init 9 = .ok (.aload_n 0, 1) := by decide +kernel
theorem dX3_init_10 : decode cX3_init 10 = .ok (.bipush 6, 2) := by decide +kernel
theorem dX3_init_12 : decode cX3_init 12 = .ok (.newarray .int, 2) := by decide +kernel
theorem dX3_init_14 : decode cX3_init 14 = .ok (.putfield 15, 3) := by decide +kernel
theorem dX3_init_17 : decode cX3_init 17 = .ok (.aload_n 0, 1) := by decide +kernel
theorem dX3_init_18 : decode cX3_init 18 = .ok (.iconst 3, 1) := by decide +kernel
theorem dX3_init_19 : decode cX3_init 19 = .ok (.bipush 6, 2) := by decide +kernel
theorem dX3_init_21 : decode cX3_init 21 = .ok (.multianewarray 19 2, 4) := by decide +kernel
theorem dX3_init_25 : decode cX3_init 25 = .ok (.putfield 21, 3) := by decide +kernel
theorem dX3_init_28 : decode cX3_init 28 = .ok (.aload_n 0, 1) := by decide +kernel
theorem dX3_init_29 : decode cX3_init 29 = .ok (.bipush 6, 2) := by decide +kernel
theorem dX3_init_31 : decode cX3_init 31 = .ok (.newarray .int, 2) := by decide +kernel
theorem dX3_init_33 : decode cX3_init 33 = .ok (.putfield 24, 3) := by decide +kernel
theorem dX3_init_36 : decode cX3_init 36 = .ok (.return_, 1) := by decide +kernel
theorem dX3_takeFrom_0 : decode cX3_takeFrom 0 = .ok (.aload_n 0, 1) := by decide +kernel
theorem dX3_takeFrom_1 : decode cX3_takeFrom 1 = .ok (.aload_n 1, 1) := by decide +kernel
theorem dX3_takeFrom_2 : decode cX3_takeFrom 2 = .ok (.getfield 9, 3) := by decide +kernel
theorem dX3_takeFrom_5 : decode cX3_takeFrom 5 = .ok (.putfield 9, 3) := by decide +kernel
theorem dX3_takeFrom_8 : decode cX3_takeFrom 8 = .ok (.iconst 0, 1) := by decide +kernel
theorem dX3_takeFrom_9 : decode cX3_takeFrom 9 = .ok (.istore_n 2, 1) := by decide +kernel
theorem dX3_takeFrom_10 : decode cX3_takeFrom 10 = .ok (.iload_n 2, 1) := by decide +kernel
theorem dX3_takeFrom_11 : decode cX3_takeFrom 11 = .ok (.bipush 6, 2) := by decide +kernel
theorem dX3_takeFrom_13 : decode cX3_takeFrom 13 = .ok (.if_icmp .ge 62, 3) := by decide +kernel
theorem dX3_takeFrom_16 : decode cX3_takeFrom 16 = .ok (.aload_n 0, 1) := by decide +kernel
theorem dX3_takeFrom_17 : decode cX3_takeFrom 17 = .ok (.getfield 15, 3) := by decide +kernel
theorem dX3_takeFrom_20 : decode cX3_takeFrom 20 = .ok (.iload_n 2, 1) := by decide +kernel
theorem dX3_takeFrom_21 : decode cX3_takeFrom 21 = .ok (.aload_n 1, 1) := by decide +kernel
theorem dX3_takeFrom_22 : decode cX3_takeFrom 22 = .ok (.getfield 15, 3) := by decide +kernel
theorem dX3_takeFrom_25 : decode cX3_takeFrom 25 = .ok (.iload_n 2, 1) := by decide +kernel
theorem dX3_takeFrom_26 : decode cX3_takeFrom 26 = .ok (.iaload, 1) := by decide +kernel
theorem dX3_takeFrom_27 : decode cX3_takeFrom 27 = .ok (.iastore, 1) := by decide +kernel
theorem dX3_takeFrom_28 : decode cX3_takeFrom 28 = .ok (.aload_n 0, 1) := by decide +kernel
theorem dX3_takeFrom_29 : decode cX3_takeFrom 29 = .ok (.getfield 24, 3) := by decide +kernel
theorem dX3_takeFrom_32 : decode cX3_takeFrom 32 = .ok (.iload_n 2, 1) := by decide +kernel
theorem dX3_takeFrom_33 : decode cX3_takeFrom 33 = .ok (.aload_n 1, 1) := by decide +kernel
theorem dX3_takeFrom_34 : decode cX3_takeFrom 34 = .ok (.getfield 24, 3) := by decide +kernel
theorem dX3_takeFrom_37 : decode cX3_takeFrom 37 = .ok (.iload_n 2, 1) := by decide +kernel
theorem dX3_takeFrom_38 : decode cX3_takeFrom 38 = .ok (.iaload, 1) := by decide +kernel
theorem dX3_takeFrom_39 : decode cX3_takeFrom 39 = .ok (.iastore, 1) := by decide +kernel
theorem dX3_takeFrom_40 : decode cX3_takeFrom 40 = .ok (.iconst 0, 1) := by decide +kernel
theorem dX3_takeFrom_41 : decode cX3_takeFrom 41 = .ok (.istore_n 3, 1) := by decide +kernel
theorem dX3_takeFrom_42 : decode cX3_takeFrom 42 = .ok (.iload_n 3, 1) := by decide +kernel
theorem dX3_takeFrom_43 : decode cX3_takeFrom 43 = .ok (.iconst 3, 1) := by decide +kernel
theorem dX3_takeFrom_44 : decode cX3_takeFrom 44 = .ok (.if_icmp .ge 25, 3) := by decide +kernel
theorem dX3_takeFrom_47 : decode cX3_takeFrom 47 = .ok (.aload_n 0, 1) := by decide +kernel
theorem dX3_takeFrom_48 : decode cX3_takeFrom 48 = .ok (.getfield 21, 3) := by decide +kernel
theorem dX3_takeFrom_51 : decode cX3_takeFrom 51 = .ok (.iload_n 3, 1) := by decide +kernel
theorem dX3_takeFrom_52 : decode cX3_takeFrom 52 = .ok (.aaload, 1) := by decide +kernel
theorem dX3_takeFrom_53 : decode cX3_takeFrom 53 = .ok (.iload_n 2, 1) := by decide +kernel
theorem dX3_takeFrom_54 : decode cX3_takeFrom 54 = .ok (.aload_n 1, 1) := by decide +kernel
theorem dX3_takeFrom_55 : decode cX3_takeFrom 55 = .ok (.getfield 21, 3) := by decide +kernel
theorem dX3_takeFrom_58 : decode cX3_takeFrom 58 = .ok (.iload_n 3, 1) := by decide +kernel
theorem dX3_takeFrom_59 : decode cX3_takeFrom 59 = .ok (.aaload, 1) := by decide +kernel
theorem dX3_takeFrom_60 : decode cX3_takeFrom 60 = .ok (.iload_n 2, 1) := by decide +kernel
theorem dX3_takeFrom_61 : decode cX3_takeFrom 61 = .ok (.iaload, 1) := by decide +kernel
theorem dX3_takeFrom_62 : decode cX3_takeFrom 62 = .ok (.iastore, 1) := by decide +kernel
theorem dX3_takeFrom_63 : decode cX3_takeFrom 63 = .ok (.iinc 3 1, 3) := by decide +kernel
theorem dX3_takeFrom_66 : decode cX3_takeFrom 66 = .ok (.goto (-24), 3) := by decide +kernel
theorem dX3_takeFrom_69 : decode cX3_takeFrom 69 = .ok (.iinc 2 1, 3) := by decide +kernel
theorem dX3_takeFrom_72 : decode cX3_takeFrom 72 = .ok (.goto (-62), 3) := by decide +kernel
theorem dX3_takeFrom_75 : decode cX3_takeFrom 75 = .ok (.return_, 1) := by decide +kernel
theorem dX3_has_0 : decode cX3_has 0 = .ok (.iload_n 1, 1) := by decide +kernel
theorem dX3_has_1 : decode cX3_has 1 = .ok (.iconst 0, 1) := by decide +kernel
theorem dX3_has_2 : decode cX3_has 2 = .ok (.aload_n 0, 1) := by decide +kernel
theorem dX3_has_3 : decode cX3_has 3 = .ok (.getfield 9, 3) := by decide +kernel
theorem dX3_has_6 : decode cX3_has 6 = .ok (.iconst 1, 1) := by decide +kernel
theorem dX3_has_7 : decode cX3_has 7 = .ok (.isub, 1) := by decide +kernel
theorem dX3_has_8 : decode cX3_has 8 = .ok (.invokestatic 27, 3) := by decide +kernel
theorem dX3_has_11 : decode cX3_has 11 = .ok (.ireturn, 1) := by decide +kernel
theorem dX3_isTaken_0 : decode cX3_isTaken 0 = .ok (.iconst 0, 1) := by decide +kernel
theorem dX3_isTaken_1 : decode cX3_isTaken 1 = .ok (.istore_n 3, 1) := by decide +kernel
theorem dX3_isTaken_2 : decode cX3_isTaken 2 = .ok (.iload_n 3, 1) := by decide +kernel
theorem dX3_isTaken_3 : decode cX3_isTaken 3 = .ok (.aload_n 0, 1) := by decide +kernel
theorem dX3_isTaken_4 : decode cX3_isTaken 4 = .ok (.getfield 9, 3) := by decide +kernel
theorem dX3_isTaken_7 : decode cX3_isTaken 7 = .ok (.if_icmp .ge 23, 3) := by decide +kernel
theorem dX3_isTaken_10 : decode cX3_isTaken 10 = .ok (.aload_n 0, 1) := by decide +kernel
theorem dX3_isTaken_11 : decode cX3_isTaken 11 = .ok (.getfield 21, 3) := by decide +kernel
theorem dX3_isTaken_14 : decode cX3_isTaken 14 = .ok (.iload_n 1, 1) := by decide +kernel
theorem dX3_isTaken_15 : decode cX3_isTaken 15 = .ok (.aaload, 1) := by decide +kernel
theorem dX3_isTaken_16 : decode cX3_isTaken 16 = .ok (.iload_n 3, 1) := by decide +kernel
theorem dX3_isTaken_17 : decode cX3_isTaken 17 = .ok (.iaload, 1) := by decide +kernel
theorem dX3_isTaken_18 : decode cX3_isTaken 18 = .ok (.iload_n 2, 1) := by decide +kernel
theorem dX3_isTaken_19 : decode cX3_isTaken 19 = .ok (.if_icmp .ne 5, 3) := by decide +kernel
theorem dX3_isTaken_22 : decode cX3_isTaken 22 = .ok (.iconst 1, 1) := by decide +kernel
theorem dX3_isTaken_23 : decode cX3_isTaken 23 = .ok (.ireturn, 1) := by decide +kernel
theorem dX3_isTaken_24 : decode cX3_isTaken 24 = .ok (.iinc 3 1, 3) := by decide +kernel
theorem dX3_isTaken_27 : decode cX3_isTaken 27 = .ok (.goto (-25), 3) := by decide +kernel
theorem dX3_isTaken_30 : decode cX3_isTaken 30 = .ok (.iconst 0, 1) := by decide +kernel
theorem dX3_isTaken_31 : decode cX3_isTaken 31 = .ok (.ireturn, 1) := by decide +kernel
theorem dX3_isTakenAtAnyHour_0 : decode cX3_isTakenAtAnyHour 0 = .ok (.iconst 0, 1) := by decide +kernel
theorem dX3_isTakenAtAnyHour_1 : decode cX3_isTakenAtAnyHour 1 = .ok (.istore_n 2, 1) := by decide +kernel
theorem dX3_isTakenAtAnyHour_2 : decode cX3_isTakenAtAnyHour 2 = .ok (.iload_n 2, 1) := by decide +kernel
theorem dX3_isTakenAtAnyHour_3 : decode cX3_isTakenAtAnyHour 3 = .ok (.iconst 3, 1) := by decide +kernel
theorem dX3_isTakenAtAnyHour_4 : decode cX3_isTakenAtAnyHour 4 = .ok (.if_icmp .ge 20, 3) := by decide +kernel
theorem dX3_isTakenAtAnyHour_7 : decode cX3_isTakenAtAnyHour 7 = .ok (.aload_n 0, 1) := by decide +kernel
theorem dX3_isTakenAtAnyHour_8 : decode cX3_isTakenAtAnyHour 8 = .ok (.iload_n 2, 1) := by decide +kernel
theorem dX3_isTakenAtAnyHour_9 : decode cX3_isTakenAtAnyHour 9 = .ok (.iload_n 1, 1) := by decide +kernel
theorem dX3_isTakenAtAnyHour_10 : decode cX3_isTakenAtAnyHour 10 = .ok (.invokevirtual 31, 3) := by decide +kernel
theorem dX3_isTakenAtAnyHour_13 : decode cX3_isTakenAtAnyHour 13 = .ok (.ifCond .eq 5, 3) := by decide +kernel
theorem dX3_isTakenAtAnyHour_16 : decode cX3_isTakenAtAnyHour 16 = .ok (.iconst 1, 1) := by decide +kernel
theorem dX3_isTakenAtAnyHour_17 : decode cX3_isTakenAtAnyHour 17 = .ok (.ireturn, 1) := by decide +kernel
theorem dX3_isTakenAtAnyHour_18 : decode cX3_isTakenAtAnyHour 18 = .ok (.iinc 2 1, 3) := by decide +kernel
theorem dX3_isTakenAtAnyHour_21 : decode cX3_isTakenAtAnyHour 21 = .ok (.goto (-19), 3) := by decide +kernel
theorem dX3_isTakenAtAnyHour_24 : decode cX3_isTakenAtAnyHour 24 = .ok (.iconst 0, 1) := by decide +kernel
theorem dX3_isTakenAtAnyHour_25 : decode cX3_isTakenAtAnyHour 25 = .ok (.ireturn, 1) := by decide +kernel
theorem dX3_placeNext_0 : decode cX3_placeNext 0 = .ok (.aload_n 0, 1) := by decide +kernel
theorem dX3_placeNext_1 : decode cX3_placeNext 1 = .ok (.getfield 9, 3) := by decide +kernel
theorem dX3_placeNext_4 : decode cX3_placeNext 4 = .ok (.bipush 6, 2) := by decide +kernel
theorem dX3_placeNext_6 : decode cX3_placeNext 6 = .ok (.if_icmp .ge 15, 3) := by decide +kernel
theorem dX3_placeNext_9 : decode cX3_placeNext 9 = .ok (.aload_n 0, 1) := by decide +kernel
theorem dX3_placeNext_10 : decode cX3_placeNext 10 = .ok (.getfield 21, 3) := by decide +kernel
theorem dX3_placeNext_13 : decode cX3_placeNext 13 = .ok (.iload_n 1, 1) := by decide +kernel
theorem dX3_placeNext_14 : decode cX3_placeNext 14 = .ok (.aaload, 1) := by decide +kernel
theorem dX3_placeNext_15 : decode cX3_placeNext 15 = .ok (.aload_n 0, 1) := by decide +kernel
theorem dX3_placeNext_16 : decode cX3_placeNext 16 = .ok (.getfield 9, 3) := by decide +kernel
theorem dX3_placeNext_19 : decode cX3_placeNext 19 = .ok (.iload_n 2, 1) := by decide +kernel
theorem dX3_placeNext_20 : decode cX3_placeNext 20 = .ok (.iastore, 1) := by decide +kernel
theorem dX3_placeNext_21 : decode cX3_placeNext 21 = .ok (.return_, 1) := by decide +kernel
theorem dX3_placeNextByNumber_0 : decode cX3_placeNextByNumber 0 = .ok (.iconst 0, 1) := by decide +kernel
theorem dX3_placeNextByNumber_1 : decode cX3_placeNextByNumber 1 = .ok (.istore_n 1, 1) := by decide +kernel
theorem dX3_placeNextByNumber_2 : decode cX3_placeNextByNumber 2 = .ok (.iload_n 1, 1) := by decide +kernel
theorem dX3_placeNextByNumber_3 : decode cX3_placeNextByNumber 3 = .ok (.iconst 3, 1) := by decide +kernel
theorem dX3_placeNextByNumber_4 : decode cX3_placeNextByNumber 4 = .ok (.if_icmp .ge 18, 3) := by decide +kernel
theorem dX3_placeNextByNumber_7 : decode cX3_placeNextByNumber 7 = .ok (.aload_n 0, 1) := by decide +kernel
theorem dX3_placeNextByNumber_8 : decode cX3_placeNextByNumber 8 = .ok (.iload_n 1, 1) := by decide +kernel
theorem dX3_placeNextByNumber_9 : decode cX3_placeNextByNumber 9 = .ok (.aload_n 0, 1) := by decide +kernel
theorem dX3_placeNextByNumber_10 : decode cX3_placeNextByNumber 10 = .ok (.getfield 9, 3) := by decide +kernel
theorem dX3_placeNextByNumber_13 : decode cX3_placeNextByNumber 13 = .ok (.invokevirtual 35, 3) := by decide +kernel
theorem dX3_placeNextByNumber_16 : decode cX3_placeNextByNumber 16 = .ok (.iinc 1 1, 3) := by decide +kernel
theorem dX3_placeNextByNumber_19 : decode cX3_placeNextByNumber 19 = .ok (.goto (-17), 3) := by decide +kernel
theorem dX3_placeNextByNumber_22 : decode cX3_placeNextByNumber 22 = .ok (.return_, 1) := by decide +kernel
theorem dX3_adm_0 : decode cX3_adm 0 = .ok (.aload_n 0, 1) := by decide +kernel
theorem dX3_adm_1 : decode cX3_adm 1 = .ok (.getfield 9, 3) := by decide +kernel
theorem dX3_adm_4 : decode cX3_adm 4 = .ok (.bipush 6, 2) := by decide +kernel
theorem dX3_adm_6 : decode cX3_adm 6 = .ok (.if_icmp .ge 23, 3) := by decide +kernel
theorem dX3_adm_9 : decode cX3_adm 9 = .ok (.aload_n 0, 1) := by decide +kernel
theorem dX3_adm_10 : decode cX3_adm 10 = .ok (.getfield 15, 3) := by decide +kernel
theorem dX3_adm_13 : decode cX3_adm 13 = .ok (.aload_n 0, 1) := by decide +kernel
theorem dX3_adm_14 : decode cX3_adm 14 = .ok (.getfield 9, 3) := by decide +kernel
theorem dX3_adm_17 : decode cX3_adm 17 = .ok (.iload_n 1, 1) := by decide +kernel
theorem dX3_adm_18 : decode cX3_adm 18 = .ok (.iastore, 1) := by decide +kernel
theorem dX3_adm_19 : decode cX3_adm 19 = .ok (.aload_n 0, 1) := by decide +kernel
theorem dX3_adm_20 : decode cX3_adm 20 = .ok (.dup, 1) := by decide +kernel
theorem dX3_adm_21 : decode cX3_adm 21 = .ok (.getfield 9, 3) := by decide +kernel
theorem dX3_adm_24 : decode cX3_adm 24 = .ok (.iconst 1, 1) := by decide +kernel
theorem dX3_adm_25 : decode cX3_adm 25 = .ok (.iadd, 1) := by decide +kernel
theorem dX3_adm_26 : decode cX3_adm 26 = .ok (.putfield 9, 3) := by decide +kernel
theorem dX3_adm_29 : decode cX3_adm 29 = .ok (.return_, 1) := by decide +kernel
theorem dX3_findWhoStoodBy_0 : decode cX3_findWhoStoodBy 0 = .ok (.iconst 0, 1) := by decide +kernel
theorem dX3_findWhoStoodBy_1 : decode cX3_findWhoStoodBy 1 = .ok (.istore_n 1, 1) := by decide +kernel
theorem dX3_findWhoStoodBy_2 : decode cX3_findWhoStoodBy 2 = .ok (.iload_n 1, 1) := by decide +kernel
theorem dX3_findWhoStoodBy_3 : decode cX3_findWhoStoodBy 3 = .ok (.aload_n 0, 1) := by decide +kernel
theorem dX3_findWhoStoodBy_4 : decode cX3_findWhoStoodBy 4 = .ok (.getfield 9, 3) := by decide +kernel
theorem dX3_findWhoStoodBy_7 : decode cX3_findWhoStoodBy 7 = .ok (.if_icmp .ge 58, 3) := by decide +kernel
theorem dX3_findWhoStoodBy_10 : decode cX3_findWhoStoodBy 10 = .ok (.aload_n 0, 1) := by decide +kernel
theorem dX3_findWhoStoodBy_11 : decode cX3_findWhoStoodBy 11 = .ok (.getfield 24, 3) := by decide +kernel
theorem dX3_findWhoStoodBy_14 : decode cX3_findWhoStoodBy 14 = .ok (.iload_n 1, 1) := by decide +kernel
theorem dX3_findWhoStoodBy_15 : decode cX3_findWhoStoodBy 15 = .ok (.iconst 0, 1) := by decide +kernel
theorem dX3_findWhoStoodBy_16 : decode cX3_findWhoStoodBy 16 = .ok (.iastore, 1) := by decide +kernel
theorem dX3_findWhoStoodBy_17 : decode cX3_findWhoStoodBy 17 = .ok (.iconst 0, 1) := by decide +kernel
theorem dX3_findWhoStoodBy_18 : decode cX3_findWhoStoodBy 18 = .ok (.istore_n 2, 1) := by decide +kernel
theorem dX3_findWhoStoodBy_19 : decode cX3_findWhoStoodBy 19 = .ok (.iload_n 2, 1) := by decide +kernel
theorem dX3_findWhoStoodBy_20 : decode cX3_findWhoStoodBy 20 = .ok (.aload_n 0, 1) := by decide +kernel
theorem dX3_findWhoStoodBy_21 : decode cX3_findWhoStoodBy 21 = .ok (.getfield 9, 3) := by decide +kernel
theorem dX3_findWhoStoodBy_24 : decode cX3_findWhoStoodBy 24 = .ok (.if_icmp .ge 35, 3) := by decide +kernel
theorem dX3_findWhoStoodBy_27 : decode cX3_findWhoStoodBy 27 = .ok (.iload_n 2, 1) := by decide +kernel
theorem dX3_findWhoStoodBy_28 : decode cX3_findWhoStoodBy 28 = .ok (.iload_n 1, 1) := by decide +kernel
theorem dX3_findWhoStoodBy_29 : decode cX3_findWhoStoodBy 29 = .ok (.if_icmp .eq 24, 3) := by decide +kernel
theorem dX3_findWhoStoodBy_32 : decode cX3_findWhoStoodBy 32 = .ok (.aload_n 0, 1) := by decide +kernel
theorem dX3_findWhoStoodBy_33 : decode cX3_findWhoStoodBy 33 = .ok (.iload_n 1, 1) := by decide +kernel
theorem dX3_findWhoStoodBy_34 : decode cX3_findWhoStoodBy 34 = .ok (.iload_n 2, 1) := by decide +kernel
theorem dX3_findWhoStoodBy_35 : decode cX3_findWhoStoodBy 35 = .ok (.invokevirtual 39, 3) := by decide +kernel
theorem dX3_findWhoStoodBy_38 : decode cX3_findWhoStoodBy 38 = .ok (.ifCond .eq 15, 3) := by decide +kernel
theorem dX3_findWhoStoodBy_41 : decode cX3_findWhoStoodBy 41 = .ok (.aload_n 0, 1) := by decide +kernel
theorem dX3_findWhoStoodBy_42 : decode cX3_findWhoStoodBy 42 = .ok (.getfield 24, 3) := by decide +kernel
theorem dX3_findWhoStoodBy_45 : decode cX3_findWhoStoodBy 45 = .ok (.iload_n 1, 1) := by decide +kernel
theorem dX3_findWhoStoodBy_46 : decode cX3_findWhoStoodBy 46 = .ok (.dup2, 1) := by decide +kernel
theorem dX3_findWhoStoodBy_47 : decode cX3_findWhoStoodBy 47 = .ok (.iaload, 1) := by decide +kernel
theorem dX3_findWhoStoodBy_48 : decode cX3_findWhoStoodBy 48 = .ok (.iconst 1, 1) := by decide +kernel
theorem dX3_findWhoStoodBy_49 : decode cX3_findWhoStoodBy 49 = .ok (.iload_n 2, 1) := by decide +kernel
theorem dX3_findWhoStoodBy_50 : decode cX3_findWhoStoodBy 50 = .ok (.ishl, 1) := by decide +kernel
theorem dX3_findWhoStoodBy_51 : decode cX3_findWhoStoodBy 51 = .ok (.ior, 1) := by decide +kernel
theorem dX3_findWhoStoodBy_52 : decode cX3_findWhoStoodBy 52 = .ok (.iastore, 1) := by decide +kernel
theorem dX3_findWhoStoodBy_53 : decode cX3_findWhoStoodBy 53 = .ok (.iinc 2 1, 3) := by decide +kernel
theorem dX3_findWhoStoodBy_56 : decode cX3_findWhoStoodBy 56 = .ok (.goto (-37), 3) := by decide +kernel
theorem dX3_findWhoStoodBy_59 : decode cX3_findWhoStoodBy 59 = .ok (.iinc 1 1, 3) := by decide +kernel
theorem dX3_findWhoStoodBy_62 : decode cX3_findWhoStoodBy 62 = .ok (.goto (-60), 3) := by decide +kernel
theorem dX3_findWhoStoodBy_65 : decode cX3_findWhoStoodBy 65 = .ok (.return_, 1) := by decide +kernel
theorem dX3_wereTogether_0 : decode cX3_wereTogether 0 = .ok (.iconst 0, 1) := by decide +kernel
theorem dX3_wereTogether_1 : decode cX3_wereTogether 1 = .ok (.istore_n 3, 1) := by decide +kernel
theorem dX3_wereTogether_2 : decode cX3_wereTogether 2 = .ok (.iload_n 3, 1) := by decide +kernel
theorem dX3_wereTogether_3 : decode cX3_wereTogether 3 = .ok (.iconst 3, 1) := by decide +kernel
theorem dX3_wereTogether_4 : decode cX3_wereTogether 4 = .ok (.if_icmp .ge 40, 3) := by decide +kernel
theorem dX3_wereTogether_7 : decode cX3_wereTogether 7 = .ok (.aload_n 0, 1) := by decide +kernel
theorem dX3_wereTogether_8 : decode cX3_wereTogether 8 = .ok (.aload_n 0, 1) := by decide +kernel
theorem dX3_wereTogether_9 : decode cX3_wereTogether 9 = .ok (.getfield 21, 3) := by decide +kernel
theorem dX3_wereTogether_12 : decode cX3_wereTogether 12 = .ok (.iload_n 3, 1) := by decide +kernel
theorem dX3_wereTogether_13 : decode cX3_wereTogether 13 = .ok (.aaload, 1) := by decide +kernel
theorem dX3_wereTogether_14 : decode cX3_wereTogether 14 = .ok (.aload_n 0, 1) := by decide +kernel
theorem dX3_wereTogether_15 : decode cX3_wereTogether 15 = .ok (.getfield 21, 3) := by decide +kernel
theorem dX3_wereTogether_18 : decode cX3_wereTogether 18 = .ok (.iload_n 3, 1) := by decide +kernel
theorem dX3_wereTogether_19 : decode cX3_wereTogether 19 = .ok (.aaload, 1) := by decide +kernel
theorem dX3_wereTogether_20 : decode cX3_wereTogether 20 = .ok (.iload_n 1, 1) := by decide +kernel
theorem dX3_wereTogether_21 : decode cX3_wereTogether 21 = .ok (.iaload, 1) := by decide +kernel
theorem dX3_wereTogether_22 : decode cX3_wereTogether 22 = .ok (.aload_n 0, 1) := by decide +kernel
theorem dX3_wereTogether_23 : decode cX3_wereTogether 23 = .ok (.getfield 21, 3) := by decide +kernel
theorem dX3_wereTogether_26 : decode cX3_wereTogether 26 = .ok (.iload_n 3, 1) := by decide +kernel
theorem dX3_wereTogether_27 : decode cX3_wereTogether 27 = .ok (.aaload, 1) := by decide +kernel
theorem dX3_wereTogether_28 : decode cX3_wereTogether 28 = .ok (.iload_n 2, 1) := by decide +kernel
theorem dX3_wereTogether_29 : decode cX3_wereTogether 29 = .ok (.iaload, 1) := by decide +kernel
theorem dX3_wereTogether_30 : decode cX3_wereTogether 30 = .ok (.invokevirtual 42, 3) := by decide +kernel
theorem dX3_wereTogether_33 : decode cX3_wereTogether 33 = .ok (.ifCond .eq 5, 3) := by decide +kernel
theorem dX3_wereTogether_36 : decode cX3_wereTogether 36 = .ok (.iconst 1, 1) := by decide +kernel
theorem dX3_wereTogether_37 : decode cX3_wereTogether 37 = .ok (.ireturn, 1) := by decide +kernel
theorem dX3_wereTogether_38 : decode cX3_wereTogether 38 = .ok (.iinc 3 1, 3) := by decide +kernel
theorem dX3_wereTogether_41 : decode cX3_wereTogether 41 = .ok (.goto (-39), 3) := by decide +kernel
theorem dX3_wereTogether_44 : decode cX3_wereTogether 44 = .ok (.iconst 0, 1) := by decide +kernel
theorem dX3_wereTogether_45 : decode cX3_wereTogether 45 = .ok (.ireturn, 1) := by decide +kernel
theorem dX3_isNobodyBetween_0 : decode cX3_isNobodyBetween 0 = .ok (.iload_n 2, 1) := by decide +kernel
theorem dX3_isNobodyBetween_1 : decode cX3_isNobodyBetween 1 = .ok (.iload_n 3, 1) := by decide +kernel
theorem dX3_isNobodyBetween_2 : decode cX3_isNobodyBetween 2 = .ok (.invokestatic 46, 3) := by decide +kernel
theorem dX3_isNobodyBetween_5 : decode cX3_isNobodyBetween 5 = .ok (.istore 4, 2) := by decide +kernel
theorem dX3_isNobodyBetween_7 : decode cX3_isNobodyBetween 7 = .ok (.iload_n 2, 1) := by decide +kernel
theorem dX3_isNobodyBetween_8 : decode cX3_isNobodyBetween 8 = .ok (.iload_n 3, 1) := by decide +kernel
theorem dX3_isNobodyBetween_9 : decode cX3_isNobodyBetween 9 = .ok (.invokestatic 52, 3) := by decide +kernel
theorem dX3_isNobodyBetween_12 : decode cX3_isNobodyBetween 12 = .ok (.istore 5, 2) := by decide +kernel
theorem dX3_isNobodyBetween_14 : decode cX3_isNobodyBetween 14 = .ok (.iconst 0, 1) := by decide +kernel
theorem dX3_isNobodyBetween_15 : decode cX3_isNobodyBetween 15 = .ok (.istore 6, 2) := by decide +kernel
theorem dX3_isNobodyBetween_17 : decode cX3_isNobodyBetween 17 = .ok (.iload 6, 2) := by decide +kernel
theorem dX3_isNobodyBetween_19 : decode cX3_isNobodyBetween 19 = .ok (.aload_n 0, 1) := by decide +kernel
theorem dX3_isNobodyBetween_20 : decode cX3_isNobodyBetween 20 = .ok (.getfield 9, 3) := by decide +kernel
theorem dX3_isNobodyBetween_23 : decode cX3_isNobodyBetween 23 = .ok (.if_icmp .ge 29, 3) := by decide +kernel
theorem dX3_isNobodyBetween_26 : decode cX3_isNobodyBetween 26 = .ok (.aload_n 1, 1) := by decide +kernel
theorem dX3_isNobodyBetween_27 : decode cX3_isNobodyBetween 27 = .ok (.iload 6, 2) := by decide +kernel
theorem dX3_isNobodyBetween_29 : decode cX3_isNobodyBetween 29 = .ok (.iaload, 1) := by decide +kernel
theorem dX3_isNobodyBetween_30 : decode cX3_isNobodyBetween 30 = .ok (.iload 4, 2) := by decide +kernel
theorem dX3_isNobodyBetween_32 : decode cX3_isNobodyBetween 32 = .ok (.if_icmp .le 14, 3) := by decide +kernel
theorem dX3_isNobodyBetween_35 : decode cX3_isNobodyBetween 35 = .ok (.aload_n 1, 1) := by decide +kernel
theorem dX3_isNobodyBetween_36 : decode cX3_isNobodyBetween 36 = .ok (.iload 6, 2) := by decide +kernel
theorem dX3_isNobodyBetween_38 : decode cX3_isNobodyBetween 38 = .ok (.iaload, 1) := by decide +kernel
theorem dX3_isNobodyBetween_39 : decode cX3_isNobodyBetween 39 = .ok (.iload 5, 2) := by decide +kernel
theorem dX3_isNobodyBetween_41 : decode cX3_isNobodyBetween 41 = .ok (.if_icmp .ge 5, 3) := by decide +kernel
theorem dX3_isNobodyBetween_44 : decode cX3_isNobodyBetween 44 = .ok (.iconst 0, 1) := by decide +kernel
theorem dX3_isNobodyBetween_45 : decode cX3_isNobodyBetween 45 = .ok (.ireturn, 1) := by decide +kernel
theorem dX3_isNobodyBetween_46 : decode cX3_isNobodyBetween 46 = .ok (.iinc 6 1, 3) := by decide +kernel
theorem dX3_isNobodyBetween_49 : decode cX3_isNobodyBetween 49 = .ok (.goto (-32), 3) := by decide +kernel
theorem dX3_isNobodyBetween_52 : decode cX3_isNobodyBetween 52 = .ok (.iconst 1, 1) := by decide +kernel
theorem dX3_isNobodyBetween_53 : decode cX3_isNobodyBetween 53 = .ok (.ireturn, 1) := by decide +kernel
theorem dX3_wrongPairs_0 : decode cX3_wrongPairs 0 = .ok (.iconst 0, 1) := by decide +kernel
theorem dX3_wrongPairs_1 : decode cX3_wrongPairs 1 = .ok (.istore_n 3, 1) := by decide +kernel
theorem dX3_wrongPairs_2 : decode cX3_wrongPairs 2 = .ok (.iconst 1, 1) := by decide +kernel
theorem dX3_wrongPairs_3 : decode cX3_wrongPairs 3 = .ok (.istore 4, 2) := by decide +kernel
theorem dX3_wrongPairs_5 : decode cX3_wrongPairs 5 = .ok (.iload 4, 2) := by decide +kernel
theorem dX3_wrongPairs_7 : decode cX3_wrongPairs 7 = .ok (.iload_n 2, 1) := by decide +kernel
theorem dX3_wrongPairs_8 : decode cX3_wrongPairs 8 = .ok (.if_icmp .ge 33, 3) := by decide +kernel
theorem dX3_wrongPairs_11 : decode cX3_wrongPairs 11 = .ok (.aload_n 0, 1) := by decide +kernel
theorem dX3_wrongPairs_12 : decode cX3_wrongPairs 12 = .ok (.getfield 24, 3) := by decide +kernel
theorem dX3_wrongPairs_15 : decode cX3_wrongPairs 15 = .ok (.aload_n 1, 1) := by decide +kernel
theorem dX3_wrongPairs_16 : decode cX3_wrongPairs 16 = .ok (.iload 4, 2) := by decide +kernel
theorem dX3_wrongPairs_18 : decode cX3_wrongPairs 18 = .ok (.iconst 1, 1) := by decide +kernel
theorem dX3_wrongPairs_19 : decode cX3_wrongPairs 19 = .ok (.isub, 1) := by decide +kernel
theorem dX3_wrongPairs_20 : decode cX3_wrongPairs 20 = .ok (.iaload, 1) := by decide +kernel
theorem dX3_wrongPairs_21 : decode cX3_wrongPairs 21 = .ok (.iaload, 1) := by decide +kernel
theorem dX3_wrongPairs_22 : decode cX3_wrongPairs 22 = .ok (.aload_n 1, 1) := by decide +kernel
theorem dX3_wrongPairs_23 : decode cX3_wrongPairs 23 = .ok (.iload 4, 2) := by decide +kernel
theorem dX3_wrongPairs_25 : decode cX3_wrongPairs 25 = .ok (.iaload, 1) := by decide +kernel
theorem dX3_wrongPairs_26 : decode cX3_wrongPairs 26 = .ok (.invokestatic 55, 3) := by decide +kernel
theorem dX3_wrongPairs_29 : decode cX3_wrongPairs 29 = .ok (.ifCond .ne 6, 3) := by decide +kernel
theorem dX3_wrongPairs_32 : decode cX3_wrongPairs 32 = .ok (.iinc 3 1, 3) := by decide +kernel
theorem dX3_wrongPairs_35 : decode cX3_wrongPairs 35 = .ok (.iinc 4 1, 3) := by decide +kernel
theorem dX3_wrongPairs_38 : decode cX3_wrongPairs 38 = .ok (.goto (-33), 3) := by decide +kernel
theorem dX3_wrongPairs_41 : decode cX3_wrongPairs 41 = .ok (.iload_n 3, 1) := by decide +kernel
theorem dX3_wrongPairs_42 : decode cX3_wrongPairs 42 = .ok (.ireturn, 1) := by decide +kernel
theorem dX3_lossOf_0 : decode cX3_lossOf 0 = .ok (.aload_n 0, 1) := by decide +kernel
theorem dX3_lossOf_1 : decode cX3_lossOf 1 = .ok (.getfield 15, 3) := by decide +kernel
theorem dX3_lossOf_4 : decode cX3_lossOf 4 = .ok (.iload_n 1, 1) := by decide +kernel
theorem dX3_lossOf_5 : decode cX3_lossOf 5 = .ok (.iaload, 1) := by decide +kernel
theorem dX3_lossOf_6 : decode cX3_lossOf 6 = .ok (.tableswitch 84 0 4 #[84, 34, 40, 42, 63], 34) := by decide +kernel
theorem dX3_lossOf_40 : decode cX3_lossOf 40 = .ok (.aload_n 0, 1) := by decide +kernel
theorem dX3_lossOf_41 : decode cX3_lossOf 41 = .ok (.iload_n 2, 1) := by decide +kernel
theorem dX3_lossOf_42 : decode cX3_lossOf 42 = .ok (.invokevirtual 58, 3) := by decide +kernel
theorem dX3_lossOf_45 : decode cX3_lossOf 45 = .ok (.ireturn, 1) := by decide +kernel
theorem dX3_lossOf_46 : decode cX3_lossOf 46 = .ok (.iconst 4, 1) := by decide +kernel
theorem dX3_lossOf_47 : decode cX3_lossOf 47 = .ok (.ireturn, 1) := by decide +kernel
theorem dX3_lossOf_48 : decode cX3_lossOf 48 = .ok (.aload_n 0, 1) := by decide +kernel
theorem dX3_lossOf_49 : decode cX3_lossOf 49 = .ok (.iload_n 2, 1) := by decide +kernel
theorem dX3_lossOf_50 : decode cX3_lossOf 50 = .ok (.invokevirtual 58, 3) := by decide +kernel
theorem dX3_lossOf_53 : decode cX3_lossOf 53 = .ok (.iload_n 3, 1) := by decide +kernel
theorem dX3_lossOf_54 : decode cX3_lossOf 54 = .ok (.ifCond .eq 8, 3) := by decide +kernel
theorem dX3_lossOf_57 : decode cX3_lossOf 57 = .ok (.iload 4, 2) := by decide +kernel
theorem dX3_lossOf_59 : decode cX3_lossOf 59 = .ok (.ifCond .ne 7, 3) := by decide +kernel
theorem dX3_lossOf_62 : decode cX3_lossOf 62 = .ok (.iconst 1, 1) := by decide +kernel
theorem dX3_lossOf_63 : decode cX3_lossOf 63 = .ok (.goto 4, 3) := by decide +kernel
theorem dX3_lossOf_66 : decode cX3_lossOf 66 = .ok (.iconst 0, 1) := by decide +kernel
theorem dX3_lossOf_67 : decode cX3_lossOf 67 = .ok (.iadd, 1) := by decide +kernel
theorem dX3_lossOf_68 : decode cX3_lossOf 68 = .ok (.ireturn, 1) := by decide +kernel
theorem dX3_lossOf_69 : decode cX3_lossOf 69 = .ok (.iconst 0, 1) := by decide +kernel
theorem dX3_lossOf_70 : decode cX3_lossOf 70 = .ok (.iconst 4, 1) := by decide +kernel
theorem dX3_lossOf_71 : decode cX3_lossOf 71 = .ok (.aload_n 0, 1) := by decide +kernel
theorem dX3_lossOf_72 : decode cX3_lossOf 72 = .ok (.getfield 24, 3) := by decide +kernel
theorem dX3_lossOf_75 : decode cX3_lossOf 75 = .ok (.iload_n 1, 1) := by decide +kernel
theorem dX3_lossOf_76 : decode cX3_lossOf 76 = .ok (.iaload, 1) := by decide +kernel
theorem dX3_lossOf_77 : decode cX3_lossOf 77 = .ok (.iload_n 3, 1) := by decide +kernel
theorem dX3_lossOf_78 : decode cX3_lossOf 78 = .ok (.iload 4, 2) := by decide +kernel
theorem dX3_lossOf_80 : decode cX3_lossOf 80 = .ok (.ior, 1) := by decide +kernel
theorem dX3_lossOf_81 : decode cX3_lossOf 81 = .ok (.iand, 1) := by decide +kernel
theorem dX3_lossOf_82 : decode cX3_lossOf 82 = .ok (.invokestatic 62, 3) := by decide +kernel
theorem dX3_lossOf_85 : decode cX3_lossOf 85 = .ok (.isub, 1) := by decide +kernel
theorem dX3_lossOf_86 : decode cX3_lossOf 86 = .ok (.invokestatic 52, 3) := by decide +kernel
theorem dX3_lossOf_89 : decode cX3_lossOf 89 = .ok (.ireturn, 1) := by decide +kernel
theorem dX3_lossOf_90 : decode cX3_lossOf 90 = .ok (.iconst 2, 1) := by decide +kernel
theorem dX3_lossOf_91 : decode cX3_lossOf 91 = .ok (.ireturn, 1) := by decide +kernel
theorem dX3_lossOfHale_0 : decode cX3_lossOfHale 0 = .ok (.iload_n 1, 1) := by decide +kernel
theorem dX3_lossOfHale_1 : decode cX3_lossOfHale 1 = .ok (.iconst 2, 1) := by decide +kernel
theorem dX3_lossOfHale_2 : decode cX3_lossOfHale 2 = .ok (.irem, 1) := by decide +kernel
theorem dX3_lossOfHale_3 : decode cX3_lossOfHale 3 = .ok (.ifCond .ne 7, 3) := by decide +kernel
theorem dX3_lossOfHale_6 : decode cX3_lossOfHale 6 = .ok (.iconst 2, 1) := by decide +kernel
theorem dX3_lossOfHale_7 : decode cX3_lossOfHale 7 = .ok (.goto 4, 3) := by decide +kernel
theorem dX3_lossOfHale_10 : decode cX3_lossOfHale 10 = .ok (.iconst 0, 1) := by decide +kernel
theorem dX3_lossOfHale_11 : decode cX3_lossOfHale 11 = .ok (.ireturn, 1) := by decide +kernel
theorem dX4_init_0 : decode cX4_init 0 = .ok (.aload_n 0, 1) := by decide +kernel
theorem dX4_init_1 : decode cX4_init 1 = .ok (.invokespecial 3, 3) := by decide +kernel
theorem dX4_init_4 : decode cX4_init 4 = .ok (.aload_n 0, 1) := by decide +kernel
theorem dX4_init_5 : decode cX4_init 5 = .ok (.iconst 0, 1) := by decide +kernel
theorem dX4_init_6 : decode cX4_init 6 = .ok (.putfield 9, 3) := by decide +kernel
theorem dX4_init_9 : decode cX4_init 9 = .ok (.aload_n 0, 1) := by decide +kernel
theorem dX4_init_10 : decode cX4_init 10 = .ok (.iconst 0, 1) := by decide +kernel
theorem dX4_init_11 : decode cX4_init 11 = .ok (.putfield 15, 3) := by decide +kernel
theorem dX4_init_14 : decode cX4_init 14 = .ok (.aload_n 0, 1) := by decide +kernel
theorem dX4_init_15 : decode cX4_init 15 = .ok (.iconst 0, 1) := by decide +kernel
theorem dX4_init_16 : decode cX4_init 16 = .ok (.putfield 19, 3) := by decide +kernel
theorem dX4_init_19 : decode cX4_init 19 = .ok (.aload_n 0, 1) := by decide +kernel
theorem dX4_init_20 : decode cX4_init 20 = .ok (.bipush 24, 2) := by decide +kernel
theorem dX4_init_22 : decode cX4_init 22 = .ok (.newarray .long, 2) := by decide +kernel
theorem dX4_init_24 : decode cX4_init 24 = .ok (.putfield 22, 3) := by decide +kernel
theorem dX4_init_27 : decode cX4_init 27 = .ok (.return_, 1) := by decide +kernel
theorem dX4_renew_0 : decode cX4_renew 0 = .ok (.aload_n 0, 1) := by decide +kernel
theorem dX4_renew_1 : decode cX4_renew 1 = .ok (.iconst 1, 1) := by decide +kernel
theorem dX4_renew_2 : decode cX4_renew 2 = .ok (.putfield 9, 3) := by decide +kernel
theorem dX4_renew_5 : decode cX4_renew 5 = .ok (.aload_n 0, 1) := by decide +kernel
theorem dX4_renew_6 : decode cX4_renew 6 = .ok (.iload_n 1, 1) := by decide +kernel
theorem dX4_renew_7 : decode cX4_renew 7 = .ok (.putfield 15, 3) := by decide +kernel
theorem dX4_renew_10 : decode cX4_renew 10 = .ok (.aload_n 0, 1) := by decide +kernel
theorem dX4_renew_11 : decode cX4_renew 11 = .ok (.iload_n 2, 1) := by decide +kernel
theorem dX4_renew_12 : decode cX4_renew 12 = .ok (.putfield 19, 3) := by decide +kernel
theorem dX4_renew_15 : decode cX4_renew 15 = .ok (.iconst 0, 1) := by decide +kernel
theorem dX4_renew_16 : decode cX4_renew 16 = .ok (.istore_n 3, 1) := by decide +kernel
theorem dX4_renew_17 : decode cX4_renew 17 = .ok (.iload_n 3, 1) := by decide +kernel
theorem dX4_renew_18 : decode cX4_renew 18 = .ok (.bipush 24, 2) := by decide +kernel
theorem dX4_renew_20 : decode cX4_renew 20 = .ok (.if_icmp .ge 16, 3) := by decide +kernel
theorem dX4_renew_23 : decode cX4_renew 23 = .ok (.aload_n 0, 1) := by decide +kernel
theorem dX4_renew_24 : decode cX4_renew 24 = .ok (.getfield 22, 3) := by decide +kernel
theorem dX4_renew_27 : decode cX4_renew 27 = .ok (.iload_n 3, 1) := by decide +kernel
theorem dX4_renew_28 : decode cX4_renew 28 = .ok (.lconst 0, 1) := by decide +kernel
theorem dX4_renew_29 : decode cX4_renew 29 = .ok (.lastore, 1) := by decide +kernel
theorem dX4_renew_30 : decode cX4_renew 30 = .ok (.iinc 3 1, 3) := by decide +kernel
theorem dX4_renew_33 : decode cX4_renew 33 = .ok (.goto (-16), 3) := by decide +kernel
theorem dX4_renew_36 : decode cX4_renew 36 = .ok (.return_, 1) := by decide +kernel
theorem dX4_spans_0 : decode cX4_spans 0 = .ok (.iload_n 1, 1) := by decide +kernel
theorem dX4_spans_1 : decode cX4_spans 1 = .ok (.ifCond .lt 21, 3) := by decide +kernel
theorem dX4_spans_4 : decode cX4_spans 4 = .ok (.iload_n 2, 1) := by decide +kernel
theorem dX4_spans_5 : decode cX4_spans 5 = .ok (.ifCond .lt 17, 3) := by decide +kernel
theorem dX4_spans_8 : decode cX4_spans 8 = .ok (.iload_n 1, 1) := by decide +kernel
theorem dX4_spans_9 : decode cX4_spans 9 = .ok (.aload_n 0, 1) := by decide +kernel
theorem dX4_spans_10 : decode cX4_spans 10 = .ok (.getfield 19, 3) := by decide +kernel
theorem dX4_spans_13 : decode cX4_spans 13 = .ok (.iload_n 2, 1) := by decide +kernel
theorem dX4_spans_14 : decode cX4_spans 14 = .ok (.isub, 1) := by decide +kernel
theorem dX4_spans_15 : decode cX4_spans 15 = .ok (.if_icmp .gt 7, 3) := by decide +kernel
theorem dX4_spans_18 : decode cX4_spans 18 = .ok (.iconst 1, 1) := by decide +kernel
theorem dX4_spans_19 : decode cX4_spans 19 = .ok (.goto 4, 3) := by decide +kernel
theorem dX4_spans_22 : decode cX4_spans 22 = .ok (.iconst 0, 1) := by decide +kernel
theorem dX4_spans_23 : decode cX4_spans 23 = .ok (.ireturn, 1) := by decide +kernel
theorem dX4_refusalOf_0 : decode cX4_refusalOf 0 = .ok (.aload_n 0, 1) := by decide +kernel
theorem dX4_refusalOf_1 : decode cX4_refusalOf 1 = .ok (.getfield 9, 3) := by decide +kernel
theorem dX4_refusalOf_4 : decode cX4_refusalOf 4 = .ok (.ifCond .ne 6, 3) := by decide +kernel
theorem dX4_refusalOf_7 : decode cX4_refusalOf 7 = .ok (.bipush (-11), 2) := by decide +kernel
theorem dX4_refusalOf_9 : decode cX4_refusalOf 9 = .ok (.ireturn, 1) := by decide +kernel
theorem dX4_refusalOf_10 : decode cX4_refusalOf 10 = .ok (.aload_n 0, 1) := by decide +kernel
theorem dX4_refusalOf_11 : decode cX4_refusalOf 11 = .ok (.getfield 15, 3) := by decide +kernel
theorem dX4_refusalOf_14 : decode cX4_refusalOf 14 = .ok (.iload_n 1, 1) := by decide +kernel
theorem dX4_refusalOf_15 : decode cX4_refusalOf 15 = .ok (.if_icmp .eq 6, 3) := by decide +kernel
theorem dX4_refusalOf_18 : decode cX4_refusalOf 18 = .ok (.bipush (-12), 2) := by decide +kernel
theorem dX4_refusalOf_20 : decode cX4_refusalOf 20 = .ok (.ireturn, 1) := by decide +kernel
theorem dX4_refusalOf_21 : decode cX4_refusalOf 21 = .ok (.aload_n 0, 1) := by decide +kernel
theorem dX4_refusalOf_22 : decode cX4_refusalOf 22 = .ok (.iload_n 2, 1) := by decide +kernel
theorem dX4_refusalOf_23 : decode cX4_refusalOf 23 = .ok (.iload_n 3, 1) := by decide +kernel
theorem dX4_refusalOf_24 : decode cX4_refusalOf 24 = .ok (.invokevirtual 26, 3) := by decide +kernel
theorem dX4_refusalOf_27 : decode cX4_refusalOf 27 = .ok (.ifCond .eq 7, 3) := by decide +kernel
theorem dX4_refusalOf_30 : decode cX4_refusalOf 30 = .ok (.iconst 0, 1) := by decide +kernel
theorem dX4_refusalOf_31 : decode cX4_refusalOf 31 = .ok (.goto 5, 3) := by decide +kernel
theorem dX4_refusalOf_34 : decode cX4_refusalOf 34 = .ok (.bipush (-13), 2) := by decide +kernel
theorem dX4_refusalOf_36 : decode cX4_refusalOf 36 = .ok (.ireturn, 1) := by decide +kernel
theorem dX4_put_0 : decode cX4_put 0 = .ok (.iload_n 1, 1) := by decide +kernel
theorem dX4_put_1 : decode cX4_put 1 = .ok (.iconst 0, 1) := by decide +kernel
theorem dX4_put_2 : decode cX4_put 2 = .ok (.aload_n 0, 1) := by decide +kernel
theorem dX4_put_3 : decode cX4_put 3 = .ok (.getfield 19, 3) := by decide +kernel
theorem dX4_put_6 : decode cX4_put 6 = .ok (.iconst 1, 1) := by decide +kernel
theorem dX4_put_7 : decode cX4_put 7 = .ok (.isub, 1) := by decide +kernel
theorem dX4_put_8 : decode cX4_put 8 = .ok (.invokestatic 30, 3) := by decide +kernel
theorem dX4_put_11 : decode cX4_put 11 = .ok (.ifCond .eq 14, 3) := by decide +kernel
theorem dX4_put_14 : decode cX4_put 14 = .ok (.aload_n 0, 1) := by decide +kernel
theorem dX4_put_15 : decode cX4_put 15 = .ok (.getfield 22, 3) := by decide +kernel
theorem dX4_put_18 : decode cX4_put 18 = .ok (.iload_n 1, 1) := by decide +kernel
theorem dX4_put_19 : decode cX4_put 19 = .ok (.aload_n 0, 1) := by decide +kernel
theorem dX4_put_20 : decode cX4_put 20 = .ok (.lload_n 2, 1) := by decide +kernel
theorem dX4_put_21 : decode cX4_put 21 = .ok (.invokevirtual 34, 3) := by decide +kernel
theorem dX4_put_24 : decode cX4_put 24 = .ok (.lastore, 1) := by decide +kernel
theorem dX4_put_25 : decode cX4_put 25 = .ok (.return_, 1) := by decide +kernel
theorem dX4_cut_0 : decode cX4_cut 0 = .ok (.aload_n 0, 1) := by decide +kernel
theorem dX4_cut_1 : decode cX4_cut 1 = .ok (.getfield 15, 3) := by decide +kernel
theorem dX4_cut_4 : decode cX4_cut 4 = .ok (.tableswitch 42 0 2 #[28, 33, 38], 28) := by decide +kernel
theorem dX4_cut_32 : decode cX4_cut 32 = .ok (.lload_n 1, 1) := by decide +kernel
theorem dX4_cut_33 : decode cX4_cut 33 = .ok (.l2i, 1) := by decide +kernel
theorem dX4_cut_34 : decode cX4_cut 34 = .ok (.i2b, 1) := by decide +kernel
theorem dX4_cut_35 : decode cX4_cut 35 = .ok (.i2l, 1) := by decide +kernel
theorem dX4_cut_36 : decode cX4_cut 36 = .ok (.lreturn, 1) := by decide +kernel
theorem dX4_cut_37 : decode cX4_cut 37 = .ok (.lload_n 1, 1) := by decide +kernel
theorem dX4_cut_38 : decode cX4_cut 38 = .ok (.l2i, 1) := by decide +kernel
theorem dX4_cut_39 : decode cX4_cut 39 = .ok (.i2s, 1) := by decide +kernel
theorem dX4_cut_40 : decode cX4_cut 40 = .ok (.i2l, 1) := by decide +kernel
theorem dX4_cut_41 : decode cX4_cut 41 = .ok (.lreturn, 1) := by decide +kernel
theorem dX4_cut_42 : decode cX4_cut 42 = .ok (.lload_n 1, 1) := by decide +kernel
theorem dX4_cut_43 : decode cX4_cut 43 = .ok (.l2i, 1) := by decide +kernel
theorem dX4_cut_44 : decode cX4_cut 44 = .ok (.i2l, 1) := by decide +kernel
theorem dX4_cut_45 : decode cX4_cut 45 = .ok (.lreturn, 1) := by decide +kernel
theorem dX4_cut_46 : decode cX4_cut 46 = .ok (.lload_n 1, 1) := by decide +kernel
theorem dX4_cut_47 : decode cX4_cut 47 = .ok (.lreturn, 1) := by decide +kernel
theorem dX5_init_0 : decode cX5_init 0 = .ok (.aload_n 0, 1) := by decide +kernel
theorem dX5_init_1 : decode cX5_init 1 = .ok (.invokespecial 1, 3) := by decide +kernel
theorem dX5_init_4 : decode cX5_init 4 = .ok (.aload_n 0, 1) := by decide +kernel
theorem dX5_init_5 : decode cX5_init 5 = .ok (.new 7, 3) := by decide +kernel
theorem dX5_init_8 : decode cX5_init 8 = .ok (.dup, 1) := by decide +kernel
theorem dX5_init_9 : decode cX5_init 9 = .ok (.invokespecial 9, 3) := by decide +kernel
theorem dX5_init_12 : decode cX5_init 12 = .ok (.putfield 10, 3) := by decide +kernel
theorem dX5_init_15 : decode cX5_init 15 = .ok (.aload_n 0, 1) := by decide +kernel
theorem dX5_init_16 : decode cX5_init 16 = .ok (.new 16, 3) := by decide +kernel
theorem dX5_init_19 : decode cX5_init 19 = .ok (.dup, 1) := by decide +kernel
theorem dX5_init_20 : decode cX5_init 20 = .ok (.invokespecial 18, 3) := by decide +kernel
theorem dX5_init_23 : decode cX5_init 23 = .ok (.putfield 19, 3) := by decide +kernel
theorem dX5_init_26 : decode cX5_init 26 = .ok (.aload_n 0, 1) := by decide +kernel
theorem dX5_init_27 : decode cX5_init 27 = .ok (.new 23, 3) := by decide +kernel
theorem dX5_init_30 : decode cX5_init 30 = .ok (.dup, 1) := by decide +kernel
theorem dX5_init_31 : decode cX5_init 31 = .ok (.invokespecial 25, 3) := by decide +kernel
theorem dX5_init_34 : decode cX5_init 34 = .ok (.putfield 26, 3) := by decide +kernel
theorem dX5_init_37 : decode cX5_init 37 = .ok (.return_, 1) := by decide +kernel
theorem dX5_takeFrom_0 : decode cX5_takeFrom 0 = .ok (.aload_n 0, 1) := by decide +kernel
theorem dX5_takeFrom_1 : decode cX5_takeFrom 1 = .ok (.getfield 10, 3) := by decide +kernel
theorem dX5_takeFrom_4 : decode cX5_takeFrom 4 = .ok (.aload_n 1, 1) := by decide +kernel
theorem dX5_takeFrom_5 : decode cX5_takeFrom 5 = .ok (.getfield 10, 3) := by decide +kernel
theorem dX5_takeFrom_8 : decode cX5_takeFrom 8 = .ok (.invokevirtual 30, 3) := by decide +kernel
theorem dX5_takeFrom_11 : decode cX5_takeFrom 11 = .ok (.aload_n 0, 1) := by decide +kernel
theorem dX5_takeFrom_12 : decode cX5_takeFrom 12 = .ok (.getfield 19, 3) := by decide +kernel
theorem dX5_takeFrom_15 : decode cX5_takeFrom 15 = .ok (.aload_n 1, 1) := by decide +kernel
theorem dX5_takeFrom_16 : decode cX5_takeFrom 16 = .ok (.getfield 19, 3) := by decide +kernel
theorem dX5_takeFrom_19 : decode cX5_takeFrom 19 = .ok (.invokevirtual 34, 3) := by decide +kernel
theorem dX5_takeFrom_22 : decode cX5_takeFrom 22 = .ok (.aload_n 0, 1) := by decide +kernel
theorem dX5_takeFrom_23 : decode cX5_takeFrom 23 = .ok (.getfield 26, 3) := by decide +kernel
theorem dX5_takeFrom_26 : decode cX5_takeFrom 26 = .ok (.aload_n 1, 1) := by decide +kernel
theorem dX5_takeFrom_27 : decode cX5_takeFrom 27 = .ok (.getfield 26, 3) := by decide +kernel
theorem dX5_takeFrom_30 : decode cX5_takeFrom 30 = .ok (.invokevirtual 37, 3) := by decide +kernel
theorem dX5_takeFrom_33 : decode cX5_takeFrom 33 = .ok (.return_, 1) := by decide +kernel
theorem dX6_init_0 : decode cX6_init 0 = .ok (.aload_n 0, 1) := by decide +kernel
theorem dX6_init_1 : decode cX6_init 1 = .ok (.invokespecial 3, 3) := by decide +kernel
theorem dX6_init_4 : decode cX6_init 4 = .ok (.aload_n 0, 1) := by decide +kernel
theorem dX6_init_5 : decode cX6_init 5 = .ok (.bipush 70, 2) := by decide +kernel
theorem dX6_init_7 : decode cX6_init 7 = .ok (.newarray .char, 2) := by decide +kernel
theorem dX6_init_9 : decode cX6_init 9 = .ok (.putfield 9, 3) := by decide +kernel
theorem dX6_init_12 : decode cX6_init 12 = .ok (.aload_n 0, 1) := by decide +kernel
theorem dX6_init_13 : decode cX6_init 13 = .ok (.iconst 0, 1) := by decide +kernel
theorem dX6_init_14 : decode cX6_init 14 = .ok (.putfield 15, 3) := by decide +kernel
theorem dX6_init_17 : decode cX6_init 17 = .ok (.aload_n 0, 1) := by decide +kernel
theorem dX6_init_18 : decode cX6_init 18 = .ok (.new 19, 3) := by decide +kernel
theorem dX6_init_21 : decode cX6_init 21 = .ok (.dup, 1) := by decide +kernel
theorem dX6_init_22 : decode cX6_init 22 = .ok (.invokespecial 21, 3) := by decide +kernel
theorem dX6_init_25 : decode cX6_init 25 = .ok (.putfield 22, 3) := by decide +kernel
theorem dX6_init_28 : decode cX6_init 28 = .ok (.aload_n 0, 1) := by decide +kernel
theorem dX6_init_29 : decode cX6_init 29 = .ok (.bipush 6, 2) := by decide +kernel
theorem dX6_init_31 : decode cX6_init 31 = .ok (.newarray .int, 2) := by decide +kernel
theorem dX6_init_33 : decode cX6_init 33 = .ok (.putfield 26, 3) := by decide +kernel
theorem dX6_init_36 : decode cX6_init 36 = .ok (.aload_n 0, 1) := by decide +kernel
theorem dX6_init_37 : decode cX6_init 37 = .ok (.iconst 0, 1) := by decide +kernel
theorem dX6_init_38 : decode cX6_init 38 = .ok (.putfield 30, 3) := by decide +kernel
theorem dX6_init_41 : decode cX6_init 41 = .ok (.aload_n 0, 1) := by decide +kernel
theorem dX6_init_42 : decode cX6_init 42 = .ok (.iconst 0, 1) := by decide +kernel
theorem dX6_init_43 : decode cX6_init 43 = .ok (.putfield 33, 3) := by decide +kernel
theorem dX6_init_46 : decode cX6_init 46 = .ok (.return_, 1) := by decide +kernel
theorem dX6_add_0 : decode cX6_add 0 = .ok (.aload_n 0, 1) := by decide +kernel
theorem dX6_add_1 : decode cX6_add 1 = .ok (.getfield 15, 3) := by decide +kernel
theorem dX6_add_4 : decode cX6_add 4 = .ok (.bipush 70, 2) := by decide +kernel
theorem dX6_add_6 : decode cX6_add 6 = .ok (.if_icmp .ge 23, 3) := by decide +kernel
theorem dX6_add_9 : decode cX6_add 9 = .ok (.aload_n 0, 1) := by decide +kernel
theorem dX6_add_10 : decode cX6_add 10 = .ok (.getfield 9, 3) := by decide +kernel
theorem dX6_add_13 : decode cX6_add 13 = .ok (.aload_n 0, 1) := by decide +kernel
theorem dX6_add_14 : decode cX6_add 14 = .ok (.getfield 15, 3) := by decide +kernel
theorem dX6_add_17 : decode cX6_add 17 = .ok (.iload_n 1, 1) := by decide +kernel
theorem dX6_add_18 : decode cX6_add 18 = .ok (.castore, 1) := by decide +kernel
theorem dX6_add_19 : decode cX6_add 19 = .ok (.aload_n 0, 1) := by decide +kernel
theorem dX6_add_20 : decode cX6_add 20 = .ok (.dup, 1) := by decide +kernel
theorem dX6_add_21 : decode cX6_add 21 = .ok (.getfield 15, 3) := by decide +kernel
theorem dX6_add_24 : decode cX6_add 24 = .ok (.iconst 1, 1) := by decide +kernel
theorem dX6_add_25 : decode cX6_add 25 = .ok (.iadd, 1) := by decide +kernel
theorem dX6_add_26 : decode cX6_add 26 = .ok (.putfield 15, 3) := by decide +kernel
theorem dX6_add_29 : decode cX6_add 29 = .ok (.return_, 1) := by decide +kernel
theorem dX6_readBench_0 : decode cX6_readBench 0 = .ok (.aload_n 0, 1) := by decide +kernel
theorem dX6_readBench_1 : decode cX6_readBench 1 = .ok (.iconst 0, 1) := by decide +kernel
theorem dX6_readBench_2 : decode cX6_readBench 2 = .ok (.putfield 30, 3) := by decide +kernel
theorem dX6_readBench_5 : decode cX6_readBench 5 = .ok (.aload_n 0, 1) := by decide +kernel
theorem dX6_readBench_6 : decode cX6_readBench 6 = .ok (.iconst 0, 1) := by decide +kernel
theorem dX6_readBench_7 : decode cX6_readBench 7 = .ok (.putfield 33, 3) := by decide +kernel
theorem dX6_readBench_10 : decode cX6_readBench 10 = .ok (.aload_n 0, 1) := by decide +kernel
theorem dX6_readBench_11 : decode cX6_readBench 11 = .ok (.getfield 22, 3) := by decide +kernel
theorem dX6_readBench_14 : decode cX6_readBench 14 = .ok (.iconst 0, 1) := by decide +kernel
theorem dX6_readBench_15 : decode cX6_readBench 15 = .ok (.putfield 36, 3) := by decide +kernel
theorem dX6_readBench_18 : decode cX6_readBench 18 = .ok (.iconst 0, 1) := by decide +kernel
theorem dX6_readBench_19 : decode cX6_readBench 19 = .ok (.istore_n 1, 1) := by decide +kernel
theorem dX6_readBench_20 : decode cX6_readBench 20 = .ok (.iload_n 1, 1) := by decide +kernel
theorem dX6_readBench_21 : decode cX6_readBench 21 = .ok (.bipush 6, 2) := by decide +kernel
theorem dX6_readBench_23 : decode cX6_readBench 23 = .ok (.if_icmp .ge 30, 3) := by decide +kernel
theorem dX6_readBench_26 : decode cX6_readBench 26 = .ok (.aload_n 0, 1) := by decide +kernel
theorem dX6_readBench_27 : decode cX6_readBench 27 = .ok (.invokevirtual 39, 3) := by decide +kernel
theorem dX6_readBench_30 : decode cX6_readBench 30 = .ok (.aload_n 0, 1) := by decide +kernel
theorem dX6_readBench_31 : decode cX6_readBench 31 = .ok (.getfield 33, 3) := by decide +kernel
theorem dX6_readBench_34 : decode cX6_readBench 34 = .ok (.ifCond .ne 19, 3) := by decide +kernel
theorem dX6_readBench_37 : decode cX6_readBench 37 = .ok (.aload_n 0, 1) := by decide +kernel
theorem dX6_readBench_38 : decode cX6_readBench 38 = .ok (.invokevirtual 42, 3) := by decide +kernel
theorem dX6_readBench_41 : decode cX6_readBench 41 = .ok (.ifCond .ne 6, 3) := by decide +kernel
theorem dX6_readBench_44 : decode cX6_readBench 44 = .ok (.goto 9, 3) := by decide +kernel
theorem dX6_readBench_47 : decode cX6_readBench 47 = .ok (.iinc 1 1, 3) := by decide +kernel
theorem dX6_readBench_50 : decode cX6_readBench 50 = .ok (.goto (-30), 3) := by decide +kernel
theorem dX6_readBench_53 : decode cX6_readBench 53 = .ok (.aload_n 0, 1) := by decide +kernel
theorem dX6_readBench_54 : decode cX6_readBench 54 = .ok (.getfield 33, 3) := by decide +kernel
theorem dX6_readBench_57 : decode cX6_readBench 57 = .ok (.ireturn, 1) := by decide +kernel
theorem dX6_readMan_0 : decode cX6_readMan 0 = .ok (.aload_n 0, 1) := by decide +kernel
theorem dX6_readMan_1 : decode cX6_readMan 1 = .ok (.invokevirtual 46, 3) := by decide +kernel
theorem dX6_readMan_4 : decode cX6_readMan 4 = .ok (.aload_n 0, 1) := by decide +kernel
theorem dX6_readMan_5 : decode cX6_readMan 5 = .ok (.getfield 30, 3) := by decide +kernel
theorem dX6_readMan_8 : decode cX6_readMan 8 = .ok (.istore_n 1, 1) := by decide +kernel
theorem dX6_readMan_9 : decode cX6_readMan 9 = .ok (.ldc 49, 2) := by decide +kernel
theorem dX6_readMan_11 : decode cX6_readMan 11 = .ok (.aload_n 0, 1) := by decide +kernel
theorem dX6_readMan_12 : decode cX6_readMan 12 = .ok (.invokevirtual 51, 3) := by decide +kernel
theorem dX6_readMan_15 : decode cX6_readMan 15 = .ok (.invokevirtual 55, 3) := by decide +kernel
theorem dX6_readMan_18 : decode cX6_readMan 18 = .ok (.istore_n 2, 1) := by decide +kernel
theorem dX6_readMan_19 : decode cX6_readMan 19 = .ok (.iload_n 2, 1) := by decide +kernel
theorem dX6_readMan_20 : decode cX6_readMan 20 = .ok (.ifCond .ge 12, 3) := by decide +kernel
theorem dX6_readMan_23 : decode cX6_readMan 23 = .ok (.aload_n 0, 1) := by decide +kernel
theorem dX6_readMan_24 : decode cX6_readMan 24 = .ok (.aload_n 0, 1) := by decide +kernel
theorem dX6_readMan_25 : decode cX6_readMan 25 = .ok (.getfield 30, 3) := by decide +kernel
theorem dX6_readMan_28 : decode cX6_readMan 28 = .ok (.invokevirtual 61, 3) := by decide +kernel
theorem dX6_readMan_31 : decode cX6_readMan 31 = .ok (.return_, 1) := by decide +kernel
theorem dX6_readMan_32 : decode cX6_readMan 32 = .ok (.aload_n 0, 1) := by decide +kernel
theorem dX6_readMan_33 : decode cX6_readMan 33 = .ok (.dup, 1) := by decide +kernel
theorem dX6_readMan_34 : decode cX6_readMan 34 = .ok (.getfield 30, 3) := by decide +kernel
theorem dX6_readMan_37 : decode cX6_readMan 37 = .ok (.iconst 1, 1) := by decide +kernel
theorem dX6_readMan_38 : decode cX6_readMan 38 = .ok (.iadd, 1) := by decide +kernel
theorem dX6_readMan_39 : decode cX6_readMan 39 = .ok (.putfield 30, 3) := by decide +kernel
theorem dX6_readMan_42 : decode cX6_readMan 42 = .ok (.aload_n 0, 1) := by decide +kernel
theorem dX6_readMan_43 : decode cX6_readMan 43 = .ok (.invokevirtual 65, 3) := by decide +kernel
theorem dX6_readMan_46 : decode cX6_readMan 46 = .ok (.istore_n 3, 1) := by decide +kernel
theorem dX6_readMan_47 : decode cX6_readMan 47 = .ok (.aload_n 0, 1) := by decide +kernel
theorem dX6_readMan_48 : decode cX6_readMan 48 = .ok (.getfield 33, 3) := by decide +kernel
theorem dX6_readMan_51 : decode cX6_readMan 51 = .ok (.ifCond .eq 4, 3) := by decide +kernel
theorem dX6_readMan_54 : decode cX6_readMan 54 = .ok (.return_, 1) := by decide +kernel
theorem dX6_readMan_55 : decode cX6_readMan 55 = .ok (.aload_n 0, 1) := by decide +kernel
theorem dX6_readMan_56 : decode cX6_readMan 56 = .ok (.invokevirtual 46, 3) := by decide +kernel
theorem dX6_readMan_59 : decode cX6_readMan 59 = .ok (.aload_n 0, 1) := by decide +kernel
theorem dX6_readMan_60 : decode cX6_readMan 60 = .ok (.invokevirtual 51, 3) := by decide +kernel
theorem dX6_readMan_63 : decode cX6_readMan 63 = .ok (.bipush 46, 2) := by decide +kernel
theorem dX6_readMan_65 : decode cX6_readMan 65 = .ok (.if_icmp .ne 20, 3) := by decide +kernel
theorem dX6_readMan_68 : decode cX6_readMan 68 = .ok (.aload_n 0, 1) := by decide +kernel
theorem dX6_readMan_69 : decode cX6_readMan 69 = .ok (.dup, 1) := by decide +kernel
theorem dX6_readMan_70 : decode cX6_readMan 70 = .ok (.getfield 30, 3) := by decide +kernel
theorem dX6_readMan_73 : decode cX6_readMan 73 = .ok (.iconst 1, 1) := by decide +kernel
theorem dX6_readMan_74 : decode cX6_readMan 74 = .ok (.iadd, 1) := by decide +kernel
theorem dX6_readMan_75 : decode cX6_readMan 75 = .ok (.putfield 30, 3) := by decide +kernel
theorem dX6_readMan_78 : decode cX6_readMan 78 = .ok (.aload_n 0, 1) := by decide +kernel
theorem dX6_readMan_79 : decode cX6_readMan 79 = .ok (.invokevirtual 69, 3) := by decide +kernel
theorem dX6_readMan_82 : decode cX6_readMan 82 = .ok (.goto 35, 3) := by decide +kernel
theorem dX6_readMan_85 : decode cX6_readMan 85 = .ok (.aload_n 0, 1) := by decide +kernel
theorem dX6_readMan_86 : decode cX6_readMan 86 = .ok (.getfield 22, 3) := by decide +kernel
theorem dX6_readMan_89 : decode cX6_readMan 89 = .ok (.aload_n 0, 1) := by decide +kernel
theorem dX6_readMan_90 : decode cX6_readMan 90 = .ok (.getfield 22, 3) := by decide +kernel
theorem dX6_readMan_93 : decode cX6_readMan 93 = .ok (.getfield 36, 3) := by decide +kernel
theorem dX6_readMan_96 : decode cX6_readMan 96 = .ok (.invokevirtual 72, 3) := by decide +kernel
theorem dX6_readMan_99 : decode cX6_readMan 99 = .ok (.ifCond .eq 11, 3) := by decide +kernel
theorem dX6_readMan_102 : decode cX6_readMan 102 = .ok (.aload_n 0, 1) := by decide +kernel
theorem dX6_readMan_103 : decode cX6_readMan 103 = .ok (.iload_n 1, 1) := by decide +kernel
theorem dX6_readMan_104 : decode cX6_readMan 104 = .ok (.invokevirtual 61, 3) := by decide +kernel
theorem dX6_readMan_107 : decode cX6_readMan 107 = .ok (.goto 10, 3) := by decide +kernel
theorem dX6_readMan_110 : decode cX6_readMan 110 = .ok (.aload_n 0, 1) := by decide +kernel
theorem dX6_readMan_111 : decode cX6_readMan 111 = .ok (.getfield 22, 3) := by decide +kernel
theorem dX6_readMan_114 : decode cX6_readMan 114 = .ok (.invokevirtual 76, 3) := by decide +kernel
theorem dX6_readMan_117 : decode cX6_readMan 117 = .ok (.aload_n 0, 1) := by decide +kernel
theorem dX6_readMan_118 : decode cX6_readMan 118 = .ok (.getfield 33, 3) := by decide +kernel
theorem dX6_readMan_121 : decode cX6_readMan 121 = .ok (.ifCond .ne 36, 3) := by decide +kernel
theorem dX6_readMan_124 : decode cX6_readMan 124 = .ok (.aload_n 0, 1) := by decide +kernel
theorem dX6_readMan_125 : decode cX6_readMan 125 = .ok (.getfield 22, 3) := by decide +kernel
theorem dX6_readMan_128 : decode cX6_readMan 128 = .ok (.getfield 36, 3) := by decide +kernel
theorem dX6_readMan_131 : decode cX6_readMan 131 = .ok (.bipush 6, 2) := by decide +kernel
theorem dX6_readMan_133 : decode cX6_readMan 133 = .ok (.if_icmp .ge 24, 3) := by decide +kernel
theorem dX6_readMan_136 : decode cX6_readMan 136 = .ok (.aload_n 0, 1) := by decide +kernel
theorem dX6_readMan_137 : decode cX6_readMan 137 = .ok (.getfield 26, 3) := by decide +kernel
theorem dX6_readMan_140 : decode cX6_readMan 140 = .ok (.aload_n 0, 1) := by decide +kernel
theorem dX6_readMan_141 : decode cX6_readMan 141 = .ok (.getfield 22, 3) := by decide +kernel
theorem dX6_readMan_144 : decode cX6_readMan 144 = .ok (.getfield 36, 3) := by decide +kernel
theorem dX6_readMan_147 : decode cX6_readMan 147 = .ok (.iload_n 3, 1) := by decide +kernel
theorem dX6_readMan_148 : decode cX6_readMan 148 = .ok (.iastore, 1) := by decide +kernel
theorem dX6_readMan_149 : decode cX6_readMan 149 = .ok (.aload_n 0, 1) := by decide +kernel
theorem dX6_readMan_150 : decode cX6_readMan 150 = .ok (.getfield 22, 3) := by decide +kernel
theorem dX6_readMan_153 : decode cX6_readMan 153 = .ok (.iload_n 2, 1) := by decide +kernel
theorem dX6_readMan_154 : decode cX6_readMan 154 = .ok (.invokevirtual 79, 3) := by decide +kernel
theorem dX6_readMan_157 : decode cX6_readMan 157 = .ok (.return_, 1) := by decide +kernel
theorem dX6_readLife_0 : decode cX6_readLife 0 = .ok (.aload_n 0, 1) := by decide +kernel
theorem dX6_readLife_1 : decode cX6_readLife 1 = .ok (.invokevirtual 46, 3) := by decide +kernel
theorem dX6_readLife_4 : decode cX6_readLife 4 = .ok (.aload_n 0, 1) := by decide +kernel
theorem dX6_readLife_5 : decode cX6_readLife 5 = .ok (.getfield 30, 3) := by decide +kernel
theorem dX6_readLife_8 : decode cX6_readLife 8 = .ok (.istore_n 1, 1) := by decide +kernel
theorem dX6_readLife_9 : decode cX6_readLife 9 = .ok (.aload_n 0, 1) := by decide +kernel
theorem dX6_readLife_10 : decode cX6_readLife 10 = .ok (.invokevirtual 82, 3) := by decide +kernel
theorem dX6_readLife_13 : decode cX6_readLife 13 = .ok (.ifCond .ne 13, 3) := by decide +kernel
theorem dX6_readLife_16 : decode cX6_readLife 16 = .ok (.aload_n 0, 1) := by decide +kernel
theorem dX6_readLife_17 : decode cX6_readLife 17 = .ok (.aload_n 0, 1) := by decide +kernel
theorem dX6_readLife_18 : decode cX6_readLife 18 = .ok (.getfield 30, 3) := by decide +kernel
theorem dX6_readLife_21 : decode cX6_readLife 21 = .ok (.invokevirtual 61, 3) := by decide +kernel
theorem dX6_readLife_24 : decode cX6_readLife 24 = .ok (.iconst 0, 1) := by decide +kernel
theorem dX6_readLife_25 : decode cX6_readLife 25 = .ok (.ireturn, 1) := by decide +kernel
theorem dX6_readLife_26 : decode cX6_readLife 26 = .ok (.aload_n 0, 1) := by decide +kernel
theorem dX6_readLife_27 : decode cX6_readLife 27 = .ok (.invokevirtual 85, 3) := by decide +kernel
theorem dX6_readLife_30 : decode cX6_readLife 30 = .ok (.istore_n 2, 1) := by decide +kernel
theorem dX6_readLife_31 : decode cX6_readLife 31 = .ok (.aload_n 0, 1) := by decide +kernel
theorem dX6_readLife_32 : decode cX6_readLife 32 = .ok (.invokevirtual 82, 3) := by decide +kernel
theorem dX6_readLife_35 : decode cX6_readLife 35 = .ok (.ifCond .eq 13, 3) := by decide +kernel
theorem dX6_readLife_38 : decode cX6_readLife 38 = .ok (.bipush 10, 2) := by decide +kernel
theorem dX6_readLife_40 : decode cX6_readLife 40 = .ok (.iload_n 2, 1) := by decide +kernel
theorem dX6_readLife_41 : decode cX6_readLife 41 = .ok (.imul, 1) := by decide +kernel
theorem dX6_readLife_42 : decode cX6_readLife 42 = .ok (.aload_n 0, 1) := by decide +kernel
theorem dX6_readLife_43 : decode cX6_readLife 43 = .ok (.invokevirtual 85, 3) := by decide +kernel
theorem dX6_readLife_46 : decode cX6_readLife 46 = .ok (.iadd, 1) := by decide +kernel
theorem dX6_readLife_47 : decode cX6_readLife 47 = .ok (.istore_n 2, 1) := by decide +kernel
theorem dX6_readLife_48 : decode cX6_readLife 48 = .ok (.iload_n 2, 1) := by decide +kernel
theorem dX6_readLife_49 : decode cX6_readLife 49 = .ok (.iconst 1, 1) := by decide +kernel
theorem dX6_readLife_50 : decode cX6_readLife 50 = .ok (.bipush 60, 2) := by decide +kernel
theorem dX6_readLife_52 : decode cX6_readLife 52 = .ok (.invokestatic 88, 3) := by decide +kernel
theorem dX6_readLife_55 : decode cX6_readLife 55 = .ok (.ifCond .ne 8, 3) := by decide +kernel
theorem dX6_readLife_58 : decode cX6_readLife 58 = .ok (.aload_n 0, 1) := by decide +kernel
theorem dX6_readLife_59 : decode cX6_readLife 59 = .ok (.iload_n 1, 1) := by decide +kernel
theorem dX6_readLife_60 : decode cX6_readLife 60 = .ok (.invokevirtual 61, 3) := by decide +kernel
theorem dX6_readLife_63 : decode cX6_readLife 63 = .ok (.iload_n 2, 1) := by decide +kernel
theorem dX6_readLife_64 : decode cX6_readLife 64 = .ok (.ireturn, 1) := by decide +kernel
theorem dX6_readPlaces_0 : decode cX6_readPlaces 0 = .ok (.iconst 0, 1) := by decide +kernel
theorem dX6_readPlaces_1 : decode cX6_readPlaces 1 = .ok (.istore_n 1, 1) := by decide +kernel
theorem dX6_readPlaces_2 : decode cX6_readPlaces 2 = .ok (.iload_n 1, 1) := by decide +kernel
theorem dX6_readPlaces_3 : decode cX6_readPlaces 3 = .ok (.iconst 3, 1) := by decide +kernel
theorem dX6_readPlaces_4 : decode cX6_readPlaces 4 = .ok (.if_icmp .ge 59, 3) := by decide +kernel
theorem dX6_readPlaces_7 : decode cX6_readPlaces 7 = .ok (.aload_n 0, 1) := by decide +kernel
theorem dX6_readPlaces_8 : decode cX6_readPlaces 8 = .ok (.invokevirtual 46, 3) := by decide +kernel
theorem dX6_readPlaces_11 : decode cX6_readPlaces 11 = .ok (.aload_n 0, 1) := by decide +kernel
theorem dX6_readPlaces_12 : decode cX6_readPlaces 12 = .ok (.invokevirtual 82, 3) := by decide +kernel
theorem dX6_readPlaces_15 : decode cX6_readPlaces 15 = .ok (.ifCond .eq 21, 3) := by decide +kernel
theorem dX6_readPlaces_18 : decode cX6_readPlaces 18 = .ok (.aload_n 0, 1) := by decide +kernel
theorem dX6_readPlaces_19 : decode cX6_readPlaces 19 = .ok (.getfield 22, 3) := by decide +kernel
theorem dX6_readPlaces_22 : decode cX6_readPlaces 22 = .ok (.iload_n 1, 1) := by decide +kernel
theorem dX6_readPlaces_23 : decode cX6_readPlaces 23 = .ok (.aload_n 0, 1) := by decide +kernel
theorem dX6_readPlaces_24 : decode cX6_readPlaces 24 = .ok (.invokevirtual 51, 3) := by decide +kernel
theorem dX6_readPlaces_27 : decode cX6_readPlaces 27 = .ok (.bipush 48, 2) := by decide +kernel
theorem dX6_readPlaces_29 : decode cX6_readPlaces 29 = .ok (.isub, 1) := by decide +kernel
theorem dX6_readPlaces_30 : decode cX6_readPlaces 30 = .ok (.invokevirtual 92, 3) := by decide +kernel
theorem dX6_readPlaces_33 : decode cX6_readPlaces 33 = .ok (.ifCond .eq 12, 3) := by decide +kernel
theorem dX6_readPlaces_36 : decode cX6_readPlaces 36 = .ok (.aload_n 0, 1) := by decide +kernel
theorem dX6_readPlaces_37 : decode cX6_readPlaces 37 = .ok (.aload_n 0, 1) := by decide +kernel
theorem dX6_readPlaces_38 : decode cX6_readPlaces 38 = .ok (.getfield 30, 3) := by decide +kernel
theorem dX6_readPlaces_41 : decode cX6_readPlaces 41 = .ok (.invokevirtual 61, 3) := by decide +kernel
theorem dX6_readPlaces_44 : decode cX6_readPlaces 44 = .ok (.return_, 1) := by decide +kernel
theorem dX6_readPlaces_45 : decode cX6_readPlaces 45 = .ok (.aload_n 0, 1) := by decide +kernel
theorem dX6_readPlaces_46 : decode cX6_readPlaces 46 = .ok (.getfield 22, 3) := by decide +kernel
theorem dX6_readPlaces_49 : decode cX6_readPlaces 49 = .ok (.iload_n 1, 1) := by decide +kernel
theorem dX6_readPlaces_50 : decode cX6_readPlaces 50 = .ok (.aload_n 0, 1) := by decide +kernel
theorem dX6_readPlaces_51 : decode cX6_readPlaces 51 = .ok (.invokevirtual 85, 3) := by decide +kernel
theorem dX6_readPlaces_54 : decode cX6_readPlaces 54 = .ok (.invokevirtual 96, 3) := by decide +kernel
theorem dX6_readPlaces_57 : decode cX6_readPlaces 57 = .ok (.iinc 1 1, 3) := by decide +kernel
theorem dX6_readPlaces_60 : decode cX6_readPlaces 60 = .ok (.goto (-58), 3) := by decide +kernel
theorem dX6_readPlaces_63 : decode cX6_readPlaces 63 = .ok (.return_, 1) := by decide +kernel
theorem dX6_readComma_0 : decode cX6_readComma 0 = .ok (.aload_n 0, 1) := by decide +kernel
theorem dX6_readComma_1 : decode cX6_readComma 1 = .ok (.invokevirtual 46, 3) := by decide +kernel
theorem dX6_readComma_4 : decode cX6_readComma 4 = .ok (.aload_n 0, 1) := by decide +kernel
theorem dX6_readComma_5 : decode cX6_readComma 5 = .ok (.getfield 30, 3) := by decide +kernel
theorem dX6_readComma_8 : decode cX6_readComma 8 = .ok (.aload_n 0, 1) := by decide +kernel
theorem dX6_readComma_9 : decode cX6_readComma 9 = .ok (.getfield 15, 3) := by decide +kernel
theorem dX6_readComma_12 : decode cX6_readComma 12 = .ok (.if_icmp .lt 5, 3) := by decide +kernel
theorem dX6_readComma_15 : decode cX6_readComma 15 = .ok (.iconst 0, 1) := by decide +kernel
theorem dX6_readComma_16 : decode cX6_readComma 16 = .ok (.ireturn, 1) := by decide +kernel
theorem dX6_readComma_17 : decode cX6_readComma 17 = .ok (.aload_n 0, 1) := by decide +kernel
theorem dX6_readComma_18 : decode cX6_readComma 18 = .ok (.invokevirtual 51, 3) := by decide +kernel
theorem dX6_readComma_21 : decode cX6_readComma 21 = .ok (.bipush 44, 2) := by decide +kernel
theorem dX6_readComma_23 : decode cX6_readComma 23 = .ok (.if_icmp .ne 15, 3) := by decide +kernel
theorem dX6_readComma_26 : decode cX6_readComma 26 = .ok (.aload_n 0, 1) := by decide +kernel
theorem dX6_readComma_27 : decode cX6_readComma 27 = .ok (.getfield 22, 3) := by decide +kernel
theorem dX6_readComma_30 : decode cX6_readComma 30 = .ok (.getfield 36, 3) := by decide +kernel
theorem dX6_readComma_33 : decode cX6_readComma 33 = .ok (.bipush 6, 2) := by decide +kernel
theorem dX6_readComma_35 : decode cX6_readComma 35 = .ok (.if_icmp .lt 13, 3) := by decide +kernel
theorem dX6_readComma_38 : decode cX6_readComma 38 = .ok (.aload_n 0, 1) := by decide +kernel
theorem dX6_readComma_39 : decode cX6_readComma 39 = .ok (.aload_n 0, 1) := by decide +kernel
theorem dX6_readComma_40 : decode cX6_readComma 40 = .ok (.getfield 30, 3) := by decide +kernel
theorem dX6_readComma_43 : decode cX6_readComma 43 = .ok (.invokevirtual 61, 3) := by decide +kernel
theorem dX6_readComma_46 : decode cX6_readComma 46 = .ok (.iconst 0, 1) := by decide +kernel
theorem dX6_readComma_47 : decode cX6_readComma 47 = .ok (.ireturn, 1) := by decide +kernel
theorem dX6_readComma_48 : decode cX6_readComma 48 = .ok (.aload_n 0, 1) := by decide +kernel
theorem dX6_readComma_49 : decode cX6_readComma 49 = .ok (.dup, 1) := by decide +kernel
theorem dX6_readComma_50 : decode cX6_readComma 50 = .ok (.getfield 30, 3) := by decide +kernel
theorem dX6_readComma_53 : decode cX6_readComma 53 = .ok (.iconst 1, 1) := by decide +kernel
theorem dX6_readComma_54 : decode cX6_readComma 54 = .ok (.iadd, 1) := by decide +kernel
theorem dX6_readComma_55 : decode cX6_readComma 55 = .ok (.putfield 30, 3) := by decide +kernel
theorem dX6_readComma_58 : decode cX6_readComma 58 = .ok (.iconst 1, 1) := by decide +kernel
theorem dX6_readComma_59 : decode cX6_readComma 59 = .ok (.ireturn, 1) := by decide +kernel
theorem dX6_faultAt_0 : decode cX6_faultAt 0 = .ok (.aload_n 0, 1) := by decide +kernel
theorem dX6_faultAt_1 : decode cX6_faultAt 1 = .ok (.bipush (-20), 2) := by decide +kernel
theorem dX6_faultAt_3 : decode cX6_faultAt 3 = .ok (.iload_n 1, 1) := by decide +kernel
theorem dX6_faultAt_4 : decode cX6_faultAt 4 = .ok (.isub, 1) := by decide +kernel
theorem dX6_faultAt_5 : decode cX6_faultAt 5 = .ok (.putfield 33, 3) := by decide +kernel
theorem dX6_faultAt_8 : decode cX6_faultAt 8 = .ok (.return_, 1) := by decide +kernel
theorem dX6_skipBlanks_0 : decode cX6_skipBlanks 0 = .ok (.aload_n 0, 1) := by decide +kernel
theorem dX6_skipBlanks_1 : decode cX6_skipBlanks 1 = .ok (.getfield 30, 3) := by decide +kernel
theorem dX6_skipBlanks_4 : decode cX6_skipBlanks 4 = .ok (.aload_n 0, 1) := by decide +kernel
theorem dX6_skipBlanks_5 : decode cX6_skipBlanks 5 = .ok (.getfield 15, 3) := by decide +kernel
theorem dX6_skipBlanks_8 : decode cX6_skipBlanks 8 = .ok (.if_icmp .ge 25, 3) := by decide +kernel
theorem dX6_skipBlanks_11 : decode cX6_skipBlanks 11 = .ok (.aload_n 0, 1) := by decide +kernel
theorem dX6_skipBlanks_12 : decode cX6_skipBlanks 12 = .ok (.invokevirtual 51, 3) := by decide +kernel
theorem dX6_skipBlanks_15 : decode cX6_skipBlanks 15 = .ok (.bipush 32, 2) := by decide +kernel
theorem dX6_skipBlanks_17 : decode cX6_skipBlanks 17 = .ok (.if_icmp .ne 16, 3) := by decide +kernel
theorem dX6_skipBlanks_20 : decode cX6_skipBlanks 20 = .ok (.aload_n 0, 1) := by decide +kernel
theorem dX6_skipBlanks_21 : decode cX6_skipBlanks 21 = .ok (.dup, 1) := by decide +kernel
theorem dX6_skipBlanks_22 : decode cX6_skipBlanks 22 = .ok (.getfield 30, 3) := by decide +kernel
theorem dX6_skipBlanks_25 : decode cX6_skipBlanks 25 = .ok (.iconst 1, 1) := by decide +kernel
theorem dX6_skipBlanks_26 : decode cX6_skipBlanks 26 = .ok (.iadd, 1) := by decide +kernel
theorem dX6_skipBlanks_27 : decode cX6_skipBlanks 27 = .ok (.putfield 30, 3) := by decide +kernel
theorem dX6_skipBlanks_30 : decode cX6_skipBlanks 30 = .ok (.goto (-30), 3) := by decide +kernel
theorem dX6_skipBlanks_33 : decode cX6_skipBlanks 33 = .ok (.return_, 1) := by decide +kernel
theorem dX6_here_0 : decode cX6_here 0 = .ok (.aload_n 0, 1) := by decide +kernel
theorem dX6_here_1 : decode cX6_here 1 = .ok (.getfield 30, 3) := by decide +kernel
theorem dX6_here_4 : decode cX6_here 4 = .ok (.ifCond .lt 35, 3) := by decide +kernel
theorem dX6_here_7 : decode cX6_here 7 = .ok (.aload_n 0, 1) := by decide +kernel
theorem dX6_here_8 : decode cX6_here 8 = .ok (.getfield 30, 3) := by decide +kernel
theorem dX6_here_11 : decode cX6_here 11 = .ok (.aload_n 0, 1) := by decide +kernel
theorem dX6_here_12 : decode cX6_here 12 = .ok (.getfield 15, 3) := by decide +kernel
theorem dX6_here_15 : decode cX6_here 15 = .ok (.if_icmp .ge 24, 3) := by decide +kernel
theorem dX6_here_18 : decode cX6_here 18 = .ok (.aload_n 0, 1) := by decide +kernel
theorem dX6_here_19 : decode cX6_here 19 = .ok (.getfield 30, 3) := by decide +kernel
theorem dX6_here_22 : decode cX6_here 22 = .ok (.bipush 70, 2) := by decide +kernel
theorem dX6_here_24 : decode cX6_here 24 = .ok (.if_icmp .ge 15, 3) := by decide +kernel
theorem dX6_here_27 : decode cX6_here 27 = .ok (.aload_n 0, 1) := by decide +kernel
theorem dX6_here_28 : decode cX6_here 28 = .ok (.getfield 9, 3) := by decide +kernel
theorem dX6_here_31 : decode cX6_here 31 = .ok (.aload_n 0, 1) := by decide +kernel
theorem dX6_here_32 : decode cX6_here 32 = .ok (.getfield 30, 3) := by decide +kernel
theorem dX6_here_35 : decode cX6_here 35 = .ok (.caload, 1) := by decide +kernel
theorem dX6_here_36 : decode cX6_here 36 = .ok (.goto 4, 3) := by decide +kernel
theorem dX6_here_39 : decode cX6_here 39 = .ok (.iconst 0, 1) := by decide +kernel
theorem dX6_here_40 : decode cX6_here 40 = .ok (.ireturn, 1) := by decide +kernel
theorem dX6_isDigit_0 : decode cX6_isDigit 0 = .ok (.aload_n 0, 1) := by decide +kernel
theorem dX6_isDigit_1 : decode cX6_isDigit 1 = .ok (.invokevirtual 51, 3) := by decide +kernel
theorem dX6_isDigit_4 : decode cX6_isDigit 4 = .ok (.bipush 48, 2) := by decide +kernel
theorem dX6_isDigit_6 : decode cX6_isDigit 6 = .ok (.bipush 57, 2) := by decide +kernel
theorem dX6_isDigit_8 : decode cX6_isDigit 8 = .ok (.invokestatic 88, 3) := by decide +kernel
theorem dX6_isDigit_11 : decode cX6_isDigit 11 = .ok (.ireturn, 1) := by decide +kernel
theorem dX6_readDigit_0 : decode cX6_readDigit 0 = .ok (.aload_n 0, 1) := by decide +kernel
theorem dX6_readDigit_1 : decode cX6_readDigit 1 = .ok (.invokevirtual 51, 3) := by decide +kernel
theorem dX6_readDigit_4 : decode cX6_readDigit 4 = .ok (.bipush 48, 2) := by decide +kernel
theorem dX6_readDigit_6 : decode cX6_readDigit 6 = .ok (.isub, 1) := by decide +kernel
theorem dX6_readDigit_7 : decode cX6_readDigit 7 = .ok (.istore_n 1, 1) := by decide +kernel
theorem dX6_readDigit_8 : decode cX6_readDigit 8 = .ok (.aload_n 0, 1) := by decide +kernel
theorem dX6_readDigit_9 : decode cX6_readDigit 9 = .ok (.dup, 1) := by decide +kernel
theorem dX6_readDigit_10 : decode cX6_readDigit 10 = .ok (.getfield 30, 3) := by decide +kernel
theorem dX6_readDigit_13 : decode cX6_readDigit 13 = .ok (.iconst 1, 1) := by decide +kernel
theorem dX6_readDigit_14 : decode cX6_readDigit 14 = .ok (.iadd, 1) := by decide +kernel
theorem dX6_readDigit_15 : decode cX6_readDigit 15 = .ok (.putfield 30, 3) := by decide +kernel
theorem dX6_readDigit_18 : decode cX6_readDigit 18 = .ok (.iload_n 1, 1) := by decide +kernel
theorem dX6_readDigit_19 : decode cX6_readDigit 19 = .ok (.ireturn, 1) := by decide +kernel
