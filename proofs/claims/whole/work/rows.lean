section
-- ===== PART A: goes FIRST, ahead of the names: the tables' words, and 'selects' of the private methods out of them =====
/-- a private method of a class that the tables say can be made, by its rows of tables_1 -/
def lw_okq (q : MethodName × Nat) : Prop := (q.1.cls ≠ "java/lang/invoke/MethodHandle" ∧ q.1.cls ≠ "java/lang/invoke/VarHandle") ∧ Cond.instantiable q.1.cls q.2 ∈ tables_1 ∧ Cond.privateMethod q.1 ∈ tables_1 ∧ Cond.instanceMethod q.1 ∈ tables_1
theorem lw_p0 : lw_okq (⟨"BattleBench$Roll", "wereTogether", "(II)Z"⟩, 4) := ⟨⟨by decide +kernel, by decide +kernel⟩, List.mem_of_getElem? (i := 33) (by decide +kernel), List.mem_of_getElem? (i := 258) (by decide +kernel), List.mem_of_getElem? (i := 259) (by decide +kernel)⟩
theorem lw_p1 : lw_okq (⟨"BattleBench$Roll", "isNobodyBetween", "([III)Z"⟩, 4) := ⟨⟨by decide +kernel, by decide +kernel⟩, List.mem_of_getElem? (i := 33) (by decide +kernel), List.mem_of_getElem? (i := 262) (by decide +kernel), List.mem_of_getElem? (i := 263) (by decide +kernel)⟩
theorem lw_p2 : lw_okq (⟨"BattleBench$Bench", "beside", "(I)I"⟩, 5) := ⟨⟨by decide +kernel, by decide +kernel⟩, List.mem_of_getElem? (i := 60) (by decide +kernel), List.mem_of_getElem? (i := 306) (by decide +kernel), List.mem_of_getElem? (i := 307) (by decide +kernel)⟩
theorem lw_p3 : lw_okq (⟨"BattleBench$Roll", "lossOfHale", "(I)I"⟩, 4) := ⟨⟨by decide +kernel, by decide +kernel⟩, List.mem_of_getElem? (i := 33) (by decide +kernel), List.mem_of_getElem? (i := 322) (by decide +kernel), List.mem_of_getElem? (i := 323) (by decide +kernel)⟩
theorem lw_p4 : lw_okq (⟨"BattleBench$Roll", "lossOfPlain", "()I"⟩, 4) := ⟨⟨by decide +kernel, by decide +kernel⟩, List.mem_of_getElem? (i := 33) (by decide +kernel), List.mem_of_getElem? (i := 326) (by decide +kernel), List.mem_of_getElem? (i := 327) (by decide +kernel)⟩
theorem lw_p5 : lw_okq (⟨"BattleBench$Roll", "lossOfHurt", "()I"⟩, 4) := ⟨⟨by decide +kernel, by decide +kernel⟩, List.mem_of_getElem? (i := 33) (by decide +kernel), List.mem_of_getElem? (i := 330) (by decide +kernel), List.mem_of_getElem? (i := 331) (by decide +kernel)⟩
theorem lw_p6 : lw_okq (⟨"BattleBench$Roll", "comrades", "(II)I"⟩, 4) := ⟨⟨by decide +kernel, by decide +kernel⟩, List.mem_of_getElem? (i := 33) (by decide +kernel), List.mem_of_getElem? (i := 334) (by decide +kernel), List.mem_of_getElem? (i := 335) (by decide +kernel)⟩
theorem lw_p7 : lw_okq (⟨"BattleBench$Tape", "readMan", "()V"⟩, 6) := ⟨⟨by decide +kernel, by decide +kernel⟩, List.mem_of_getElem? (i := 120) (by decide +kernel), List.mem_of_getElem? (i := 365) (by decide +kernel), List.mem_of_getElem? (i := 366) (by decide +kernel)⟩
theorem lw_p8 : lw_okq (⟨"BattleBench$Tape", "skipBlanks", "()V"⟩, 6) := ⟨⟨by decide +kernel, by decide +kernel⟩, List.mem_of_getElem? (i := 120) (by decide +kernel), List.mem_of_getElem? (i := 369) (by decide +kernel), List.mem_of_getElem? (i := 370) (by decide +kernel)⟩
theorem lw_p9 : lw_okq (⟨"BattleBench$Tape", "here", "()C"⟩, 6) := ⟨⟨by decide +kernel, by decide +kernel⟩, List.mem_of_getElem? (i := 120) (by decide +kernel), List.mem_of_getElem? (i := 373) (by decide +kernel), List.mem_of_getElem? (i := 374) (by decide +kernel)⟩
theorem lw_p10 : lw_okq (⟨"BattleBench$Tape", "faultAt", "(I)V"⟩, 6) := ⟨⟨by decide +kernel, by decide +kernel⟩, List.mem_of_getElem? (i := 120) (by decide +kernel), List.mem_of_getElem? (i := 460) (by decide +kernel), List.mem_of_getElem? (i := 461) (by decide +kernel)⟩
theorem lw_p11 : lw_okq (⟨"BattleBench$Tape", "readLife", "()I"⟩, 6) := ⟨⟨by decide +kernel, by decide +kernel⟩, List.mem_of_getElem? (i := 120) (by decide +kernel), List.mem_of_getElem? (i := 464) (by decide +kernel), List.mem_of_getElem? (i := 465) (by decide +kernel)⟩
theorem lw_p12 : lw_okq (⟨"BattleBench$Tape", "isDigit", "()Z"⟩, 6) := ⟨⟨by decide +kernel, by decide +kernel⟩, List.mem_of_getElem? (i := 120) (by decide +kernel), List.mem_of_getElem? (i := 468) (by decide +kernel), List.mem_of_getElem? (i := 469) (by decide +kernel)⟩
theorem lw_p13 : lw_okq (⟨"BattleBench$Tape", "readDigit", "()I"⟩, 6) := ⟨⟨by decide +kernel, by decide +kernel⟩, List.mem_of_getElem? (i := 120) (by decide +kernel), List.mem_of_getElem? (i := 473) (by decide +kernel), List.mem_of_getElem? (i := 474) (by decide +kernel)⟩
theorem lw_p14 : lw_okq (⟨"BattleBench$Tape", "readPlaces", "()V"⟩, 6) := ⟨⟨by decide +kernel, by decide +kernel⟩, List.mem_of_getElem? (i := 120) (by decide +kernel), List.mem_of_getElem? (i := 477) (by decide +kernel), List.mem_of_getElem? (i := 478) (by decide +kernel)⟩
theorem lw_p15 : lw_okq (⟨"BattleBench$Tape", "readComma", "()Z"⟩, 6) := ⟨⟨by decide +kernel, by decide +kernel⟩, List.mem_of_getElem? (i := 120) (by decide +kernel), List.mem_of_getElem? (i := 486) (by decide +kernel), List.mem_of_getElem? (i := 487) (by decide +kernel)⟩
def lw_privs_1 : List (MethodName × Nat) := [(⟨"BattleBench$Roll", "wereTogether", "(II)Z"⟩, 4), (⟨"BattleBench$Roll", "isNobodyBetween", "([III)Z"⟩, 4), (⟨"BattleBench$Bench", "beside", "(I)I"⟩, 5), (⟨"BattleBench$Roll", "lossOfHale", "(I)I"⟩, 4), (⟨"BattleBench$Roll", "lossOfPlain", "()I"⟩, 4), (⟨"BattleBench$Roll", "lossOfHurt", "()I"⟩, 4), (⟨"BattleBench$Roll", "comrades", "(II)I"⟩, 4), (⟨"BattleBench$Tape", "readMan", "()V"⟩, 6), (⟨"BattleBench$Tape", "skipBlanks", "()V"⟩, 6), (⟨"BattleBench$Tape", "here", "()C"⟩, 6), (⟨"BattleBench$Tape", "faultAt", "(I)V"⟩, 6), (⟨"BattleBench$Tape", "readLife", "()I"⟩, 6), (⟨"BattleBench$Tape", "isDigit", "()Z"⟩, 6), (⟨"BattleBench$Tape", "readDigit", "()I"⟩, 6), (⟨"BattleBench$Tape", "readPlaces", "()V"⟩, 6), (⟨"BattleBench$Tape", "readComma", "()Z"⟩, 6)]
theorem lw_r1 : ∀ q ∈ lw_privs_1, lw_okq q := List.forall_mem_cons.mpr ⟨lw_p0, List.forall_mem_cons.mpr ⟨lw_p1, List.forall_mem_cons.mpr ⟨lw_p2, List.forall_mem_cons.mpr ⟨lw_p3, List.forall_mem_cons.mpr ⟨lw_p4, List.forall_mem_cons.mpr ⟨lw_p5, List.forall_mem_cons.mpr ⟨lw_p6, List.forall_mem_cons.mpr ⟨lw_p7, List.forall_mem_cons.mpr ⟨lw_p8, List.forall_mem_cons.mpr ⟨lw_p9, List.forall_mem_cons.mpr ⟨lw_p10, List.forall_mem_cons.mpr ⟨lw_p11, List.forall_mem_cons.mpr ⟨lw_p12, List.forall_mem_cons.mpr ⟨lw_p13, List.forall_mem_cons.mpr ⟨lw_p14, List.forall_mem_cons.mpr ⟨lw_p15, fun _ h => absurd h List.not_mem_nil⟩⟩⟩⟩⟩⟩⟩⟩⟩⟩⟩⟩⟩⟩⟩⟩
theorem lw_p16 : lw_okq (⟨"BattleBench", "goOn", "(IZ)I"⟩, 9) := ⟨⟨by decide +kernel, by decide +kernel⟩, List.mem_of_getElem? (i := 19) (by decide +kernel), List.mem_of_getElem? (i := 520) (by decide +kernel), List.mem_of_getElem? (i := 521) (by decide +kernel)⟩
theorem lw_p17 : lw_okq (⟨"BattleBench", "foretell", "(I)V"⟩, 9) := ⟨⟨by decide +kernel, by decide +kernel⟩, List.mem_of_getElem? (i := 19) (by decide +kernel), List.mem_of_getElem? (i := 584) (by decide +kernel), List.mem_of_getElem? (i := 585) (by decide +kernel)⟩
theorem lw_p18 : lw_okq (⟨"BattleBench", "whoCouldStay", "([I)I"⟩, 9) := ⟨⟨by decide +kernel, by decide +kernel⟩, List.mem_of_getElem? (i := 19) (by decide +kernel), List.mem_of_getElem? (i := 619) (by decide +kernel), List.mem_of_getElem? (i := 620) (by decide +kernel)⟩
theorem lw_p19 : lw_okq (⟨"BattleBench", "measureChains", "([I)I"⟩, 9) := ⟨⟨by decide +kernel, by decide +kernel⟩, List.mem_of_getElem? (i := 19) (by decide +kernel), List.mem_of_getElem? (i := 623) (by decide +kernel), List.mem_of_getElem? (i := 624) (by decide +kernel)⟩
theorem lw_p20 : lw_okq (⟨"BattleBench$Order", "swap", "(II)V"⟩, 3) := ⟨⟨by decide +kernel, by decide +kernel⟩, List.mem_of_getElem? (i := 157) (by decide +kernel), List.mem_of_getElem? (i := 652) (by decide +kernel), List.mem_of_getElem? (i := 653) (by decide +kernel)⟩
theorem lw_p21 : lw_okq (⟨"BattleBench", "findEase", "()I"⟩, 9) := ⟨⟨by decide +kernel, by decide +kernel⟩, List.mem_of_getElem? (i := 19) (by decide +kernel), List.mem_of_getElem? (i := 660) (by decide +kernel), List.mem_of_getElem? (i := 661) (by decide +kernel)⟩
theorem lw_p22 : lw_okq (⟨"BattleBench", "findMostLeft", "(I)V"⟩, 9) := ⟨⟨by decide +kernel, by decide +kernel⟩, List.mem_of_getElem? (i := 19) (by decide +kernel), List.mem_of_getElem? (i := 674) (by decide +kernel), List.mem_of_getElem? (i := 675) (by decide +kernel)⟩
theorem lw_p23 : lw_okq (⟨"BattleBench", "foretellFor", "([II)V"⟩, 9) := ⟨⟨by decide +kernel, by decide +kernel⟩, List.mem_of_getElem? (i := 19) (by decide +kernel), List.mem_of_getElem? (i := 682) (by decide +kernel), List.mem_of_getElem? (i := 683) (by decide +kernel)⟩
theorem lw_p24 : lw_okq (⟨"BattleBench", "weightOfWinters", "(II)I"⟩, 9) := ⟨⟨by decide +kernel, by decide +kernel⟩, List.mem_of_getElem? (i := 19) (by decide +kernel), List.mem_of_getElem? (i := 694) (by decide +kernel), List.mem_of_getElem? (i := 695) (by decide +kernel)⟩
theorem lw_p25 : lw_okq (⟨"BattleBench", "areAllByTheirOwn", "(I)Z"⟩, 9) := ⟨⟨by decide +kernel, by decide +kernel⟩, List.mem_of_getElem? (i := 19) (by decide +kernel), List.mem_of_getElem? (i := 698) (by decide +kernel), List.mem_of_getElem? (i := 699) (by decide +kernel)⟩
theorem lw_p26 : lw_okq (⟨"BattleBench", "kindsThatFit", "(ILBattleBench$Sheet;II)I"⟩, 9) := ⟨⟨by decide +kernel, by decide +kernel⟩, List.mem_of_getElem? (i := 19) (by decide +kernel), List.mem_of_getElem? (i := 744) (by decide +kernel), List.mem_of_getElem? (i := 745) (by decide +kernel)⟩
theorem lw_p27 : lw_okq (⟨"BattleBench", "doesFail", "(ILBattleBench$Sheet;II)Z"⟩, 9) := ⟨⟨by decide +kernel, by decide +kernel⟩, List.mem_of_getElem? (i := 19) (by decide +kernel), List.mem_of_getElem? (i := 748) (by decide +kernel), List.mem_of_getElem? (i := 749) (by decide +kernel)⟩
theorem lw_p28 : lw_okq (⟨"BattleBench", "howManyLivesFit", "(ILBattleBench$Sheet;II)I"⟩, 9) := ⟨⟨by decide +kernel, by decide +kernel⟩, List.mem_of_getElem? (i := 19) (by decide +kernel), List.mem_of_getElem? (i := 752) (by decide +kernel), List.mem_of_getElem? (i := 753) (by decide +kernel)⟩
theorem lw_p29 : lw_okq (⟨"BattleBench", "doesLifeFit", "(IILBattleBench$Sheet;II)Z"⟩, 9) := ⟨⟨by decide +kernel, by decide +kernel⟩, List.mem_of_getElem? (i := 19) (by decide +kernel), List.mem_of_getElem? (i := 756) (by decide +kernel), List.mem_of_getElem? (i := 757) (by decide +kernel)⟩
theorem lw_p30 : lw_okq (⟨"BattleBench", "leastLifeThatFits", "(ILBattleBench$Sheet;II)I"⟩, 9) := ⟨⟨by decide +kernel, by decide +kernel⟩, List.mem_of_getElem? (i := 19) (by decide +kernel), List.mem_of_getElem? (i := 760) (by decide +kernel), List.mem_of_getElem? (i := 761) (by decide +kernel)⟩
theorem lw_p31 : lw_okq (⟨"BattleBench$Sheet", "cut", "(J)J"⟩, 4) := ⟨⟨by decide +kernel, by decide +kernel⟩, List.mem_of_getElem? (i := 175) (by decide +kernel), List.mem_of_getElem? (i := 773) (by decide +kernel), List.mem_of_getElem? (i := 774) (by decide +kernel)⟩
def lw_privs_2 : List (MethodName × Nat) := [(⟨"BattleBench", "goOn", "(IZ)I"⟩, 9), (⟨"BattleBench", "foretell", "(I)V"⟩, 9), (⟨"BattleBench", "whoCouldStay", "([I)I"⟩, 9), (⟨"BattleBench", "measureChains", "([I)I"⟩, 9), (⟨"BattleBench$Order", "swap", "(II)V"⟩, 3), (⟨"BattleBench", "findEase", "()I"⟩, 9), (⟨"BattleBench", "findMostLeft", "(I)V"⟩, 9), (⟨"BattleBench", "foretellFor", "([II)V"⟩, 9), (⟨"BattleBench", "weightOfWinters", "(II)I"⟩, 9), (⟨"BattleBench", "areAllByTheirOwn", "(I)Z"⟩, 9), (⟨"BattleBench", "kindsThatFit", "(ILBattleBench$Sheet;II)I"⟩, 9), (⟨"BattleBench", "doesFail", "(ILBattleBench$Sheet;II)Z"⟩, 9), (⟨"BattleBench", "howManyLivesFit", "(ILBattleBench$Sheet;II)I"⟩, 9), (⟨"BattleBench", "doesLifeFit", "(IILBattleBench$Sheet;II)Z"⟩, 9), (⟨"BattleBench", "leastLifeThatFits", "(ILBattleBench$Sheet;II)I"⟩, 9), (⟨"BattleBench$Sheet", "cut", "(J)J"⟩, 4)]
theorem lw_r2 : ∀ q ∈ lw_privs_2, lw_okq q := List.forall_mem_cons.mpr ⟨lw_p16, List.forall_mem_cons.mpr ⟨lw_p17, List.forall_mem_cons.mpr ⟨lw_p18, List.forall_mem_cons.mpr ⟨lw_p19, List.forall_mem_cons.mpr ⟨lw_p20, List.forall_mem_cons.mpr ⟨lw_p21, List.forall_mem_cons.mpr ⟨lw_p22, List.forall_mem_cons.mpr ⟨lw_p23, List.forall_mem_cons.mpr ⟨lw_p24, List.forall_mem_cons.mpr ⟨lw_p25, List.forall_mem_cons.mpr ⟨lw_p26, List.forall_mem_cons.mpr ⟨lw_p27, List.forall_mem_cons.mpr ⟨lw_p28, List.forall_mem_cons.mpr ⟨lw_p29, List.forall_mem_cons.mpr ⟨lw_p30, List.forall_mem_cons.mpr ⟨lw_p31, fun _ h => absurd h List.not_mem_nil⟩⟩⟩⟩⟩⟩⟩⟩⟩⟩⟩⟩⟩⟩⟩⟩
theorem lw_p32 : lw_okq (⟨"BattleBenchModel", "isTaken", "(II)Z"⟩, 14) := ⟨⟨by decide +kernel, by decide +kernel⟩, List.mem_of_getElem? (i := 801) (by decide +kernel), List.mem_of_getElem? (i := 857) (by decide +kernel), List.mem_of_getElem? (i := 858) (by decide +kernel)⟩
theorem lw_p33 : lw_okq (⟨"BattleBenchModel", "isMan", "(I)Z"⟩, 14) := ⟨⟨by decide +kernel, by decide +kernel⟩, List.mem_of_getElem? (i := 801) (by decide +kernel), List.mem_of_getElem? (i := 865) (by decide +kernel), List.mem_of_getElem? (i := 866) (by decide +kernel)⟩
theorem lw_p34 : lw_okq (⟨"BattleBenchModel", "seatOf", "(I)I"⟩, 14) := ⟨⟨by decide +kernel, by decide +kernel⟩, List.mem_of_getElem? (i := 801) (by decide +kernel), List.mem_of_getElem? (i := 873) (by decide +kernel), List.mem_of_getElem? (i := 874) (by decide +kernel)⟩
theorem lw_p35 : lw_okq (⟨"BattleBenchModel", "allStoodBy", "(I)I"⟩, 14) := ⟨⟨by decide +kernel, by decide +kernel⟩, List.mem_of_getElem? (i := 801) (by decide +kernel), List.mem_of_getElem? (i := 877) (by decide +kernel), List.mem_of_getElem? (i := 878) (by decide +kernel)⟩
theorem lw_p36 : lw_okq (⟨"BattleBenchModel", "stoodBy", "(II)Z"⟩, 14) := ⟨⟨by decide +kernel, by decide +kernel⟩, List.mem_of_getElem? (i := 801) (by decide +kernel), List.mem_of_getElem? (i := 881) (by decide +kernel), List.mem_of_getElem? (i := 882) (by decide +kernel)⟩
theorem lw_p37 : lw_okq (⟨"BattleBenchModel", "allSitBy", "(I)I"⟩, 14) := ⟨⟨by decide +kernel, by decide +kernel⟩, List.mem_of_getElem? (i := 801) (by decide +kernel), List.mem_of_getElem? (i := 885) (by decide +kernel), List.mem_of_getElem? (i := 886) (by decide +kernel)⟩
theorem lw_p38 : lw_okq (⟨"BattleBenchModel", "onSeat", "(I)I"⟩, 14) := ⟨⟨by decide +kernel, by decide +kernel⟩, List.mem_of_getElem? (i := 801) (by decide +kernel), List.mem_of_getElem? (i := 889) (by decide +kernel), List.mem_of_getElem? (i := 890) (by decide +kernel)⟩
theorem lw_p39 : lw_okq (⟨"BattleBenchModel", "fails", "(I)I"⟩, 14) := ⟨⟨by decide +kernel, by decide +kernel⟩, List.mem_of_getElem? (i := 801) (by decide +kernel), List.mem_of_getElem? (i := 893) (by decide +kernel), List.mem_of_getElem? (i := 894) (by decide +kernel)⟩
theorem lw_p40 : lw_okq (⟨"BattleBenchModel", "readsAll", "()I"⟩, 14) := ⟨⟨by decide +kernel, by decide +kernel⟩, List.mem_of_getElem? (i := 801) (by decide +kernel), List.mem_of_getElem? (i := 912) (by decide +kernel), List.mem_of_getElem? (i := 913) (by decide +kernel)⟩
theorem lw_p41 : lw_okq (⟨"BattleBenchModel", "readsMan", "(I)Z"⟩, 14) := ⟨⟨by decide +kernel, by decide +kernel⟩, List.mem_of_getElem? (i := 801) (by decide +kernel), List.mem_of_getElem? (i := 916) (by decide +kernel), List.mem_of_getElem? (i := 917) (by decide +kernel)⟩
theorem lw_p42 : lw_okq (⟨"BattleBenchModel", "skips", "()I"⟩, 14) := ⟨⟨by decide +kernel, by decide +kernel⟩, List.mem_of_getElem? (i := 801) (by decide +kernel), List.mem_of_getElem? (i := 920) (by decide +kernel), List.mem_of_getElem? (i := 921) (by decide +kernel)⟩
theorem lw_p43 : lw_okq (⟨"BattleBenchModel", "letterAt", "(I)I"⟩, 14) := ⟨⟨by decide +kernel, by decide +kernel⟩, List.mem_of_getElem? (i := 801) (by decide +kernel), List.mem_of_getElem? (i := 924) (by decide +kernel), List.mem_of_getElem? (i := 925) (by decide +kernel)⟩
theorem lw_p44 : lw_okq (⟨"BattleBenchModel", "isTold", "(III)Z"⟩, 14) := ⟨⟨by decide +kernel, by decide +kernel⟩, List.mem_of_getElem? (i := 801) (by decide +kernel), List.mem_of_getElem? (i := 934) (by decide +kernel), List.mem_of_getElem? (i := 935) (by decide +kernel)⟩
theorem lw_p45 : lw_okq (⟨"BattleBenchModel", "bench", "()I"⟩, 14) := ⟨⟨by decide +kernel, by decide +kernel⟩, List.mem_of_getElem? (i := 801) (by decide +kernel), List.mem_of_getElem? (i := 942) (by decide +kernel), List.mem_of_getElem? (i := 943) (by decide +kernel)⟩
theorem lw_p46 : lw_okq (⟨"BattleBenchModel", "lives", "()I"⟩, 14) := ⟨⟨by decide +kernel, by decide +kernel⟩, List.mem_of_getElem? (i := 801) (by decide +kernel), List.mem_of_getElem? (i := 946) (by decide +kernel), List.mem_of_getElem? (i := 947) (by decide +kernel)⟩
theorem lw_p47 : lw_okq (⟨"BattleBenchModel", "wrong", "()I"⟩, 14) := ⟨⟨by decide +kernel, by decide +kernel⟩, List.mem_of_getElem? (i := 801) (by decide +kernel), List.mem_of_getElem? (i := 950) (by decide +kernel), List.mem_of_getElem? (i := 951) (by decide +kernel)⟩
def lw_privs_3 : List (MethodName × Nat) := [(⟨"BattleBenchModel", "isTaken", "(II)Z"⟩, 14), (⟨"BattleBenchModel", "isMan", "(I)Z"⟩, 14), (⟨"BattleBenchModel", "seatOf", "(I)I"⟩, 14), (⟨"BattleBenchModel", "allStoodBy", "(I)I"⟩, 14), (⟨"BattleBenchModel", "stoodBy", "(II)Z"⟩, 14), (⟨"BattleBenchModel", "allSitBy", "(I)I"⟩, 14), (⟨"BattleBenchModel", "onSeat", "(I)I"⟩, 14), (⟨"BattleBenchModel", "fails", "(I)I"⟩, 14), (⟨"BattleBenchModel", "readsAll", "()I"⟩, 14), (⟨"BattleBenchModel", "readsMan", "(I)Z"⟩, 14), (⟨"BattleBenchModel", "skips", "()I"⟩, 14), (⟨"BattleBenchModel", "letterAt", "(I)I"⟩, 14), (⟨"BattleBenchModel", "isTold", "(III)Z"⟩, 14), (⟨"BattleBenchModel", "bench", "()I"⟩, 14), (⟨"BattleBenchModel", "lives", "()I"⟩, 14), (⟨"BattleBenchModel", "wrong", "()I"⟩, 14)]
theorem lw_r3 : ∀ q ∈ lw_privs_3, lw_okq q := List.forall_mem_cons.mpr ⟨lw_p32, List.forall_mem_cons.mpr ⟨lw_p33, List.forall_mem_cons.mpr ⟨lw_p34, List.forall_mem_cons.mpr ⟨lw_p35, List.forall_mem_cons.mpr ⟨lw_p36, List.forall_mem_cons.mpr ⟨lw_p37, List.forall_mem_cons.mpr ⟨lw_p38, List.forall_mem_cons.mpr ⟨lw_p39, List.forall_mem_cons.mpr ⟨lw_p40, List.forall_mem_cons.mpr ⟨lw_p41, List.forall_mem_cons.mpr ⟨lw_p42, List.forall_mem_cons.mpr ⟨lw_p43, List.forall_mem_cons.mpr ⟨lw_p44, List.forall_mem_cons.mpr ⟨lw_p45, List.forall_mem_cons.mpr ⟨lw_p46, List.forall_mem_cons.mpr ⟨lw_p47, fun _ h => absurd h List.not_mem_nil⟩⟩⟩⟩⟩⟩⟩⟩⟩⟩⟩⟩⟩⟩⟩⟩
theorem lw_p48 : lw_okq (⟨"BattleBenchModel", "keeps", "()V"⟩, 14) := ⟨⟨by decide +kernel, by decide +kernel⟩, List.mem_of_getElem? (i := 801) (by decide +kernel), List.mem_of_getElem? (i := 958) (by decide +kernel), List.mem_of_getElem? (i := 959) (by decide +kernel)⟩
theorem lw_p49 : lw_okq (⟨"BattleBenchModel", "passes", "()V"⟩, 14) := ⟨⟨by decide +kernel, by decide +kernel⟩, List.mem_of_getElem? (i := 801) (by decide +kernel), List.mem_of_getElem? (i := 962) (by decide +kernel), List.mem_of_getElem? (i := 963) (by decide +kernel)⟩
theorem lw_p50 : lw_okq (⟨"BattleBenchModel", "changes", "(I)V"⟩, 14) := ⟨⟨by decide +kernel, by decide +kernel⟩, List.mem_of_getElem? (i := 801) (by decide +kernel), List.mem_of_getElem? (i := 973) (by decide +kernel), List.mem_of_getElem? (i := 974) (by decide +kernel)⟩
theorem lw_p51 : lw_okq (⟨"BattleBenchModel", "holds", "()V"⟩, 14) := ⟨⟨by decide +kernel, by decide +kernel⟩, List.mem_of_getElem? (i := 801) (by decide +kernel), List.mem_of_getElem? (i := 1000) (by decide +kernel), List.mem_of_getElem? (i := 1001) (by decide +kernel)⟩
theorem lw_p52 : lw_okq (⟨"BattleBenchModel", "lets", "()V"⟩, 14) := ⟨⟨by decide +kernel, by decide +kernel⟩, List.mem_of_getElem? (i := 801) (by decide +kernel), List.mem_of_getElem? (i := 1004) (by decide +kernel), List.mem_of_getElem? (i := 1005) (by decide +kernel)⟩
theorem lw_p53 : lw_okq (⟨"BattleBenchModel", "placeOn", "(II)I"⟩, 14) := ⟨⟨by decide +kernel, by decide +kernel⟩, List.mem_of_getElem? (i := 801) (by decide +kernel), List.mem_of_getElem? (i := 1028) (by decide +kernel), List.mem_of_getElem? (i := 1029) (by decide +kernel)⟩
theorem lw_p54 : lw_okq (⟨"BattleBenchModel", "isOrder", "(II)Z"⟩, 14) := ⟨⟨by decide +kernel, by decide +kernel⟩, List.mem_of_getElem? (i := 801) (by decide +kernel), List.mem_of_getElem? (i := 1039) (by decide +kernel), List.mem_of_getElem? (i := 1040) (by decide +kernel)⟩
theorem lw_p55 : lw_okq (⟨"BattleBenchModel", "firstOrder", "()V"⟩, 14) := ⟨⟨by decide +kernel, by decide +kernel⟩, List.mem_of_getElem? (i := 801) (by decide +kernel), List.mem_of_getElem? (i := 1047) (by decide +kernel), List.mem_of_getElem? (i := 1048) (by decide +kernel)⟩
theorem lw_p56 : lw_okq (⟨"BattleBenchModel", "nextOrder", "()Z"⟩, 14) := ⟨⟨by decide +kernel, by decide +kernel⟩, List.mem_of_getElem? (i := 801) (by decide +kernel), List.mem_of_getElem? (i := 1051) (by decide +kernel), List.mem_of_getElem? (i := 1052) (by decide +kernel)⟩
theorem lw_p57 : lw_okq (⟨"BattleBenchModel", "barred", "(IIII)I"⟩, 14) := ⟨⟨by decide +kernel, by decide +kernel⟩, List.mem_of_getElem? (i := 801) (by decide +kernel), List.mem_of_getElem? (i := 1082) (by decide +kernel), List.mem_of_getElem? (i := 1083) (by decide +kernel)⟩
theorem lw_p58 : lw_okq (⟨"BattleBenchModel", "isSo", "(III)Z"⟩, 14) := ⟨⟨by decide +kernel, by decide +kernel⟩, List.mem_of_getElem? (i := 801) (by decide +kernel), List.mem_of_getElem? (i := 1086) (by decide +kernel), List.mem_of_getElem? (i := 1087) (by decide +kernel)⟩
def lw_privs_4 : List (MethodName × Nat) := [(⟨"BattleBenchModel", "keeps", "()V"⟩, 14), (⟨"BattleBenchModel", "passes", "()V"⟩, 14), (⟨"BattleBenchModel", "changes", "(I)V"⟩, 14), (⟨"BattleBenchModel", "holds", "()V"⟩, 14), (⟨"BattleBenchModel", "lets", "()V"⟩, 14), (⟨"BattleBenchModel", "placeOn", "(II)I"⟩, 14), (⟨"BattleBenchModel", "isOrder", "(II)Z"⟩, 14), (⟨"BattleBenchModel", "firstOrder", "()V"⟩, 14), (⟨"BattleBenchModel", "nextOrder", "()Z"⟩, 14), (⟨"BattleBenchModel", "barred", "(IIII)I"⟩, 14), (⟨"BattleBenchModel", "isSo", "(III)Z"⟩, 14)]
theorem lw_r4 : ∀ q ∈ lw_privs_4, lw_okq q := List.forall_mem_cons.mpr ⟨lw_p48, List.forall_mem_cons.mpr ⟨lw_p49, List.forall_mem_cons.mpr ⟨lw_p50, List.forall_mem_cons.mpr ⟨lw_p51, List.forall_mem_cons.mpr ⟨lw_p52, List.forall_mem_cons.mpr ⟨lw_p53, List.forall_mem_cons.mpr ⟨lw_p54, List.forall_mem_cons.mpr ⟨lw_p55, List.forall_mem_cons.mpr ⟨lw_p56, List.forall_mem_cons.mpr ⟨lw_p57, List.forall_mem_cons.mpr ⟨lw_p58, fun _ h => absurd h List.not_mem_nil⟩⟩⟩⟩⟩⟩⟩⟩⟩⟩⟩
def lw_privs : List (MethodName × Nat) := lw_privs_1 ++ (lw_privs_2 ++ (lw_privs_3 ++ (lw_privs_4)))
def lw_tbl : List Cond := k2_sels lw_privs ++ tables_1
theorem lw_privs_ok : ∀ q ∈ lw_privs, lw_okq q := by
  show ∀ q ∈ lw_privs_1 ++ (lw_privs_2 ++ (lw_privs_3 ++ (lw_privs_4))), lw_okq q
  exact List.forall_mem_append.mpr ⟨lw_r1, List.forall_mem_append.mpr ⟨lw_r2, List.forall_mem_append.mpr ⟨lw_r3, lw_r4⟩⟩⟩
end
section
/-! ===== BEGIN words of one list among another's, by their places ===== -/
theorem goodIn_r {big : List Cond} (ws : List Cond) (ps : List Nat) (hp : ws = ps.filterMap (fun i => big[i]?)) (h : ws.all goodWord = true) : GoodIn big ws := by
  intro w hw
  have h1 := List.all_eq_true.mp h w hw
  rw [hp] at hw
  obtain ⟨i, -, hi⟩ := List.mem_filterMap.mp hw
  have hm : w ∈ big := by first | exact List.mem_of_getElem? hi | exact List.getElem?_mem hi
  exact ⟨hm, good_of_word h1⟩
theorem goodIn_app {big a b : List Cond} (ha : GoodIn big a) (hb : GoodIn big b) : GoodIn big (a ++ b) := fun w h => (List.mem_append.mp h).elim (ha w) (hb w)
theorem goodIn_ca {big a b : List Cond} {c : Cond} (ha : GoodIn big (c :: a)) (hb : GoodIn big b) : GoodIn big (c :: (a ++ b)) := fun w h => (List.mem_cons.mp h).elim (fun e => ha w (List.mem_cons.mpr (Or.inl e))) (fun h => (List.mem_append.mp h).elim (fun h => ha w (List.mem_cons.mpr (Or.inr h))) (hb w))
theorem goodIn_sub {big ws : List Cond} (hm : ∀ w ∈ ws, w ∈ big) (h : ws.all goodWord = true) : GoodIn big ws := fun w hw => ⟨hm w hw, good_of_word (List.all_eq_true.mp h w hw)⟩
/-! ===== END ===== -/

/-! ===== BEGIN new T[n][m]: the outer array a place, the inner ones among the pooled ===== -/
/-- f, but v at every address of l -/
def vr_up {α : Type} (f : Nat → α) (l : List Nat) (v : α) : Nat → α := fun a => if a ∈ l then v else f a
theorem vr_up_in {α : Type} {f : Nat → α} {l : List Nat} {v : α} {a : Nat} (h : a ∈ l) : vr_up f l v a = v := if_pos h
theorem vr_up_ne {α : Type} {f : Nat → α} {l : List Nat} {v : α} {a : Nat} (h : a ∉ l) : vr_up f l v a = f a := if_neg h
theorem vr_rows {L l : List Nat} {f : Nat → va_E} {e : va_E} (h : ∀ a, a ∈ l → a ∉ L) : va_pl L f ++ l.map (fun a => (a, e)) = va_pl (L ++ l) (vr_up f l e) := by
  unfold va_pl
  rw [List.map_append]
  congr 1
  · apply List.map_congr_left
    intro a ha
    rw [vr_up_ne (fun q => h a q ha)]
  · apply List.map_congr_left
    intro a ha
    rw [vr_up_in ha]
theorem vr_lay {X rows : va_W} {x : Nat × va_E} {pl : va_W} {D : va_G} {cl : List vw_C} {H : Heap} (hP : va_P D cl (((X ++ pl) ++ [x]) ++ rows) H) : va_P D cl ((X ++ [x]) ++ (pl ++ rows)) H := by
  rw [List.append_assoc (X ++ pl)] at hP
  have h := va_P.swap hP
  rw [← List.append_assoc X] at h
  have h2 := va_P.swap h
  rw [List.append_assoc (X ++ [x])] at h2
  exact h2
theorem vr_layD {X rows : va_W} {x : Nat × va_E} {pl : va_W} {A : Nat → Prop} (hD : va_D A (((X ++ pl) ++ [x]) ++ rows)) : va_D A ((X ++ [x]) ++ (pl ++ rows)) := by
  rw [List.append_assoc (X ++ pl)] at hD
  have h := va_D.swap hD
  rw [← List.append_assoc X] at h
  have h2 := va_D.swap h
  rw [List.append_assoc (X ++ [x])] at h2
  exact h2
theorem vr_outer (c : ClassId) (N h0 : Nat) : ∀ i : Nat, Jvm.Free.Multi.outerC c N h0 i = arrV c N (fun j => va_rf (if j < i then some (h0 + 1 + j) else none))
  | 0 => by
    show ({ cls := c, slots := Array.replicate N .null, vm := .none } : Cell) = _
    rw [arrV_new]
    refine congrArg (arrV c N) (funext fun j => ?_)
    simp [va_rf]
  | i + 1 => by
    show (Jvm.Free.Multi.outerC c N h0 i).setSlot i (.ref (h0 + 1 + i)) = _
    rw [vr_outer c N h0 i, arrV_store]
    refine congrArg (arrV c N) (funext fun j => ?_)
    by_cases e : j = i
    · subst e
      simp [updV, va_rf]
    · by_cases h : j < i
      · simp [updV, e, h, Nat.lt_succ_of_lt h]
      · simp [updV, e, h, show ¬ j < i + 1 by omega]
def va_AOA (ty : FieldType) (U : State) : Prop := (Cond.arrayOver (.array ty)).before #[] U = true
theorem va_AOA.of {ty : FieldType} {A : Array Value} {U : State} (h : (Cond.arrayOver (.array ty)).before A U = true) : va_AOA ty U := h
theorem va_AOA.use {ty : FieldType} {A : Array Value} {U : State} (h : va_AOA ty U) : (Cond.arrayOver (.array ty)).before A U = true := h
section VGM
variable {p : Program} {l : Launch} {e : Env} {R : Room} {s : State} {m : MethodId} {args : Array Value} {below : List Frame} {meth : Method} {c : Code} {H : Heap} {locs : List Loc} {cells slots : Nat} {Q : State → Prop}
variable {cc : ByteArray} {pc : Nat} {ls : Array Slot} {rest : List Value} {D : va_G} {cl : List vw_C} {A : Nat → Prop} {a : Nat} {tys : List (ClassId × FieldType)} {ws : va_W} {H0 : Heap}
theorem va_mna {X : va_W} {L : List Nat} {f : Nat → va_E} {cc : ByteArray} (hexec : p.tables.exec = Jvm.exec) (hb : c.code = cc) {own : String} {index : Nat} {ty : FieldType} {cy : ClassId} (hown : s.vm.findClass own = some m.cls) (hclink : (Cond.classLink own index ("[" ++ (FieldType.array ty).toString)).before args s = true) (hover : va_AOA ty s) (harr : (Cond.arrayClass ty).before args s = true) (hcy : s.vm.findClass (FieldType.array ty).toString = some cy)
    (hK : va_K D cl tys s) (hP : va_P D cl (X ++ va_pl L f) H) (hD : va_D A (X ++ va_pl L f)) (hS : va_S A H0 H locs) (hA : ∀ q, H0.size ≤ q → A q) {n k : Int32} {N' K' : Nat} {z : vp_A} (hn : ¬ n < 0) (hk : ¬ k < 0) (hN : n.toNatClampNeg = N') (hM : k.toNatClampNeg = K')
    (hb1 : N' * 4 ≤ 536870912) (hb2 : K' * componentBytes ty ≤ 536870912) (hb3 : K' ≤ 536870912) (hdf : fits ty (defaultValue ty) = true) (hdd : (defaultValue ty).isDefault = true) (hcells : cells + (1 + N') ≤ R.cells) (hslots : slots + (N' + N' * K') ≤ R.slots) (hz : ∀ c : ClassId, Jvm.Free.Multi.innerC c K' (defaultValue ty) = vp_cell c z) (hdg : decode cc pc = .ok (.multianewarray index 2, 4))
    (kk : ∀ (q : Nat) (r : Nat → Nat) (cA : ClassId) (H1 : Heap), (∀ i j : Nat, i < N' → j < N' → r i = r j → i = j) → (∀ i : Nat, i < N' → r i ∉ L) → va_K D cl (tys ++ [(cA, .array ty)]) s →
      va_P D cl ((X ++ [(q, .inl (cA, N', .inr (.inr (.inr (.inr (fun i => if i < N' then some (r i) else none))))))]) ++ va_pl (L ++ (List.range N').map r) (vr_up f ((List.range N').map r) (.inl (cy, z)))) H1 → va_D A ((X ++ [(q, .inl (cA, N', .inr (.inr (.inr (.inr (fun i => if i < N' then some (r i) else none))))))]) ++ va_pl (L ++ (List.range N').map r) (vr_up f ((List.range N').map r) (.inl (cy, z)))) → va_S A H0 H1 locs →
      W p l e R s m args below meth c H1 locs (cells + 1 + N') (slots + N' + N' * K') Q (F0 m (pc + 4) ls (.ref q :: rest))) : W p l e R s m args below meth c H locs cells slots Q (F0 m pc ls (.int k :: .int n :: rest)) := by
  subst hN
  subst hM
  intro T hT Xs
  obtain ⟨vm₁, cA, comp, -, fA, fC, hO, -, X', step⟩ := Xs.multianewarray2F hexec hown hclink (va_AOA.use hover) harr (g := F0 m pc ls (.int k :: .int n :: rest)) rfl (by rw [hb]; exact hdg) rfl hn hk hb1 hb2 hb3 hdf hdd hcells hslots
  have ec : some cy = some comp := hcy.symm.trans fC
  cases ec
  generalize hF : Jvm.Free.Multi.fill (T.setVm vm₁) cA cy n.toNatClampNeg k.toNatClampNeg (defaultValue ty) n.toNatClampNeg = F at X' step
  have hTh : (T.setVm vm₁).heap = H := hT
  obtain ⟨f1, f2, -, -⟩ := Jvm.Free.Multi.fill_facts (T.setVm vm₁) cA cy n.toNatClampNeg k.toNatClampNeg (defaultValue ty) n.toNatClampNeg
  rw [hF, hTh] at f1 f2
  have hold : ∀ x : Nat, x < H.size → F.heap[x]? = H[x]? := fun x hx => by
    have := Jvm.Free.Multi.fill_old (T.setVm vm₁) cA cy n.toNatClampNeg k.toNatClampNeg (defaultValue ty) (a := x) (by rw [hTh]; exact hx) n.toNatClampNeg
    rw [hF, hTh] at this
    exact this
  have hrow : ∀ j : Nat, j < n.toNatClampNeg → F.heap[H.size + 1 + j]? = some (vp_cell cy z) := fun j hj => by
    have := Jvm.Free.Multi.fill_inner (T.setVm vm₁) cA cy n.toNatClampNeg k.toNatClampNeg (defaultValue ty) n.toNatClampNeg j hj
    rw [hF, hTh, hz] at this
    exact this
  have hout : Jvm.Free.Multi.outerC cA n.toNatClampNeg H.size n.toNatClampNeg = vp_cell cA (n.toNatClampNeg, .inr (.inr (.inr (.inr (fun i => if i < n.toNatClampNeg then some (H.size + 1 + i) else none))))) := by
    rw [vp_cell_q]
    exact vr_outer cA n.toNatClampNeg H.size n.toNatClampNeg
  rw [hout] at f2
  have hlt : ∀ a, a ∈ L → a < H.size := fun a ha => by
    obtain ⟨k9, hk9⟩ := va_pl_get (X := X) (f := f) ha
    exact (hP k9 _ hk9).lt
  have hnl : ∀ i : Nat, i < n.toNatClampNeg → H.size + 1 + i ∉ L := fun i _ h => by
    have := hlt _ h
    omega
  have hnm : ∀ a, a ∈ (List.range n.toNatClampNeg).map (fun i => H.size + 1 + i) → a ∉ L := fun a ha h => by
    obtain ⟨i, -, rfl⟩ := List.mem_map.mp ha
    have := hlt _ h
    omega
  have hP0 : va_P D cl (X ++ va_pl L f) F.heap := hP.kept (fun k9 x hx => hold x.1 ((hP k9 x hx).lt))
  have hP1 : va_P D cl ((X ++ va_pl L f) ++ [(H.size, .inl (cA, n.toNatClampNeg, .inr (.inr (.inr (.inr (fun i => if i < n.toNatClampNeg then some (H.size + 1 + i) else none))))))]) F.heap := hP0.app (fun k9 x hx => by
    have h0 : k9 < 1 := (List.getElem?_eq_some_iff.mp hx).1
    rw [show k9 = 0 by omega] at hx
    cases hx
    exact f2)
  have hP2 : va_P D cl (((X ++ va_pl L f) ++ [(H.size, .inl (cA, n.toNatClampNeg, .inr (.inr (.inr (.inr (fun i => if i < n.toNatClampNeg then some (H.size + 1 + i) else none))))))]) ++ ((List.range n.toNatClampNeg).map (fun i => H.size + 1 + i)).map (fun a => (a, .inl (cy, z)))) F.heap := hP1.app (fun k9 x hx => by
    obtain ⟨a, ha, rfl⟩ := List.mem_map.mp (List.mem_of_getElem? hx)
    obtain ⟨i, hi, rfl⟩ := List.mem_map.mp ha
    exact hrow i (List.mem_range.mp hi))
  have hD2 : va_D A (((X ++ va_pl L f) ++ [(H.size, .inl (cA, n.toNatClampNeg, .inr (.inr (.inr (.inr (fun i => if i < n.toNatClampNeg then some (H.size + 1 + i) else none))))))]) ++ ((List.range n.toNatClampNeg).map (fun i => H.size + 1 + i)).map (fun a => (a, .inl (cy, z)))) := by
    have hD1 := hD.push (e := .inl (cA, n.toNatClampNeg, .inr (.inr (.inr (.inr (fun i => if i < n.toNatClampNeg then some (H.size + 1 + i) else none)))))) hP rfl (hA _ hS.1)
    generalize hW1 : (X ++ va_pl L f) ++ [(H.size, .inl (cA, n.toNatClampNeg, .inr (.inr (.inr (.inr (fun i => if i < n.toNatClampNeg then some (H.size + 1 + i) else none))))))] = W1 at hD1 hP1 ⊢
    have hle : ∀ (k9 : Nat) (x : Nat × va_E), W1[k9]? = some x → x.1 ≤ H.size := fun k9 x hx => by
      rw [← hW1] at hx
      by_cases hl : k9 < (X ++ va_pl L f).length
      · rw [List.getElem?_append_left hl] at hx
        exact Nat.le_of_lt ((hP k9 x hx).lt)
      · rw [List.getElem?_append_right (by omega)] at hx
        have h0 : k9 - (X ++ va_pl L f).length < 1 := (List.getElem?_eq_some_iff.mp hx).1
        rw [show k9 - (X ++ va_pl L f).length = 0 by omega] at hx
        cases hx
        exact Nat.le_refl _
    have hr : ∀ (k9 : Nat) (x : Nat × va_E), (((List.range n.toNatClampNeg).map (fun i => H.size + 1 + i)).map (fun a => ((a, .inl (cy, z)) : Nat × va_E)))[k9]? = some x → x.1 = H.size + 1 + k9 := fun k9 x hx => by
      rw [List.getElem?_map, List.getElem?_map] at hx
      by_cases h9 : k9 < n.toNatClampNeg
      · rw [List.getElem?_range h9] at hx
        cases hx
        rfl
      · have hn0 : (List.range n.toNatClampNeg)[k9]? = none := List.getElem?_eq_none (by rw [List.length_range]; omega)
        rw [hn0] at hx
        cases hx
    refine ⟨fun i j x y hi hj hxy => ?_, fun k9 x hx => ?_⟩
    · by_cases h1 : i < W1.length <;> by_cases h2 : j < W1.length
      · rw [List.getElem?_append_left h1] at hi
        rw [List.getElem?_append_left h2] at hj
        exact hD1.1 i j x y hi hj hxy
      · rw [List.getElem?_append_left h1] at hi
        rw [List.getElem?_append_right (by omega)] at hj
        have := hle _ _ hi
        have := hr _ _ hj
        omega
      · rw [List.getElem?_append_right (by omega)] at hi
        rw [List.getElem?_append_left h2] at hj
        have := hle _ _ hj
        have := hr _ _ hi
        omega
      · rw [List.getElem?_append_right (by omega)] at hi hj
        have := hr _ _ hi
        have := hr _ _ hj
        omega
    · by_cases h1 : k9 < W1.length
      · rw [List.getElem?_append_left h1] at hx
        exact hD1.2 k9 x hx
      · rw [List.getElem?_append_right (by omega)] at hx
        have := hr _ _ hx
        exact hA _ (by have := hS.1; omega)
  have hAr : ArrOfT s cA (.array ty) := fun N9 z9 => by
    obtain ⟨-, k9, hk9, cm9, hkk9⟩ := (hO 0 0 0).1
    exact ⟨(fun q hq => by cases hq), k9, hk9, cm9, hkk9⟩
  have hK2 : va_K D cl (tys ++ [(cA, .array ty)]) s := ⟨hK.1, fun k9 x hx => by
    by_cases hl : k9 < tys.length
    · rw [List.getElem?_append_left hl] at hx
      exact hK.2 k9 x hx
    · rw [List.getElem?_append_right (by omega)] at hx
      have h0 : k9 - tys.length < 1 := (List.getElem?_eq_some_iff.mp hx).1
      rw [show k9 - tys.length = 0 by omega] at hx
      cases hx
      exact ⟨hAr, fA⟩⟩
  obtain ⟨t, a1, b1⟩ := kk H.size (fun i => H.size + 1 + i) cA F.heap (fun i j _ _ h => by have h9 : H.size + 1 + i = H.size + 1 + j := h; omega) hnl hK2 (by rw [← vr_rows hnm]; exact vr_lay hP2) (by rw [← vr_rows hnm]; exact vr_layD hD2) ⟨by rw [f1]; have := hS.1; omega, fun x h1 h2 => (hold x (Nat.lt_of_lt_of_le h1 hS.1)).trans (hS.2.1 x h1 h2), hS.2.2⟩ F rfl X'
  refine ⟨t, step t ?_, b1⟩
  have e : T.heap.size = H.size := by rw [hT]
  rw [e]
  exact a1
end VGM
/-! ===== END ===== -/

/-! ===== BEGIN printed: names, fields, word lists, decode rows ===== -/
def RX0 : String := "BattleBench$Bench"
def TX0 : u_T := fun k => match k with
  | 0 => ("BattleBench$Bench", "lives", "[I", true)
  | 1 => ("BattleBench$Bench", "seats", "[I", true)
  | 2 => ("BattleBench$Bench", "seated", "I", false)
  | 3 => ("BattleBench$Bench", "year", "I", false)
  | _ => ("BattleBench$Bench", "draw", "I", false)
def tyX0 : Nat → FieldType := fun k => match k with
  | 0 => .array .int
  | 1 => .array .int
  | 2 => .int
  | 3 => .int
  | _ => .int
abbrev wsX00 : List Cond := u_ws RX0 TX0 5
theorem nmX0 : ∀ a, a < 5 → ∀ b, b < 5 → a ≠ b → (TX0 a).2.1 ≠ (TX0 b).2.1 := by decide +kernel
theorem tyX0_ok : ∀ k, k < 5 → parseFieldDescriptor (TX0 k).2.2.1 = some (tyX0 k) := by decide +kernel
abbrev cX0_init : ByteArray := prog_2_method_1_code
def yX0_init : MethodName := ⟨RX0, "<init>", "()V"⟩
abbrev cX0_takeFrom : ByteArray := prog_2_method_2_code
def yX0_takeFrom : MethodName := ⟨RX0, "takeFrom", "(LBattleBench$Bench;)V"⟩
abbrev cX0_seatLast : ByteArray := prog_2_method_3_code
def yX0_seatLast : MethodName := ⟨RX0, "seatLast", "(II)V"⟩
abbrev cX0_seatAll : ByteArray := prog_2_method_4_code
def yX0_seatAll : MethodName := ⟨RX0, "seatAll", "(I[I)V"⟩
abbrev cX0_seatAs : ByteArray := prog_2_method_5_code
def yX0_seatAs : MethodName := ⟨RX0, "seatAs", "([I)V"⟩
abbrev cX0_whoIsOn : ByteArray := prog_2_method_6_code
def yX0_whoIsOn : MethodName := ⟨RX0, "whoIsOn", "(I)I"⟩
abbrev cX0_seatOf : ByteArray := prog_2_method_7_code
def yX0_seatOf : MethodName := ⟨RX0, "seatOf", "(I)I"⟩
abbrev cX0_whoSits : ByteArray := prog_2_method_8_code
def yX0_whoSits : MethodName := ⟨RX0, "whoSits", "()I"⟩
abbrev cX0_whoSitsBy : ByteArray := prog_2_method_9_code
def yX0_whoSitsBy : MethodName := ⟨RX0, "whoSitsBy", "(I)I"⟩
abbrev cX0_beside : ByteArray := prog_2_method_10_code
def yX0_beside : MethodName := ⟨RX0, "beside", "(I)I"⟩
abbrev cX0_setOf : ByteArray := prog_2_method_11_code
def yX0_setOf : MethodName := ⟨RX0, "setOf", "(I)I"⟩
abbrev cX0_lifeOfAll : ByteArray := prog_2_method_12_code
def yX0_lifeOfAll : MethodName := ⟨RX0, "lifeOfAll", "()I"⟩
abbrev cX0_lossOf : ByteArray := prog_2_method_13_code
def yX0_lossOf : MethodName := ⟨RX0, "lossOf", "(ILBattleBench$Roll;)I"⟩
abbrev cX0_hasPairAt : ByteArray := prog_2_method_14_code
def yX0_hasPairAt : MethodName := ⟨RX0, "hasPairAt", "(I)Z"⟩
abbrev cX0_swapAt : ByteArray := prog_2_method_15_code
def yX0_swapAt : MethodName := ⟨RX0, "swapAt", "(I)V"⟩
abbrev cX0_moveByDraw : ByteArray := prog_2_method_16_code
def yX0_moveByDraw : MethodName := ⟨RX0, "moveByDraw", "()V"⟩
abbrev cX0_passYear : ByteArray := prog_2_method_17_code
def yX0_passYear : MethodName := ⟨RX0, "passYear", "(LBattleBench$Roll;)V"⟩
abbrev cX0_passYears : ByteArray := prog_2_method_18_code
def yX0_passYears : MethodName := ⟨RX0, "passYears", "(ILBattleBench$Roll;)V"⟩
def RX1 : String := "BattleBench$Log"
def TX1 : u_T := fun k => match k with
  | 0 => ("BattleBench$Log", "benches", "[LBattleBench$Bench;", true)
  | 1 => ("BattleBench$Log", "known", "I", false)
  | _ => ("BattleBench$Log", "next", "I", false)
def tyX1 : Nat → FieldType := fun k => match k with
  | 0 => .array (.object "BattleBench$Bench")
  | 1 => .int
  | _ => .int
abbrev wsX10 : List Cond := u_ws RX1 TX1 3
theorem nmX1 : ∀ a, a < 3 → ∀ b, b < 3 → a ≠ b → (TX1 a).2.1 ≠ (TX1 b).2.1 := by decide +kernel
theorem tyX1_ok : ∀ k, k < 3 → parseFieldDescriptor (TX1 k).2.2.1 = some (tyX1 k) := by decide +kernel
abbrev cX1_init : ByteArray := prog_3_method_1_code
def yX1_init : MethodName := ⟨RX1, "<init>", "()V"⟩
abbrev cX1_takeFrom : ByteArray := prog_3_method_2_code
def yX1_takeFrom : MethodName := ⟨RX1, "takeFrom", "(LBattleBench$Log;)V"⟩
abbrev cX1_keep : ByteArray := prog_3_method_3_code
def yX1_keep : MethodName := ⟨RX1, "keep", "(LBattleBench$Bench;)V"⟩
abbrev cX1_giveBack : ByteArray := prog_3_method_4_code
def yX1_giveBack : MethodName := ⟨RX1, "giveBack", "(LBattleBench$Bench;)V"⟩
abbrev cX1_forget : ByteArray := prog_3_method_5_code
def yX1_forget : MethodName := ⟨RX1, "forget", "()V"⟩
def RX2 : String := "BattleBench$Order"
def TX2 : u_T := fun k => match k with
  | 0 => ("BattleBench$Order", "men", "[I", true)
  | 1 => ("BattleBench$Order", "best", "[I", true)
  | _ => ("BattleBench$Order", "size", "I", false)
def tyX2 : Nat → FieldType := fun k => match k with
  | 0 => .array .int
  | 1 => .array .int
  | _ => .int
abbrev wsX20 : List Cond := u_ws RX2 TX2 3
theorem nmX2 : ∀ a, a < 3 → ∀ b, b < 3 → a ≠ b → (TX2 a).2.1 ≠ (TX2 b).2.1 := by decide +kernel
theorem tyX2_ok : ∀ k, k < 3 → parseFieldDescriptor (TX2 k).2.2.1 = some (tyX2 k) := by decide +kernel
abbrev cX2_init : ByteArray := prog_4_method_1_code
def yX2_init : MethodName := ⟨RX2, "<init>", "()V"⟩
abbrev cX2_start : ByteArray := prog_4_method_2_code
def yX2_start : MethodName := ⟨RX2, "start", "(LBattleBench$Bench;)V"⟩
abbrev cX2_keepAsBest : ByteArray := prog_4_method_3_code
def yX2_keepAsBest : MethodName := ⟨RX2, "keepAsBest", "()V"⟩
abbrev cX2_bestOn : ByteArray := prog_4_method_4_code
def yX2_bestOn : MethodName := ⟨RX2, "bestOn", "(I)I"⟩
abbrev cX2_isTurnedRound : ByteArray := prog_4_method_5_code
def yX2_isTurnedRound : MethodName := ⟨RX2, "isTurnedRound", "()Z"⟩
abbrev cX2_advance : ByteArray := prog_4_method_6_code
def yX2_advance : MethodName := ⟨RX2, "advance", "()Z"⟩
abbrev cX2_swap : ByteArray := prog_4_method_7_code
def yX2_swap : MethodName := ⟨RX2, "swap", "(II)V"⟩
def RX3 : String := "BattleBench$Roll"
def TX3 : u_T := fun k => match k with
  | 0 => ("BattleBench$Roll", "men", "I", false)
  | 1 => ("BattleBench$Roll", "kinds", "[I", true)
  | 2 => ("BattleBench$Roll", "places", "[[I", true)
  | _ => ("BattleBench$Roll", "stoodBy", "[I", true)
def tyX3 : Nat → FieldType := fun k => match k with
  | 0 => .int
  | 1 => .array .int
  | 2 => .array (.array .int)
  | _ => .array .int
abbrev wsX30 : List Cond := u_ws RX3 TX3 4
theorem nmX3 : ∀ a, a < 4 → ∀ b, b < 4 → a ≠ b → (TX3 a).2.1 ≠ (TX3 b).2.1 := by decide +kernel
theorem tyX3_ok : ∀ k, k < 4 → parseFieldDescriptor (TX3 k).2.2.1 = some (tyX3 k) := by decide +kernel
abbrev cX3_init : ByteArray := prog_5_method_1_code
def yX3_init : MethodName := ⟨RX3, "<init>", "()V"⟩
abbrev cX3_takeFrom : ByteArray := prog_5_method_2_code
def yX3_takeFrom : MethodName := ⟨RX3, "takeFrom", "(LBattleBench$Roll;)V"⟩
abbrev cX3_has : ByteArray := prog_5_method_3_code
def yX3_has : MethodName := ⟨RX3, "has", "(I)Z"⟩
abbrev cX3_isTaken : ByteArray := prog_5_method_4_code
def yX3_isTaken : MethodName := ⟨RX3, "isTaken", "(II)Z"⟩
abbrev cX3_isTakenAtAnyHour : ByteArray := prog_5_method_5_code
def yX3_isTakenAtAnyHour : MethodName := ⟨RX3, "isTakenAtAnyHour", "(I)Z"⟩
abbrev cX3_placeNext : ByteArray := prog_5_method_6_code
def yX3_placeNext : MethodName := ⟨RX3, "placeNext", "(II)V"⟩
abbrev cX3_placeNextByNumber : ByteArray := prog_5_method_7_code
def yX3_placeNextByNumber : MethodName := ⟨RX3, "placeNextByNumber", "()V"⟩
abbrev cX3_admit : ByteArray := prog_5_method_8_code
def yX3_admit : MethodName := ⟨RX3, "admit", "(I)V"⟩
abbrev cX3_findWhoStoodBy : ByteArray := prog_5_method_9_code
def yX3_findWhoStoodBy : MethodName := ⟨RX3, "findWhoStoodBy", "()V"⟩
abbrev cX3_wereTogether : ByteArray := prog_5_method_10_code
def yX3_wereTogether : MethodName := ⟨RX3, "wereTogether", "(II)Z"⟩
abbrev cX3_isNobodyBetween : ByteArray := prog_5_method_11_code
def yX3_isNobodyBetween : MethodName := ⟨RX3, "isNobodyBetween", "([III)Z"⟩
abbrev cX3_wrongPairs : ByteArray := prog_5_method_12_code
def yX3_wrongPairs : MethodName := ⟨RX3, "wrongPairs", "([II)I"⟩
abbrev cX3_lossOf : ByteArray := prog_5_method_13_code
def yX3_lossOf : MethodName := ⟨RX3, "lossOf", "(IIII)I"⟩
abbrev cX3_lossOfPlain : ByteArray := prog_5_method_14_code
def yX3_lossOfPlain : MethodName := ⟨RX3, "lossOfPlain", "()I"⟩
abbrev cX3_lossOfHale : ByteArray := prog_5_method_15_code
def yX3_lossOfHale : MethodName := ⟨RX3, "lossOfHale", "(I)I"⟩
abbrev cX3_lossOfHurt : ByteArray := prog_5_method_16_code
def yX3_lossOfHurt : MethodName := ⟨RX3, "lossOfHurt", "()I"⟩
abbrev cX3_comrades : ByteArray := prog_5_method_17_code
def yX3_comrades : MethodName := ⟨RX3, "comrades", "(II)I"⟩
def RX4 : String := "BattleBench$Sheet"
def TX4 : u_T := fun k => match k with
  | 0 => ("BattleBench$Sheet", "isThere", "Z", false)
  | 1 => ("BattleBench$Sheet", "lane", "I", false)
  | 2 => ("BattleBench$Sheet", "length", "I", false)
  | _ => ("BattleBench$Sheet", "items", "[J", true)
def tyX4 : Nat → FieldType := fun k => match k with
  | 0 => .boolean
  | 1 => .int
  | 2 => .int
  | _ => .array .long
abbrev wsX40 : List Cond := u_ws RX4 TX4 4
theorem nmX4 : ∀ a, a < 4 → ∀ b, b < 4 → a ≠ b → (TX4 a).2.1 ≠ (TX4 b).2.1 := by decide +kernel
theorem tyX4_ok : ∀ k, k < 4 → parseFieldDescriptor (TX4 k).2.2.1 = some (tyX4 k) := by decide +kernel
abbrev cX4_init : ByteArray := prog_6_method_1_code
def yX4_init : MethodName := ⟨RX4, "<init>", "()V"⟩
abbrev cX4_renew : ByteArray := prog_6_method_2_code
def yX4_renew : MethodName := ⟨RX4, "renew", "(II)V"⟩
abbrev cX4_spans : ByteArray := prog_6_method_3_code
def yX4_spans : MethodName := ⟨RX4, "spans", "(II)Z"⟩
abbrev cX4_refusalOf : ByteArray := prog_6_method_4_code
def yX4_refusalOf : MethodName := ⟨RX4, "refusalOf", "(III)I"⟩
abbrev cX4_put : ByteArray := prog_6_method_5_code
def yX4_put : MethodName := ⟨RX4, "put", "(IJ)V"⟩
abbrev cX4_cut : ByteArray := prog_6_method_6_code
def yX4_cut : MethodName := ⟨RX4, "cut", "(J)J"⟩
def RX5 : String := "BattleBench$State"
def TX5 : u_T := fun k => match k with
  | 0 => ("BattleBench$State", "roll", "LBattleBench$Roll;", true)
  | 1 => ("BattleBench$State", "bench", "LBattleBench$Bench;", true)
  | _ => ("BattleBench$State", "log", "LBattleBench$Log;", true)
def tyX5 : Nat → FieldType := fun k => match k with
  | 0 => .object "BattleBench$Roll"
  | 1 => .object "BattleBench$Bench"
  | _ => .object "BattleBench$Log"
abbrev wsX50 : List Cond := u_ws RX5 TX5 3
theorem nmX5 : ∀ a, a < 3 → ∀ b, b < 3 → a ≠ b → (TX5 a).2.1 ≠ (TX5 b).2.1 := by decide +kernel
theorem tyX5_ok : ∀ k, k < 3 → parseFieldDescriptor (TX5 k).2.2.1 = some (tyX5 k) := by decide +kernel
abbrev cX5_init : ByteArray := prog_7_method_1_code
def yX5_init : MethodName := ⟨RX5, "<init>", "()V"⟩
abbrev cX5_takeFrom : ByteArray := prog_7_method_2_code
def yX5_takeFrom : MethodName := ⟨RX5, "takeFrom", "(LBattleBench$State;)V"⟩
def RX6 : String := "BattleBench$Tape"
def TX6 : u_T := fun k => match k with
  | 0 => ("BattleBench$Tape", "letters", "[C", true)
  | 1 => ("BattleBench$Tape", "length", "I", false)
  | 2 => ("BattleBench$Tape", "roll", "LBattleBench$Roll;", true)
  | 3 => ("BattleBench$Tape", "lives", "[I", true)
  | 4 => ("BattleBench$Tape", "at", "I", false)
  | _ => ("BattleBench$Tape", "fault", "I", false)
def tyX6 : Nat → FieldType := fun k => match k with
  | 0 => .array .char
  | 1 => .int
  | 2 => .object "BattleBench$Roll"
  | 3 => .array .int
  | 4 => .int
  | _ => .int
abbrev wsX60 : List Cond := u_ws RX6 TX6 6
theorem nmX6 : ∀ a, a < 6 → ∀ b, b < 6 → a ≠ b → (TX6 a).2.1 ≠ (TX6 b).2.1 := by decide +kernel
theorem tyX6_ok : ∀ k, k < 6 → parseFieldDescriptor (TX6 k).2.2.1 = some (tyX6 k) := by decide +kernel
abbrev cX6_init : ByteArray := prog_8_method_1_code
def yX6_init : MethodName := ⟨RX6, "<init>", "()V"⟩
abbrev cX6_add : ByteArray := prog_8_method_2_code
def yX6_add : MethodName := ⟨RX6, "add", "(C)V"⟩
abbrev cX6_readBench : ByteArray := prog_8_method_3_code
def yX6_readBench : MethodName := ⟨RX6, "readBench", "()I"⟩
abbrev cX6_readMan : ByteArray := prog_8_method_4_code
def yX6_readMan : MethodName := ⟨RX6, "readMan", "()V"⟩
abbrev cX6_readLife : ByteArray := prog_8_method_5_code
def yX6_readLife : MethodName := ⟨RX6, "readLife", "()I"⟩
abbrev cX6_readPlaces : ByteArray := prog_8_method_6_code
def yX6_readPlaces : MethodName := ⟨RX6, "readPlaces", "()V"⟩
abbrev cX6_readComma : ByteArray := prog_8_method_7_code
def yX6_readComma : MethodName := ⟨RX6, "readComma", "()Z"⟩
abbrev cX6_faultAt : ByteArray := prog_8_method_8_code
def yX6_faultAt : MethodName := ⟨RX6, "faultAt", "(I)V"⟩
abbrev cX6_skipBlanks : ByteArray := prog_8_method_9_code
def yX6_skipBlanks : MethodName := ⟨RX6, "skipBlanks", "()V"⟩
abbrev cX6_here : ByteArray := prog_8_method_10_code
def yX6_here : MethodName := ⟨RX6, "here", "()C"⟩
abbrev cX6_isDigit : ByteArray := prog_8_method_11_code
def yX6_isDigit : MethodName := ⟨RX6, "isDigit", "()Z"⟩
abbrev cX6_readDigit : ByteArray := prog_8_method_12_code
def yX6_readDigit : MethodName := ⟨RX6, "readDigit", "()I"⟩
def RX7 : String := "BattleBench"
def TX7 : u_T := fun k => match k with
  | 0 => ("BattleBench", "state", "LBattleBench$State;", true)
  | 1 => ("BattleBench", "kept", "LBattleBench$State;", true)
  | 2 => ("BattleBench", "isKept", "Z", false)
  | 3 => ("BattleBench", "tape", "LBattleBench$Tape;", true)
  | 4 => ("BattleBench", "sheets", "[LBattleBench$Sheet;", true)
  | 5 => ("BattleBench", "trial", "LBattleBench$Bench;", true)
  | 6 => ("BattleBench", "guess", "LBattleBench$Roll;", true)
  | 7 => ("BattleBench", "order", "LBattleBench$Order;", true)
  | _ => ("BattleBench", "chains", "[I", true)
def tyX7 : Nat → FieldType := fun k => match k with
  | 0 => .object "BattleBench$State"
  | 1 => .object "BattleBench$State"
  | 2 => .boolean
  | 3 => .object "BattleBench$Tape"
  | 4 => .array (.object "BattleBench$Sheet")
  | 5 => .object "BattleBench$Bench"
  | 6 => .object "BattleBench$Roll"
  | 7 => .object "BattleBench$Order"
  | _ => .array .int
abbrev wsX70 : List Cond := u_ws RX7 TX7 9
theorem nmX7 : ∀ a, a < 9 → ∀ b, b < 9 → a ≠ b → (TX7 a).2.1 ≠ (TX7 b).2.1 := by decide +kernel
theorem tyX7_ok : ∀ k, k < 9 → parseFieldDescriptor (TX7 k).2.2.1 = some (tyX7 k) := by decide +kernel
abbrev cX7_init : ByteArray := prog_1_method_1_code
def yX7_init : MethodName := ⟨RX7, "<init>", "()V"⟩
abbrev cX7_man : ByteArray := prog_1_method_2_code
def yX7_man : MethodName := ⟨RX7, "man", "(II)I"⟩
abbrev cX7_stood : ByteArray := prog_1_method_3_code
def yX7_stood : MethodName := ⟨RX7, "stood", "(III)I"⟩
abbrev cX7_of : ByteArray := prog_1_method_4_code
def yX7_of : MethodName := ⟨RX7, "of", "(II)I"⟩
abbrev cX7_seat : ByteArray := prog_1_method_5_code
def yX7_seat : MethodName := ⟨RX7, "seat", "(I)I"⟩
abbrev cX7_type : ByteArray := prog_1_method_6_code
def yX7_type : MethodName := ⟨RX7, "type", "(I)I"⟩
abbrev cX7_read : ByteArray := prog_1_method_7_code
def yX7_read : MethodName := ⟨RX7, "read", "()I"⟩
abbrev cX7_count : ByteArray := prog_1_method_8_code
def yX7_count : MethodName := ⟨RX7, "count", "(I)I"⟩
abbrev cX7_years : ByteArray := prog_1_method_9_code
def yX7_years : MethodName := ⟨RX7, "years", "(I)I"⟩
abbrev cX7_move : ByteArray := prog_1_method_10_code
def yX7_move : MethodName := ⟨RX7, "move", "(I)I"⟩
abbrev cX7_nurse : ByteArray := prog_1_method_11_code
def yX7_nurse : MethodName := ⟨RX7, "nurse", "(II)I"⟩
abbrev cX7_drift : ByteArray := prog_1_method_12_code
def yX7_drift : MethodName := ⟨RX7, "drift", "(I)I"⟩
abbrev cX7_undo : ByteArray := prog_1_method_13_code
def yX7_undo : MethodName := ⟨RX7, "undo", "()I"⟩
abbrev cX7_seed : ByteArray := prog_1_method_14_code
def yX7_seed : MethodName := ⟨RX7, "seed", "(I)I"⟩
abbrev cX7_goOn : ByteArray := prog_1_method_15_code
def yX7_goOn : MethodName := ⟨RX7, "goOn", "(IZ)I"⟩
abbrev cX7_ahead : ByteArray := prog_1_method_16_code
def yX7_ahead : MethodName := ⟨RX7, "ahead", "(II)I"⟩
abbrev cX7_then : ByteArray := prog_1_method_17_code
def yX7_then : MethodName := ⟨RX7, "then", "(I)I"⟩
abbrev cX7_ends : ByteArray := prog_1_method_18_code
def yX7_ends : MethodName := ⟨RX7, "ends", "(I)I"⟩
abbrev cX7_lonely : ByteArray := prog_1_method_19_code
def yX7_lonely : MethodName := ⟨RX7, "lonely", "()I"⟩
abbrev cX7_close : ByteArray := prog_1_method_20_code
def yX7_close : MethodName := ⟨RX7, "close", "(II)I"⟩
abbrev cX7_swaps : ByteArray := prog_1_method_21_code
def yX7_swaps : MethodName := ⟨RX7, "swaps", "(I)I"⟩
abbrev cX7_stay : ByteArray := prog_1_method_22_code
def yX7_stay : MethodName := ⟨RX7, "stay", "(II)I"⟩
abbrev cX7_ways : ByteArray := prog_1_method_23_code
def yX7_ways : MethodName := ⟨RX7, "ways", "()I"⟩
abbrev cX7_ease : ByteArray := prog_1_method_24_code
def yX7_ease : MethodName := ⟨RX7, "ease", "(I)I"⟩
abbrev cX7_left : ByteArray := prog_1_method_25_code
def yX7_left : MethodName := ⟨RX7, "left", "(II)I"⟩
abbrev cX7_winter : ByteArray := prog_1_method_26_code
def yX7_winter : MethodName := ⟨RX7, "winter", "(III)I"⟩
abbrev cX7_image : ByteArray := prog_1_method_27_code
def yX7_image : MethodName := ⟨RX7, "image", "()I"⟩
abbrev cX7_restore : ByteArray := prog_1_method_28_code
def yX7_restore : MethodName := ⟨RX7, "restore", "()I"⟩
abbrev cX7_failed : ByteArray := prog_1_method_29_code
def yX7_failed : MethodName := ⟨RX7, "failed", "(IIIIII)I"⟩
abbrev cX7_film : ByteArray := prog_1_method_30_code
def yX7_film : MethodName := ⟨RX7, "film", "(IIIII)I"⟩
abbrev cX7_sheet : ByteArray := prog_1_method_31_code
def yX7_sheet : MethodName := ⟨RX7, "sheet", "(III)I"⟩
abbrev cX7_drop : ByteArray := prog_1_method_32_code
def yX7_drop : MethodName := ⟨RX7, "drop", "(I)I"⟩
abbrev cX7_item : ByteArray := prog_1_method_33_code
def yX7_item : MethodName := ⟨RX7, "item", "(IIIJ)I"⟩
abbrev cX7_copy : ByteArray := prog_1_method_34_code
def yX7_copy : MethodName := ⟨RX7, "copy", "(IIIII)I"⟩
abbrev cX7_foretell : ByteArray := prog_1_method_35_code
def yX7_foretell : MethodName := ⟨RX7, "foretell", "(I)V"⟩
abbrev cX7_foretellFor : ByteArray := prog_1_method_36_code
def yX7_foretellFor : MethodName := ⟨RX7, "foretellFor", "([II)V"⟩
abbrev cX7_whoCouldStay : ByteArray := prog_1_method_37_code
def yX7_whoCouldStay : MethodName := ⟨RX7, "whoCouldStay", "([I)I"⟩
abbrev cX7_measureChains : ByteArray := prog_1_method_38_code
def yX7_measureChains : MethodName := ⟨RX7, "measureChains", "([I)I"⟩
abbrev cX7_findEase : ByteArray := prog_1_method_39_code
def yX7_findEase : MethodName := ⟨RX7, "findEase", "()I"⟩
abbrev cX7_findMostLeft : ByteArray := prog_1_method_40_code
def yX7_findMostLeft : MethodName := ⟨RX7, "findMostLeft", "(I)V"⟩
abbrev cX7_weightOfWinters : ByteArray := prog_1_method_41_code
def yX7_weightOfWinters : MethodName := ⟨RX7, "weightOfWinters", "(II)I"⟩
abbrev cX7_areAllByTheirOwn : ByteArray := prog_1_method_42_code
def yX7_areAllByTheirOwn : MethodName := ⟨RX7, "areAllByTheirOwn", "(I)Z"⟩
abbrev cX7_kindsThatFit : ByteArray := prog_1_method_43_code
def yX7_kindsThatFit : MethodName := ⟨RX7, "kindsThatFit", "(ILBattleBench$Sheet;II)I"⟩
abbrev cX7_howManyLivesFit : ByteArray := prog_1_method_44_code
def yX7_howManyLivesFit : MethodName := ⟨RX7, "howManyLivesFit", "(ILBattleBench$Sheet;II)I"⟩
abbrev cX7_leastLifeThatFits : ByteArray := prog_1_method_45_code
def yX7_leastLifeThatFits : MethodName := ⟨RX7, "leastLifeThatFits", "(ILBattleBench$Sheet;II)I"⟩
abbrev cX7_doesLifeFit : ByteArray := prog_1_method_46_code
def yX7_doesLifeFit : MethodName := ⟨RX7, "doesLifeFit", "(IILBattleBench$Sheet;II)Z"⟩
abbrev cX7_doesFail : ByteArray := prog_1_method_47_code
def yX7_doesFail : MethodName := ⟨RX7, "doesFail", "(ILBattleBench$Sheet;II)Z"⟩
abbrev cX7_within : ByteArray := prog_1_method_48_code
def yX7_within : MethodName := ⟨RX7, "within", "(III)Z"⟩
abbrev cX7_isHour : ByteArray := prog_1_method_49_code
def yX7_isHour : MethodName := ⟨RX7, "isHour", "(I)Z"⟩
abbrev cX7_isSheet : ByteArray := prog_1_method_50_code
def yX7_isSheet : MethodName := ⟨RX7, "isSheet", "(I)Z"⟩
abbrev cX7_isLane : ByteArray := prog_1_method_51_code
def yX7_isLane : MethodName := ⟨RX7, "isLane", "(I)Z"⟩
abbrev cX7_holds : ByteArray := prog_1_method_52_code
def yX7_holds : MethodName := ⟨RX7, "holds", "(II)Z"⟩
abbrev cX7_power : ByteArray := prog_1_method_53_code
def yX7_power : MethodName := ⟨RX7, "power", "(II)I"⟩
abbrev cX7_commonDivisor : ByteArray := prog_1_method_54_code
def yX7_commonDivisor : MethodName := ⟨RX7, "commonDivisor", "(II)I"⟩
def RX8 : String := "BattleBenchModel"
def TX8 : u_T := fun k => match k with
  | 0 => ("BattleBenchModel", "s", "[I", true)
  | 1 => ("BattleBenchModel", "images", "[I", true)
  | 2 => ("BattleBenchModel", "kept", "Z", false)
  | 3 => ("BattleBenchModel", "tape", "[I", true)
  | 4 => ("BattleBenchModel", "typed", "I", false)
  | 5 => ("BattleBenchModel", "draft", "[I", true)
  | 6 => ("BattleBenchModel", "at", "I", false)
  | 7 => ("BattleBenchModel", "items", "[J", true)
  | 8 => ("BattleBenchModel", "moved", "[J", true)
  | 9 => ("BattleBenchModel", "sizes", "[I", true)
  | 10 => ("BattleBenchModel", "lanes", "[I", true)
  | 11 => ("BattleBenchModel", "less", "[I", true)
  | 12 => ("BattleBenchModel", "aside", "[I", true)
  | _ => ("BattleBenchModel", "order", "[I", true)
def tyX8 : Nat → FieldType := fun k => match k with
  | 0 => .array .int
  | 1 => .array .int
  | 2 => .boolean
  | 3 => .array .int
  | 4 => .int
  | 5 => .array .int
  | 6 => .int
  | 7 => .array .long
  | 8 => .array .long
  | 9 => .array .int
  | 10 => .array .int
  | 11 => .array .int
  | 12 => .array .int
  | _ => .array .int
abbrev wsX80 : List Cond := u_ws RX8 TX8 14
theorem nmX8 : ∀ a, a < 14 → ∀ b, b < 14 → a ≠ b → (TX8 a).2.1 ≠ (TX8 b).2.1 := by decide +kernel
theorem tyX8_ok : ∀ k, k < 14 → parseFieldDescriptor (TX8 k).2.2.1 = some (tyX8 k) := by decide +kernel
abbrev cX8_init : ByteArray := prog_10_method_1_code
def yX8_init : MethodName := ⟨RX8, "<init>", "()V"⟩
abbrev cX8_in : ByteArray := prog_10_method_3_code
def yX8_in : MethodName := ⟨RX8, "in", "(III)Z"⟩
abbrev cX8_has : ByteArray := prog_10_method_4_code
def yX8_has : MethodName := ⟨RX8, "has", "(II)Z"⟩
abbrev cX8_isMan : ByteArray := prog_10_method_5_code
def yX8_isMan : MethodName := ⟨RX8, "isMan", "(I)Z"⟩
abbrev cX8_seatOf : ByteArray := prog_10_method_6_code
def yX8_seatOf : MethodName := ⟨RX8, "seatOf", "(I)I"⟩
abbrev cX8_onSeat : ByteArray := prog_10_method_7_code
def yX8_onSeat : MethodName := ⟨RX8, "onSeat", "(I)I"⟩
abbrev cX8_bench : ByteArray := prog_10_method_8_code
def yX8_bench : MethodName := ⟨RX8, "bench", "()I"⟩
abbrev cX8_isTaken : ByteArray := prog_10_method_9_code
def yX8_isTaken : MethodName := ⟨RX8, "isTaken", "(II)Z"⟩
abbrev cX8_man : ByteArray := prog_10_method_10_code
def yX8_man : MethodName := ⟨RX8, "man", "(II)I"⟩
abbrev cX8_stood : ByteArray := prog_10_method_11_code
def yX8_stood : MethodName := ⟨RX8, "stood", "(III)I"⟩
abbrev cX8_stoodBy : ByteArray := prog_10_method_12_code
def yX8_stoodBy : MethodName := ⟨RX8, "stoodBy", "(II)Z"⟩
abbrev cX8_allStoodBy : ByteArray := prog_10_method_13_code
def yX8_allStoodBy : MethodName := ⟨RX8, "allStoodBy", "(I)I"⟩
abbrev cX8_allSitBy : ByteArray := prog_10_method_14_code
def yX8_allSitBy : MethodName := ⟨RX8, "allSitBy", "(I)I"⟩
abbrev cX8_ones : ByteArray := prog_10_method_15_code
def yX8_ones : MethodName := ⟨RX8, "ones", "(I)I"⟩
abbrev cX8_fails : ByteArray := prog_10_method_16_code
def yX8_fails : MethodName := ⟨RX8, "fails", "(I)I"⟩
abbrev cX8_passes : ByteArray := prog_10_method_17_code
def yX8_passes : MethodName := ⟨RX8, "passes", "()V"⟩
abbrev cX8_of : ByteArray := prog_10_method_18_code
def yX8_of : MethodName := ⟨RX8, "of", "(II)I"⟩
abbrev cX8_seat : ByteArray := prog_10_method_19_code
def yX8_seat : MethodName := ⟨RX8, "seat", "(I)I"⟩
abbrev cX8_type : ByteArray := prog_10_method_20_code
def yX8_type : MethodName := ⟨RX8, "type", "(I)I"⟩
abbrev cX8_letterAt : ByteArray := prog_10_method_21_code
def yX8_letterAt : MethodName := ⟨RX8, "letterAt", "(I)I"⟩
abbrev cX8_isDigit : ByteArray := prog_10_method_22_code
def yX8_isDigit : MethodName := ⟨RX8, "isDigit", "(I)Z"⟩
abbrev cX8_skips : ByteArray := prog_10_method_23_code
def yX8_skips : MethodName := ⟨RX8, "skips", "()I"⟩
abbrev cX8_kindBy : ByteArray := prog_10_method_24_code
def yX8_kindBy : MethodName := ⟨RX8, "kindBy", "(I)I"⟩
abbrev cX8_isTold : ByteArray := prog_10_method_25_code
def yX8_isTold : MethodName := ⟨RX8, "isTold", "(III)Z"⟩
abbrev cX8_readsMan : ByteArray := prog_10_method_26_code
def yX8_readsMan : MethodName := ⟨RX8, "readsMan", "(I)Z"⟩
abbrev cX8_readsAll : ByteArray := prog_10_method_27_code
def yX8_readsAll : MethodName := ⟨RX8, "readsAll", "()I"⟩
abbrev cX8_read : ByteArray := prog_10_method_28_code
def yX8_read : MethodName := ⟨RX8, "read", "()I"⟩
abbrev cX8_lives : ByteArray := prog_10_method_29_code
def yX8_lives : MethodName := ⟨RX8, "lives", "()I"⟩
abbrev cX8_wrong : ByteArray := prog_10_method_30_code
def yX8_wrong : MethodName := ⟨RX8, "wrong", "()I"⟩
abbrev cX8_count : ByteArray := prog_10_method_31_code
def yX8_count : MethodName := ⟨RX8, "count", "(I)I"⟩
abbrev cX8_keeps : ByteArray := prog_10_method_32_code
def yX8_keeps : MethodName := ⟨RX8, "keeps", "()V"⟩
abbrev cX8_years : ByteArray := prog_10_method_33_code
def yX8_years : MethodName := ⟨RX8, "years", "(I)I"⟩
abbrev cX8_changes : ByteArray := prog_10_method_34_code
def yX8_changes : MethodName := ⟨RX8, "changes", "(I)V"⟩
abbrev cX8_move : ByteArray := prog_10_method_35_code
def yX8_move : MethodName := ⟨RX8, "move", "(I)I"⟩
abbrev cX8_nurse : ByteArray := prog_10_method_36_code
def yX8_nurse : MethodName := ⟨RX8, "nurse", "(II)I"⟩
abbrev cX8_drift : ByteArray := prog_10_method_37_code
def yX8_drift : MethodName := ⟨RX8, "drift", "(I)I"⟩
abbrev cX8_undo : ByteArray := prog_10_method_38_code
def yX8_undo : MethodName := ⟨RX8, "undo", "()I"⟩
abbrev cX8_seed : ByteArray := prog_10_method_39_code
def yX8_seed : MethodName := ⟨RX8, "seed", "(I)I"⟩
abbrev cX8_holds : ByteArray := prog_10_method_40_code
def yX8_holds : MethodName := ⟨RX8, "holds", "()V"⟩
abbrev cX8_lets : ByteArray := prog_10_method_41_code
def yX8_lets : MethodName := ⟨RX8, "lets", "()V"⟩
abbrev cX8_ahead : ByteArray := prog_10_method_42_code
def yX8_ahead : MethodName := ⟨RX8, "ahead", "(II)I"⟩
abbrev cX8_then : ByteArray := prog_10_method_43_code
def yX8_then : MethodName := ⟨RX8, "then", "(I)I"⟩
abbrev cX8_ends : ByteArray := prog_10_method_44_code
def yX8_ends : MethodName := ⟨RX8, "ends", "(I)I"⟩
abbrev cX8_lonely : ByteArray := prog_10_method_45_code
def yX8_lonely : MethodName := ⟨RX8, "lonely", "()I"⟩
abbrev cX8_close : ByteArray := prog_10_method_46_code
def yX8_close : MethodName := ⟨RX8, "close", "(II)I"⟩
abbrev cX8_placeOn : ByteArray := prog_10_method_47_code
def yX8_placeOn : MethodName := ⟨RX8, "placeOn", "(II)I"⟩
abbrev cX8_swaps : ByteArray := prog_10_method_48_code
def yX8_swaps : MethodName := ⟨RX8, "swaps", "(I)I"⟩
abbrev cX8_isOrder : ByteArray := prog_10_method_49_code
def yX8_isOrder : MethodName := ⟨RX8, "isOrder", "(II)Z"⟩
abbrev cX8_isAhead : ByteArray := prog_10_method_50_code
def yX8_isAhead : MethodName := ⟨RX8, "isAhead", "(II)Z"⟩
abbrev cX8_stay : ByteArray := prog_10_method_51_code
def yX8_stay : MethodName := ⟨RX8, "stay", "(II)I"⟩
abbrev cX8_firstOrder : ByteArray := prog_10_method_52_code
def yX8_firstOrder : MethodName := ⟨RX8, "firstOrder", "()V"⟩
abbrev cX8_nextOrder : ByteArray := prog_10_method_53_code
def yX8_nextOrder : MethodName := ⟨RX8, "nextOrder", "()Z"⟩
abbrev cX8_ways : ByteArray := prog_10_method_54_code
def yX8_ways : MethodName := ⟨RX8, "ways", "()I"⟩
abbrev cX8_ease : ByteArray := prog_10_method_55_code
def yX8_ease : MethodName := ⟨RX8, "ease", "(I)I"⟩
abbrev cX8_left : ByteArray := prog_10_method_56_code
def yX8_left : MethodName := ⟨RX8, "left", "(II)I"⟩
abbrev cX8_winter : ByteArray := prog_10_method_57_code
def yX8_winter : MethodName := ⟨RX8, "winter", "(III)I"⟩
abbrev cX8_image : ByteArray := prog_10_method_58_code
def yX8_image : MethodName := ⟨RX8, "image", "()I"⟩
abbrev cX8_restore : ByteArray := prog_10_method_59_code
def yX8_restore : MethodName := ⟨RX8, "restore", "()I"⟩
abbrev cX8_isSheet : ByteArray := prog_10_method_60_code
def yX8_isSheet : MethodName := ⟨RX8, "isSheet", "(I)Z"⟩
abbrev cX8_barred : ByteArray := prog_10_method_61_code
def yX8_barred : MethodName := ⟨RX8, "barred", "(IIII)I"⟩
abbrev cX8_cut : ByteArray := prog_10_method_62_code
def yX8_cut : MethodName := ⟨RX8, "cut", "(IJ)J"⟩
abbrev cX8_isSo : ByteArray := prog_10_method_63_code
def yX8_isSo : MethodName := ⟨RX8, "isSo", "(III)Z"⟩
abbrev cX8_failed : ByteArray := prog_10_method_64_code
def yX8_failed : MethodName := ⟨RX8, "failed", "(IIIIII)I"⟩
abbrev cX8_film : ByteArray := prog_10_method_65_code
def yX8_film : MethodName := ⟨RX8, "film", "(IIIII)I"⟩
abbrev cX8_sheet : ByteArray := prog_10_method_66_code
def yX8_sheet : MethodName := ⟨RX8, "sheet", "(III)I"⟩
abbrev cX8_drop : ByteArray := prog_10_method_67_code
def yX8_drop : MethodName := ⟨RX8, "drop", "(I)I"⟩
abbrev cX8_item : ByteArray := prog_10_method_68_code
def yX8_item : MethodName := ⟨RX8, "item", "(IIIJ)I"⟩
abbrev cX8_copy : ByteArray := prog_10_method_69_code
def yX8_copy : MethodName := ⟨RX8, "copy", "(IIIII)I"⟩
def RJ11 : String := "java/lang/Character"
def TJ11 : u_T := fun k => match k with
  | _ => ("", "", "", false)
def tyJ11 : Nat → FieldType := fun k => match k with
  | _ => .int
abbrev wsJ110 : List Cond := u_ws RJ11 TJ11 0
theorem nmJ11 : ∀ a, a < 0 → ∀ b, b < 0 → a ≠ b → (TJ11 a).2.1 ≠ (TJ11 b).2.1 := by decide +kernel
theorem tyJ11_ok : ∀ k, k < 0 → parseFieldDescriptor (TJ11 k).2.2.1 = some (tyJ11 k) := by decide +kernel
abbrev cJ11_isValidCodePoint_9a6ad : ByteArray := prog_11_method_11_code
def yJ11_isValidCodePoint_9a6ad : MethodName := ⟨RJ11, "isValidCodePoint", "(I)Z"⟩
abbrev cJ11_highSurrogate_5068e : ByteArray := prog_11_method_28_code
def yJ11_highSurrogate_5068e : MethodName := ⟨RJ11, "highSurrogate", "(I)C"⟩
abbrev cJ11_lowSurrogate_5068e : ByteArray := prog_11_method_29_code
def yJ11_lowSurrogate_5068e : MethodName := ⟨RJ11, "lowSurrogate", "(I)C"⟩
def RJ6 : String := "java/lang/Integer"
def TJ6 : u_T := fun k => match k with
  | _ => ("", "", "", false)
def tyJ6 : Nat → FieldType := fun k => match k with
  | _ => .int
abbrev wsJ60 : List Cond := u_ws RJ6 TJ6 0
theorem nmJ6 : ∀ a, a < 0 → ∀ b, b < 0 → a ≠ b → (TJ6 a).2.1 ≠ (TJ6 b).2.1 := by decide +kernel
theorem tyJ6_ok : ∀ k, k < 0 → parseFieldDescriptor (TJ6 k).2.2.1 = some (tyJ6 k) := by decide +kernel
abbrev cJ6_bitCount_0f7a4 : ByteArray := prog_12_method_49_code
def yJ6_bitCount_0f7a4 : MethodName := ⟨RJ6, "bitCount", "(I)I"⟩
def RJ9 : String := "java/lang/Math"
def TJ9 : u_T := fun k => match k with
  | _ => ("", "", "", false)
def tyJ9 : Nat → FieldType := fun k => match k with
  | _ => .int
abbrev wsJ90 : List Cond := u_ws RJ9 TJ9 0
theorem nmJ9 : ∀ a, a < 0 → ∀ b, b < 0 → a ≠ b → (TJ9 a).2.1 ≠ (TJ9 b).2.1 := by decide +kernel
theorem tyJ9_ok : ∀ k, k < 0 → parseFieldDescriptor (TJ9 k).2.2.1 = some (tyJ9 k) := by decide +kernel
abbrev cJ9_max_7cf53 : ByteArray := prog_13_method_65_code
def yJ9_max_7cf53 : MethodName := ⟨RJ9, "max", "(II)I"⟩
abbrev cJ9_min_7cf53 : ByteArray := prog_13_method_69_code
def yJ9_min_7cf53 : MethodName := ⟨RJ9, "min", "(II)I"⟩
def RJ0 : String := "java/lang/String"
def TJ0 : u_T := fun k => match k with
  | _ => ("", "", "", false)
def tyJ0 : Nat → FieldType := fun k => match k with
  | _ => .int
abbrev wsJ00 : List Cond := u_ws RJ0 TJ0 0
theorem nmJ0 : ∀ a, a < 0 → ∀ b, b < 0 → a ≠ b → (TJ0 a).2.1 ≠ (TJ0 b).2.1 := by decide +kernel
theorem tyJ0_ok : ∀ k, k < 0 → parseFieldDescriptor (TJ0 k).2.2.1 = some (tyJ0 k) := by decide +kernel
abbrev cJ0_length_8abf5 : ByteArray := prog_14_method_54_code
def yJ0_length_8abf5 : MethodName := ⟨RJ0, "length", "()I"⟩
abbrev cJ0_indexOf_0f7a4 : ByteArray := prog_14_method_79_code
def yJ0_indexOf_0f7a4 : MethodName := ⟨RJ0, "indexOf", "(I)I"⟩
abbrev cJ0_indexOf_7cf53 : ByteArray := prog_14_method_80_code
def yJ0_indexOf_7cf53 : MethodName := ⟨RJ0, "indexOf", "(II)I"⟩
abbrev cJ0_coder_7d493 : ByteArray := prog_14_method_152_code
def yJ0_coder_7d493 : MethodName := ⟨RJ0, "coder", "()B"⟩
abbrev cJ0_isLatin1_aae02 : ByteArray := prog_14_method_154_code
def yJ0_isLatin1_aae02 : MethodName := ⟨RJ0, "isLatin1", "()Z"⟩
abbrev cJ0_checkBoundsBeginEnd_23922 : ByteArray := prog_14_method_158_code
def yJ0_checkBoundsBeginEnd_23922 : MethodName := ⟨RJ0, "checkBoundsBeginEnd", "(III)V"⟩
def RJ1 : String := "java/lang/StringLatin1"
def TJ1 : u_T := fun k => match k with
  | _ => ("", "", "", false)
def tyJ1 : Nat → FieldType := fun k => match k with
  | _ => .int
abbrev wsJ10 : List Cond := u_ws RJ1 TJ1 0
theorem nmJ1 : ∀ a, a < 0 → ∀ b, b < 0 → a ≠ b → (TJ1 a).2.1 ≠ (TJ1 b).2.1 := by decide +kernel
theorem tyJ1_ok : ∀ k, k < 0 → parseFieldDescriptor (TJ1 k).2.2.1 = some (tyJ1 k) := by decide +kernel
abbrev cJ1_canEncode_9a6ad : ByteArray := prog_15_method_4_code
def yJ1_canEncode_9a6ad : MethodName := ⟨RJ1, "canEncode", "(I)Z"⟩
abbrev cJ1_indexOf_4cfef : ByteArray := prog_15_method_22_code
def yJ1_indexOf_4cfef : MethodName := ⟨RJ1, "indexOf", "([BIII)I"⟩
abbrev cJ1_indexOfChar_4cfef : ByteArray := prog_15_method_23_code
def yJ1_indexOfChar_4cfef : MethodName := ⟨RJ1, "indexOfChar", "([BIII)I"⟩
def RJ2 : String := "java/lang/StringUTF16"
def TJ2 : u_T := fun k => match k with
  | _ => ("", "", "", false)
def tyJ2 : Nat → FieldType := fun k => match k with
  | _ => .int
abbrev wsJ20 : List Cond := u_ws RJ2 TJ2 0
theorem nmJ2 : ∀ a, a < 0 → ∀ b, b < 0 → a ≠ b → (TJ2 a).2.1 ≠ (TJ2 b).2.1 := by decide +kernel
theorem tyJ2_ok : ∀ k, k < 0 → parseFieldDescriptor (TJ2 k).2.2.1 = some (tyJ2 k) := by decide +kernel
abbrev cJ2_getChar_3b067 : ByteArray := prog_16_method_5_code
def yJ2_getChar_3b067 : MethodName := ⟨RJ2, "getChar", "([BI)C"⟩
abbrev cJ2_length_9d52b : ByteArray := prog_16_method_6_code
def yJ2_length_9d52b : MethodName := ⟨RJ2, "length", "([B)I"⟩
abbrev cJ2_indexOf_4cfef : ByteArray := prog_16_method_40_code
def yJ2_indexOf_4cfef : MethodName := ⟨RJ2, "indexOf", "([BIII)I"⟩
abbrev cJ2_indexOfChar_4cfef : ByteArray := prog_16_method_47_code
def yJ2_indexOfChar_4cfef : MethodName := ⟨RJ2, "indexOfChar", "([BIII)I"⟩
abbrev cJ2_indexOfCharUnsafe_4cfef : ByteArray := prog_16_method_48_code
def yJ2_indexOfCharUnsafe_4cfef : MethodName := ⟨RJ2, "indexOfCharUnsafe", "([BIII)I"⟩
abbrev cJ2_indexOfSupplementary_4cfef : ByteArray := prog_16_method_49_code
def yJ2_indexOfSupplementary_4cfef : MethodName := ⟨RJ2, "indexOfSupplementary", "([BIII)I"⟩
abbrev cJ2_checkBoundsBeginEnd_d044e : ByteArray := prog_16_method_93_code
def yJ2_checkBoundsBeginEnd_d044e : MethodName := ⟨RJ2, "checkBoundsBeginEnd", "(II[B)V"⟩
def RJ10 : String := "java/lang/System"
def TJ10 : u_T := fun k => match k with
  | _ => ("", "", "", false)
def tyJ10 : Nat → FieldType := fun k => match k with
  | _ => .int
abbrev wsJ100 : List Cond := u_ws RJ10 TJ10 0
theorem nmJ10 : ∀ a, a < 0 → ∀ b, b < 0 → a ≠ b → (TJ10 a).2.1 ≠ (TJ10 b).2.1 := by decide +kernel
theorem tyJ10_ok : ∀ k, k < 0 → parseFieldDescriptor (TJ10 k).2.2.1 = some (tyJ10 k) := by decide +kernel
def RJ3 : String := "jdk/internal/util/Preconditions"
def TJ3 : u_T := fun k => match k with
  | _ => ("", "", "", false)
def tyJ3 : Nat → FieldType := fun k => match k with
  | _ => .int
abbrev wsJ30 : List Cond := u_ws RJ3 TJ3 0
theorem nmJ3 : ∀ a, a < 0 → ∀ b, b < 0 → a ≠ b → (TJ3 a).2.1 ≠ (TJ3 b).2.1 := by decide +kernel
theorem tyJ3_ok : ∀ k, k < 0 → parseFieldDescriptor (TJ3 k).2.2.1 = some (tyJ3 k) := by decide +kernel
abbrev cJ3_checkFromToIndex_8c36e : ByteArray := prog_18_method_12_code
def yJ3_checkFromToIndex_8c36e : MethodName := ⟨RJ3, "checkFromToIndex", "(IIILjava/util/function/BiFunction;)I"⟩
def RL : String := "BattleBenchLaw"
abbrev cL_law : ByteArray := code
def yL_law : MethodName := ⟨RL, "law", "([I)Z"⟩
abbrev vwCl : List vw_C := [(RX0, TX0, 5), (RX1, TX1, 3), (RX2, TX2, 3), (RX3, TX3, 4), (RX4, TX4, 4), (RX5, TX5, 3), (RX6, TX6, 6), (RX7, TX7, 9), (RX8, TX8, 14)]
theorem inX0 : ∀ w ∈ wsX00, w ∈ lw_tbl := by decide +kernel
theorem inX1 : ∀ w ∈ wsX10, w ∈ lw_tbl := by decide +kernel
theorem inX2 : ∀ w ∈ wsX20, w ∈ lw_tbl := by decide +kernel
theorem inX3 : ∀ w ∈ wsX30, w ∈ lw_tbl := by decide +kernel
theorem inX4 : ∀ w ∈ wsX40, w ∈ lw_tbl := by decide +kernel
theorem inX5 : ∀ w ∈ wsX50, w ∈ lw_tbl := by decide +kernel
theorem inX6 : ∀ w ∈ wsX60, w ∈ lw_tbl := by decide +kernel
theorem inX7 : ∀ w ∈ wsX70, w ∈ lw_tbl := by decide +kernel
theorem inX8 : ∀ w ∈ wsX80, w ∈ lw_tbl := by decide +kernel
end
section
theorem dX0_init_0 : decode cX0_init 0 = .ok (.aload_n 0, 1) := by decide +kernel
theorem dX0_init_1 : decode cX0_init 1 = .ok (.invokespecial 3, 3) := by decide +kernel
theorem dX0_init_4 : decode cX0_init 4 = .ok (.aload_n 0, 1) := by decide +kernel
theorem dX0_init_5 : decode cX0_init 5 = .ok (.bipush 6, 2) := by decide +kernel
theorem dX0_init_7 : decode cX0_init 7 = .ok (.newarray .int, 2) := by decide +kernel
theorem dX0_init_9 : decode cX0_init 9 = .ok (.putfield 9, 3) := by decide +kernel
theorem dX0_init_12 : decode cX0_init 12 = .ok (.aload_n 0, 1) := by decide +kernel
theorem dX0_init_13 : decode cX0_init 13 = .ok (.bipush 6, 2) := by decide +kernel
theorem dX0_init_15 : decode cX0_init 15 = .ok (.newarray .int, 2) := by decide +kernel
theorem dX0_init_17 : decode cX0_init 17 = .ok (.putfield 15, 3) := by decide +kernel
theorem dX0_init_20 : decode cX0_init 20 = .ok (.aload_n 0, 1) := by decide +kernel
theorem dX0_init_21 : decode cX0_init 21 = .ok (.iconst 0, 1) := by decide +kernel
theorem dX0_init_22 : decode cX0_init 22 = .ok (.putfield 18, 3) := by decide +kernel
theorem dX0_init_25 : decode cX0_init 25 = .ok (.aload_n 0, 1) := by decide +kernel
theorem dX0_init_26 : decode cX0_init 26 = .ok (.iconst 0, 1) := by decide +kernel
theorem dX0_init_27 : decode cX0_init 27 = .ok (.putfield 22, 3) := by decide +kernel
theorem dX0_init_30 : decode cX0_init 30 = .ok (.aload_n 0, 1) := by decide +kernel
theorem dX0_init_31 : decode cX0_init 31 = .ok (.iconst 1, 1) := by decide +kernel
theorem dX0_init_32 : decode cX0_init 32 = .ok (.putfield 25, 3) := by decide +kernel
theorem dX0_init_35 : decode cX0_init 35 = .ok (.return_, 1) := by decide +kernel
theorem dX0_takeFrom_0 : decode cX0_takeFrom 0 = .ok (.iconst 0, 1) := by decide +kernel
theorem dX0_takeFrom_1 : decode cX0_takeFrom 1 = .ok (.istore_n 2, 1) := by decide +kernel
theorem dX0_takeFrom_2 : decode cX0_takeFrom 2 = .ok (.iload_n 2, 1) := by decide +kernel
theorem dX0_takeFrom_3 : decode cX0_takeFrom 3 = .ok (.bipush 6, 2) := by decide +kernel
theorem dX0_takeFrom_5 : decode cX0_takeFrom 5 = .ok (.if_icmp .ge 33, 3) := by decide +kernel
theorem dX0_takeFrom_8 : decode cX0_takeFrom 8 = .ok (.aload_n 0, 1) := by decide +kernel
theorem dX0_takeFrom_9 : decode cX0_takeFrom 9 = .ok (.getfield 9, 3) := by decide +kernel
theorem dX0_takeFrom_12 : decode cX0_takeFrom 12 = .ok (.iload_n 2, 1) := by decide +kernel
theorem dX0_takeFrom_13 : decode cX0_takeFrom 13 = .ok (.aload_n 1, 1) := by decide +kernel
theorem dX0_takeFrom_14 : decode cX0_takeFrom 14 = .ok (.getfield 9, 3) := by decide +kernel
theorem dX0_takeFrom_17 : decode cX0_takeFrom 17 = .ok (.iload_n 2, 1) := by decide +kernel
theorem dX0_takeFrom_18 : decode cX0_takeFrom 18 = .ok (.iaload, 1) := by decide +kernel
theorem dX0_takeFrom_19 : decode cX0_takeFrom 19 = .ok (.iastore, 1) := by decide +kernel
theorem dX0_takeFrom_20 : decode cX0_takeFrom 20 = .ok (.aload_n 0, 1) := by decide +kernel
theorem dX0_takeFrom_21 : decode cX0_takeFrom 21 = .ok (.getfield 15, 3) := by decide +kernel
theorem dX0_takeFrom_24 : decode cX0_takeFrom 24 = .ok (.iload_n 2, 1) := by decide +kernel
theorem dX0_takeFrom_25 : decode cX0_takeFrom 25 = .ok (.aload_n 1, 1) := by decide +kernel
theorem dX0_takeFrom_26 : decode cX0_takeFrom 26 = .ok (.getfield 15, 3) := by decide +kernel
theorem dX0_takeFrom_29 : decode cX0_takeFrom 29 = .ok (.iload_n 2, 1) := by decide +kernel
theorem dX0_takeFrom_30 : decode cX0_takeFrom 30 = .ok (.iaload, 1) := by decide +kernel
theorem dX0_takeFrom_31 : decode cX0_takeFrom 31 = .ok (.iastore, 1) := by decide +kernel
theorem dX0_takeFrom_32 : decode cX0_takeFrom 32 = .ok (.iinc 2 1, 3) := by decide +kernel
theorem dX0_takeFrom_35 : decode cX0_takeFrom 35 = .ok (.goto (-33), 3) := by decide +kernel
theorem dX0_takeFrom_38 : decode cX0_takeFrom 38 = .ok (.aload_n 0, 1) := by decide +kernel
theorem dX0_takeFrom_39 : decode cX0_takeFrom 39 = .ok (.aload_n 1, 1) := by decide +kernel
theorem dX0_takeFrom_40 : decode cX0_takeFrom 40 = .ok (.getfield 18, 3) := by decide +kernel
theorem dX0_takeFrom_43 : decode cX0_takeFrom 43 = .ok (.putfield 18, 3) := by decide +kernel
theorem dX0_takeFrom_46 : decode cX0_takeFrom 46 = .ok (.aload_n 0, 1) := by decide +kernel
theorem dX0_takeFrom_47 : decode cX0_takeFrom 47 = .ok (.aload_n 1, 1) := by decide +kernel
theorem dX0_takeFrom_48 : decode cX0_takeFrom 48 = .ok (.getfield 22, 3) := by decide +kernel
theorem dX0_takeFrom_51 : decode cX0_takeFrom 51 = .ok (.putfield 22, 3) := by decide +kernel
theorem dX0_takeFrom_54 : decode cX0_takeFrom 54 = .ok (.aload_n 0, 1) := by decide +kernel
theorem dX0_takeFrom_55 : decode cX0_takeFrom 55 = .ok (.aload_n 1, 1) := by decide +kernel
theorem dX0_takeFrom_56 : decode cX0_takeFrom 56 = .ok (.getfield 25, 3) := by decide +kernel
theorem dX0_takeFrom_59 : decode cX0_takeFrom 59 = .ok (.putfield 25, 3) := by decide +kernel
theorem dX0_takeFrom_62 : decode cX0_takeFrom 62 = .ok (.return_, 1) := by decide +kernel
theorem dX0_seatLast_0 : decode cX0_seatLast 0 = .ok (.aload_n 0, 1) := by decide +kernel
theorem dX0_seatLast_1 : decode cX0_seatLast 1 = .ok (.getfield 18, 3) := by decide +kernel
theorem dX0_seatLast_4 : decode cX0_seatLast 4 = .ok (.bipush 6, 2) := by decide +kernel
theorem dX0_seatLast_6 : decode cX0_seatLast 6 = .ok (.if_icmp .ge 30, 3) := by decide +kernel
theorem dX0_seatLast_9 : decode cX0_seatLast 9 = .ok (.aload_n 0, 1) := by decide +kernel
theorem dX0_seatLast_10 : decode cX0_seatLast 10 = .ok (.getfield 9, 3) := by decide +kernel
theorem dX0_seatLast_13 : decode cX0_seatLast 13 = .ok (.iload_n 1, 1) := by decide +kernel
theorem dX0_seatLast_14 : decode cX0_seatLast 14 = .ok (.iload_n 2, 1) := by decide +kernel
theorem dX0_seatLast_15 : decode cX0_seatLast 15 = .ok (.iastore, 1) := by decide +kernel
theorem dX0_seatLast_16 : decode cX0_seatLast 16 = .ok (.aload_n 0, 1) := by decide +kernel
theorem dX0_seatLast_17 : decode cX0_seatLast 17 = .ok (.getfield 15, 3) := by decide +kernel
theorem dX0_seatLast_20 : decode cX0_seatLast 20 = .ok (.aload_n 0, 1) := by decide +kernel
theorem dX0_seatLast_21 : decode cX0_seatLast 21 = .ok (.getfield 18, 3) := by decide +kernel
theorem dX0_seatLast_24 : decode cX0_seatLast 24 = .ok (.iload_n 1, 1) := by decide +kernel
theorem dX0_seatLast_25 : decode cX0_seatLast 25 = .ok (.iastore, 1) := by decide +kernel
theorem dX0_seatLast_26 : decode cX0_seatLast 26 = .ok (.aload_n 0, 1) := by decide +kernel
theorem dX0_seatLast_27 : decode cX0_seatLast 27 = .ok (.dup, 1) := by decide +kernel
theorem dX0_seatLast_28 : decode cX0_seatLast 28 = .ok (.getfield 18, 3) := by decide +kernel
theorem dX0_seatLast_31 : decode cX0_seatLast 31 = .ok (.iconst 1, 1) := by decide +kernel
theorem dX0_seatLast_32 : decode cX0_seatLast 32 = .ok (.iadd, 1) := by decide +kernel
theorem dX0_seatLast_33 : decode cX0_seatLast 33 = .ok (.putfield 18, 3) := by decide +kernel
theorem dX0_seatLast_36 : decode cX0_seatLast 36 = .ok (.return_, 1) := by decide +kernel
theorem dX0_seatAll_0 : decode cX0_seatAll 0 = .ok (.aload_n 0, 1) := by decide +kernel
theorem dX0_seatAll_1 : decode cX0_seatAll 1 = .ok (.iconst 0, 1) := by decide +kernel
theorem dX0_seatAll_2 : decode cX0_seatAll 2 = .ok (.putfield 18, 3) := by decide +kernel
theorem dX0_seatAll_5 : decode cX0_seatAll 5 = .ok (.aload_n 0, 1) := by decide +kernel
theorem dX0_seatAll_6 : decode cX0_seatAll 6 = .ok (.iconst 0, 1) := by decide +kernel
theorem dX0_seatAll_7 : decode cX0_seatAll 7 = .ok (.putfield 22, 3) := by decide +kernel
theorem dX0_seatAll_10 : decode cX0_seatAll 10 = .ok (.iconst 0, 1) := by decide +kernel
theorem dX0_seatAll_11 : decode cX0_seatAll 11 = .ok (.istore_n 3, 1) := by decide +kernel
theorem dX0_seatAll_12 : decode cX0_seatAll 12 = .ok (.iload_n 3, 1) := by decide +kernel
theorem dX0_seatAll_13 : decode cX0_seatAll 13 = .ok (.iload_n 1, 1) := by decide +kernel
theorem dX0_seatAll_14 : decode cX0_seatAll 14 = .ok (.if_icmp .ge 17, 3) := by decide +kernel
theorem dX0_seatAll_17 : decode cX0_seatAll 17 = .ok (.aload_n 0, 1) := by decide +kernel
theorem dX0_seatAll_18 : decode cX0_seatAll 18 = .ok (.iload_n 3, 1) := by decide +kernel
theorem dX0_seatAll_19 : decode cX0_seatAll 19 = .ok (.aload_n 2, 1) := by decide +kernel
theorem dX0_seatAll_20 : decode cX0_seatAll 20 = .ok (.iload_n 3, 1) := by decide +kernel
theorem dX0_seatAll_21 : decode cX0_seatAll 21 = .ok (.iaload, 1) := by decide +kernel
theorem dX0_seatAll_22 : decode cX0_seatAll 22 = .ok (.invokevirtual 28, 3) := by decide +kernel
theorem dX0_seatAll_25 : decode cX0_seatAll 25 = .ok (.iinc 3 1, 3) := by decide +kernel
theorem dX0_seatAll_28 : decode cX0_seatAll 28 = .ok (.goto (-16), 3) := by decide +kernel
theorem dX0_seatAll_31 : decode cX0_seatAll 31 = .ok (.return_, 1) := by decide +kernel
theorem dX0_seatAs_0 : decode cX0_seatAs 0 = .ok (.iconst 0, 1) := by decide +kernel
theorem dX0_seatAs_1 : decode cX0_seatAs 1 = .ok (.istore_n 2, 1) := by decide +kernel
theorem dX0_seatAs_2 : decode cX0_seatAs 2 = .ok (.iload_n 2, 1) := by decide +kernel
theorem dX0_seatAs_3 : decode cX0_seatAs 3 = .ok (.aload_n 0, 1) := by decide +kernel
theorem dX0_seatAs_4 : decode cX0_seatAs 4 = .ok (.getfield 18, 3) := by decide +kernel
theorem dX0_seatAs_7 : decode cX0_seatAs 7 = .ok (.if_icmp .ge 18, 3) := by decide +kernel
theorem dX0_seatAs_10 : decode cX0_seatAs 10 = .ok (.aload_n 0, 1) := by decide +kernel
theorem dX0_seatAs_11 : decode cX0_seatAs 11 = .ok (.getfield 15, 3) := by decide +kernel
theorem dX0_seatAs_14 : decode cX0_seatAs 14 = .ok (.iload_n 2, 1) := by decide +kernel
theorem dX0_seatAs_15 : decode cX0_seatAs 15 = .ok (.aload_n 1, 1) := by decide +kernel
theorem dX0_seatAs_16 : decode cX0_seatAs 16 = .ok (.iload_n 2, 1) := by decide +kernel
theorem dX0_seatAs_17 : decode cX0_seatAs 17 = .ok (.iaload, 1) := by decide +kernel
theorem dX0_seatAs_18 : decode cX0_seatAs 18 = .ok (.iastore, 1) := by decide +kernel
theorem dX0_seatAs_19 : decode cX0_seatAs 19 = .ok (.iinc 2 1, 3) := by decide +kernel
theorem dX0_seatAs_22 : decode cX0_seatAs 22 = .ok (.goto (-20), 3) := by decide +kernel
theorem dX0_seatAs_25 : decode cX0_seatAs 25 = .ok (.return_, 1) := by decide +kernel
theorem dX0_whoIsOn_0 : decode cX0_whoIsOn 0 = .ok (.iload_n 1, 1) := by decide +kernel
theorem dX0_whoIsOn_1 : decode cX0_whoIsOn 1 = .ok (.iconst 0, 1) := by decide +kernel
theorem dX0_whoIsOn_2 : decode cX0_whoIsOn 2 = .ok (.aload_n 0, 1) := by decide +kernel
theorem dX0_whoIsOn_3 : decode cX0_whoIsOn 3 = .ok (.getfield 18, 3) := by decide +kernel
theorem dX0_whoIsOn_6 : decode cX0_whoIsOn 6 = .ok (.iconst 1, 1) := by decide +kernel
theorem dX0_whoIsOn_7 : decode cX0_whoIsOn 7 = .ok (.isub, 1) := by decide +kernel
theorem dX0_whoIsOn_8 : decode cX0_whoIsOn 8 = .ok (.invokestatic 32, 3) := by decide +kernel
theorem dX0_whoIsOn_11 : decode cX0_whoIsOn 11 = .ok (.ifCond .eq 12, 3) := by decide +kernel
theorem dX0_whoIsOn_14 : decode cX0_whoIsOn 14 = .ok (.aload_n 0, 1) := by decide +kernel
theorem dX0_whoIsOn_15 : decode cX0_whoIsOn 15 = .ok (.getfield 15, 3) := by decide +kernel
theorem dX0_whoIsOn_18 : decode cX0_whoIsOn 18 = .ok (.iload_n 1, 1) := by decide +kernel
theorem dX0_whoIsOn_19 : decode cX0_whoIsOn 19 = .ok (.iaload, 1) := by decide +kernel
theorem dX0_whoIsOn_20 : decode cX0_whoIsOn 20 = .ok (.goto 5, 3) := by decide +kernel
theorem dX0_whoIsOn_23 : decode cX0_whoIsOn 23 = .ok (.bipush (-4), 2) := by decide +kernel
theorem dX0_whoIsOn_25 : decode cX0_whoIsOn 25 = .ok (.ireturn, 1) := by decide +kernel
theorem dX0_seatOf_0 : decode cX0_seatOf 0 = .ok (.iconst 0, 1) := by decide +kernel
theorem dX0_seatOf_1 : decode cX0_seatOf 1 = .ok (.istore_n 2, 1) := by decide +kernel
theorem dX0_seatOf_2 : decode cX0_seatOf 2 = .ok (.iload_n 2, 1) := by decide +kernel
theorem dX0_seatOf_3 : decode cX0_seatOf 3 = .ok (.aload_n 0, 1) := by decide +kernel
theorem dX0_seatOf_4 : decode cX0_seatOf 4 = .ok (.getfield 18, 3) := by decide +kernel
theorem dX0_seatOf_7 : decode cX0_seatOf 7 = .ok (.if_icmp .ge 21, 3) := by decide +kernel
theorem dX0_seatOf_10 : decode cX0_seatOf 10 = .ok (.aload_n 0, 1) := by decide +kernel
theorem dX0_seatOf_11 : decode cX0_seatOf 11 = .ok (.getfield 15, 3) := by decide +kernel
theorem dX0_seatOf_14 : decode cX0_seatOf 14 = .ok (.iload_n 2, 1) := by decide +kernel
theorem dX0_seatOf_15 : decode cX0_seatOf 15 = .ok (.iaload, 1) := by decide +kernel
theorem dX0_seatOf_16 : decode cX0_seatOf 16 = .ok (.iload_n 1, 1) := by decide +kernel
theorem dX0_seatOf_17 : decode cX0_seatOf 17 = .ok (.if_icmp .ne 5, 3) := by decide +kernel
theorem dX0_seatOf_20 : decode cX0_seatOf 20 = .ok (.iload_n 2, 1) := by decide +kernel
theorem dX0_seatOf_21 : decode cX0_seatOf 21 = .ok (.ireturn, 1) := by decide +kernel
theorem dX0_seatOf_22 : decode cX0_seatOf 22 = .ok (.iinc 2 1, 3) := by decide +kernel
theorem dX0_seatOf_25 : decode cX0_seatOf 25 = .ok (.goto (-23), 3) := by decide +kernel
theorem dX0_seatOf_28 : decode cX0_seatOf 28 = .ok (.bipush (-4), 2) := by decide +kernel
theorem dX0_seatOf_30 : decode cX0_seatOf 30 = .ok (.ireturn, 1) := by decide +kernel
theorem dX0_whoSits_0 : decode cX0_whoSits 0 = .ok (.iconst 0, 1) := by decide +kernel
theorem dX0_whoSits_1 : decode cX0_whoSits 1 = .ok (.istore_n 1, 1) := by decide +kernel
theorem dX0_whoSits_2 : decode cX0_whoSits 2 = .ok (.iconst 0, 1) := by decide +kernel
theorem dX0_whoSits_3 : decode cX0_whoSits 3 = .ok (.istore_n 2, 1) := by decide +kernel
theorem dX0_whoSits_4 : decode cX0_whoSits 4 = .ok (.iload_n 2, 1) := by decide +kernel
theorem dX0_whoSits_5 : decode cX0_whoSits 5 = .ok (.aload_n 0, 1) := by decide +kernel
theorem dX0_whoSits_6 : decode cX0_whoSits 6 = .ok (.getfield 18, 3) := by decide +kernel
theorem dX0_whoSits_9 : decode cX0_whoSits 9 = .ok (.if_icmp .ge 20, 3) := by decide +kernel
theorem dX0_whoSits_12 : decode cX0_whoSits 12 = .ok (.iload_n 1, 1) := by decide +kernel
theorem dX0_whoSits_13 : decode cX0_whoSits 13 = .ok (.iconst 1, 1) := by decide +kernel
theorem dX0_whoSits_14 : decode cX0_whoSits 14 = .ok (.aload_n 0, 1) := by decide +kernel
theorem dX0_whoSits_15 : decode cX0_whoSits 15 = .ok (.getfield 15, 3) := by decide +kernel
theorem dX0_whoSits_18 : decode cX0_whoSits 18 = .ok (.iload_n 2, 1) := by decide +kernel
theorem dX0_whoSits_19 : decode cX0_whoSits 19 = .ok (.iaload, 1) := by decide +kernel
theorem dX0_whoSits_20 : decode cX0_whoSits 20 = .ok (.ishl, 1) := by decide +kernel
theorem dX0_whoSits_21 : decode cX0_whoSits 21 = .ok (.ior, 1) := by decide +kernel
theorem dX0_whoSits_22 : decode cX0_whoSits 22 = .ok (.istore_n 1, 1) := by decide +kernel
theorem dX0_whoSits_23 : decode cX0_whoSits 23 = .ok (.iinc 2 1, 3) := by decide +kernel
theorem dX0_whoSits_26 : decode cX0_whoSits 26 = .ok (.goto (-22), 3) := by decide +kernel
theorem dX0_whoSits_29 : decode cX0_whoSits 29 = .ok (.iload_n 1, 1) := by decide +kernel
theorem dX0_whoSits_30 : decode cX0_whoSits 30 = .ok (.ireturn, 1) := by decide +kernel
theorem dX0_whoSitsBy_0 : decode cX0_whoSitsBy 0 = .ok (.aload_n 0, 1) := by decide +kernel
theorem dX0_whoSitsBy_1 : decode cX0_whoSitsBy 1 = .ok (.iload_n 1, 1) := by decide +kernel
theorem dX0_whoSitsBy_2 : decode cX0_whoSitsBy 2 = .ok (.invokevirtual 36, 3) := by decide +kernel
theorem dX0_whoSitsBy_5 : decode cX0_whoSitsBy 5 = .ok (.istore_n 2, 1) := by decide +kernel
theorem dX0_whoSitsBy_6 : decode cX0_whoSitsBy 6 = .ok (.iload_n 2, 1) := by decide +kernel
theorem dX0_whoSitsBy_7 : decode cX0_whoSitsBy 7 = .ok (.bipush (-4), 2) := by decide +kernel
theorem dX0_whoSitsBy_9 : decode cX0_whoSitsBy 9 = .ok (.if_icmp .ne 5, 3) := by decide +kernel
theorem dX0_whoSitsBy_12 : decode cX0_whoSitsBy 12 = .ok (.iconst 0, 1) := by decide +kernel
theorem dX0_whoSitsBy_13 : decode cX0_whoSitsBy 13 = .ok (.ireturn, 1) := by decide +kernel
theorem dX0_whoSitsBy_14 : decode cX0_whoSitsBy 14 = .ok (.aload_n 0, 1) := by decide +kernel
theorem dX0_whoSitsBy_15 : decode cX0_whoSitsBy 15 = .ok (.iload_n 2, 1) := by decide +kernel
theorem dX0_whoSitsBy_16 : decode cX0_whoSitsBy 16 = .ok (.iconst 1, 1) := by decide +kernel
theorem dX0_whoSitsBy_17 : decode cX0_whoSitsBy 17 = .ok (.isub, 1) := by decide +kernel
theorem dX0_whoSitsBy_18 : decode cX0_whoSitsBy 18 = .ok (.invokevirtual 40, 3) := by decide +kernel
theorem dX0_whoSitsBy_21 : decode cX0_whoSitsBy 21 = .ok (.invokestatic 43, 3) := by decide +kernel
theorem dX0_whoSitsBy_24 : decode cX0_whoSitsBy 24 = .ok (.aload_n 0, 1) := by decide +kernel
theorem dX0_whoSitsBy_25 : decode cX0_whoSitsBy 25 = .ok (.iload_n 2, 1) := by decide +kernel
theorem dX0_whoSitsBy_26 : decode cX0_whoSitsBy 26 = .ok (.iconst 1, 1) := by decide +kernel
theorem dX0_whoSitsBy_27 : decode cX0_whoSitsBy 27 = .ok (.iadd, 1) := by decide +kernel
theorem dX0_whoSitsBy_28 : decode cX0_whoSitsBy 28 = .ok (.invokevirtual 40, 3) := by decide +kernel
theorem dX0_whoSitsBy_31 : decode cX0_whoSitsBy 31 = .ok (.invokestatic 43, 3) := by decide +kernel
theorem dX0_whoSitsBy_34 : decode cX0_whoSitsBy 34 = .ok (.ior, 1) := by decide +kernel
theorem dX0_whoSitsBy_35 : decode cX0_whoSitsBy 35 = .ok (.ireturn, 1) := by decide +kernel
theorem dX0_beside_0 : decode cX0_beside 0 = .ok (.iload_n 1, 1) := by decide +kernel
theorem dX0_beside_1 : decode cX0_beside 1 = .ok (.iconst 0, 1) := by decide +kernel
theorem dX0_beside_2 : decode cX0_beside 2 = .ok (.aload_n 0, 1) := by decide +kernel
theorem dX0_beside_3 : decode cX0_beside 3 = .ok (.getfield 18, 3) := by decide +kernel
theorem dX0_beside_6 : decode cX0_beside 6 = .ok (.iconst 1, 1) := by decide +kernel
theorem dX0_beside_7 : decode cX0_beside 7 = .ok (.isub, 1) := by decide +kernel
theorem dX0_beside_8 : decode cX0_beside 8 = .ok (.invokestatic 32, 3) := by decide +kernel
theorem dX0_beside_11 : decode cX0_beside 11 = .ok (.ifCond .eq 12, 3) := by decide +kernel
theorem dX0_beside_14 : decode cX0_beside 14 = .ok (.aload_n 0, 1) := by decide +kernel
theorem dX0_beside_15 : decode cX0_beside 15 = .ok (.getfield 15, 3) := by decide +kernel
theorem dX0_beside_18 : decode cX0_beside 18 = .ok (.iload_n 1, 1) := by decide +kernel
theorem dX0_beside_19 : decode cX0_beside 19 = .ok (.iaload, 1) := by decide +kernel
theorem dX0_beside_20 : decode cX0_beside 20 = .ok (.goto 4, 3) := by decide +kernel
theorem dX0_beside_23 : decode cX0_beside 23 = .ok (.iconst (-1), 1) := by decide +kernel
theorem dX0_beside_24 : decode cX0_beside 24 = .ok (.ireturn, 1) := by decide +kernel
theorem dX0_setOf_0 : decode cX0_setOf 0 = .ok (.iload_n 0, 1) := by decide +kernel
theorem dX0_setOf_1 : decode cX0_setOf 1 = .ok (.iconst (-1), 1) := by decide +kernel
theorem dX0_setOf_2 : decode cX0_setOf 2 = .ok (.if_icmp .ne 7, 3) := by decide +kernel
theorem dX0_setOf_5 : decode cX0_setOf 5 = .ok (.iconst 0, 1) := by decide +kernel
theorem dX0_setOf_6 : decode cX0_setOf 6 = .ok (.goto 6, 3) := by decide +kernel
theorem dX0_setOf_9 : decode cX0_setOf 9 = .ok (.iconst 1, 1) := by decide +kernel
theorem dX0_setOf_10 : decode cX0_setOf 10 = .ok (.iload_n 0, 1) := by decide +kernel
theorem dX0_setOf_11 : decode cX0_setOf 11 = .ok (.ishl, 1) := by decide +kernel
theorem dX0_setOf_12 : decode cX0_setOf 12 = .ok (.ireturn, 1) := by decide +kernel
theorem dX0_lifeOfAll_0 : decode cX0_lifeOfAll 0 = .ok (.iconst 0, 1) := by decide +kernel
theorem dX0_lifeOfAll_1 : decode cX0_lifeOfAll 1 = .ok (.istore_n 1, 1) := by decide +kernel
theorem dX0_lifeOfAll_2 : decode cX0_lifeOfAll 2 = .ok (.iconst 0, 1) := by decide +kernel
theorem dX0_lifeOfAll_3 : decode cX0_lifeOfAll 3 = .ok (.istore_n 2, 1) := by decide +kernel
theorem dX0_lifeOfAll_4 : decode cX0_lifeOfAll 4 = .ok (.iload_n 2, 1) := by decide +kernel
theorem dX0_lifeOfAll_5 : decode cX0_lifeOfAll 5 = .ok (.aload_n 0, 1) := by decide +kernel
theorem dX0_lifeOfAll_6 : decode cX0_lifeOfAll 6 = .ok (.getfield 18, 3) := by decide +kernel
theorem dX0_lifeOfAll_9 : decode cX0_lifeOfAll 9 = .ok (.if_icmp .ge 23, 3) := by decide +kernel
theorem dX0_lifeOfAll_12 : decode cX0_lifeOfAll 12 = .ok (.iload_n 1, 1) := by decide +kernel
theorem dX0_lifeOfAll_13 : decode cX0_lifeOfAll 13 = .ok (.aload_n 0, 1) := by decide +kernel
theorem dX0_lifeOfAll_14 : decode cX0_lifeOfAll 14 = .ok (.getfield 9, 3) := by decide +kernel
theorem dX0_lifeOfAll_17 : decode cX0_lifeOfAll 17 = .ok (.aload_n 0, 1) := by decide +kernel
theorem dX0_lifeOfAll_18 : decode cX0_lifeOfAll 18 = .ok (.getfield 15, 3) := by decide +kernel
theorem dX0_lifeOfAll_21 : decode cX0_lifeOfAll 21 = .ok (.iload_n 2, 1) := by decide +kernel
theorem dX0_lifeOfAll_22 : decode cX0_lifeOfAll 22 = .ok (.iaload, 1) := by decide +kernel
theorem dX0_lifeOfAll_23 : decode cX0_lifeOfAll 23 = .ok (.iaload, 1) := by decide +kernel
theorem dX0_lifeOfAll_24 : decode cX0_lifeOfAll 24 = .ok (.iadd, 1) := by decide +kernel
theorem dX0_lifeOfAll_25 : decode cX0_lifeOfAll 25 = .ok (.istore_n 1, 1) := by decide +kernel
theorem dX0_lifeOfAll_26 : decode cX0_lifeOfAll 26 = .ok (.iinc 2 1, 3) := by decide +kernel
theorem dX0_lifeOfAll_29 : decode cX0_lifeOfAll 29 = .ok (.goto (-25), 3) := by decide +kernel
theorem dX0_lifeOfAll_32 : decode cX0_lifeOfAll 32 = .ok (.iload_n 1, 1) := by decide +kernel
theorem dX0_lifeOfAll_33 : decode cX0_lifeOfAll 33 = .ok (.ireturn, 1) := by decide +kernel
theorem dX0_lossOf_0 : decode cX0_lossOf 0 = .ok (.aload_n 0, 1) := by decide +kernel
theorem dX0_lossOf_1 : decode cX0_lossOf 1 = .ok (.iload_n 1, 1) := by decide +kernel
theorem dX0_lossOf_2 : decode cX0_lossOf 2 = .ok (.invokevirtual 36, 3) := by decide +kernel
theorem dX0_lossOf_5 : decode cX0_lossOf 5 = .ok (.istore_n 3, 1) := by decide +kernel
theorem dX0_lossOf_6 : decode cX0_lossOf 6 = .ok (.iload_n 3, 1) := by decide +kernel
theorem dX0_lossOf_7 : decode cX0_lossOf 7 = .ok (.bipush (-4), 2) := by decide +kernel
theorem dX0_lossOf_9 : decode cX0_lossOf 9 = .ok (.if_icmp .ne 7, 3) := by decide +kernel
theorem dX0_lossOf_12 : decode cX0_lossOf 12 = .ok (.iconst 0, 1) := by decide +kernel
theorem dX0_lossOf_13 : decode cX0_lossOf 13 = .ok (.goto 26, 3) := by decide +kernel
theorem dX0_lossOf_16 : decode cX0_lossOf 16 = .ok (.aload_n 2, 1) := by decide +kernel
theorem dX0_lossOf_17 : decode cX0_lossOf 17 = .ok (.iload_n 1, 1) := by decide +kernel
theorem dX0_lossOf_18 : decode cX0_lossOf 18 = .ok (.aload_n 0, 1) := by decide +kernel
theorem dX0_lossOf_19 : decode cX0_lossOf 19 = .ok (.getfield 22, 3) := by decide +kernel
theorem dX0_lossOf_22 : decode cX0_lossOf 22 = .ok (.aload_n 0, 1) := by decide +kernel
theorem dX0_lossOf_23 : decode cX0_lossOf 23 = .ok (.iload_n 3, 1) := by decide +kernel
theorem dX0_lossOf_24 : decode cX0_lossOf 24 = .ok (.iconst 1, 1) := by decide +kernel
theorem dX0_lossOf_25 : decode cX0_lossOf 25 = .ok (.isub, 1) := by decide +kernel
theorem dX0_lossOf_26 : decode cX0_lossOf 26 = .ok (.invokevirtual 40, 3) := by decide +kernel
theorem dX0_lossOf_29 : decode cX0_lossOf 29 = .ok (.aload_n 0, 1) := by decide +kernel
theorem dX0_lossOf_30 : decode cX0_lossOf 30 = .ok (.iload_n 3, 1) := by decide +kernel
theorem dX0_lossOf_31 : decode cX0_lossOf 31 = .ok (.iconst 1, 1) := by decide +kernel
theorem dX0_lossOf_32 : decode cX0_lossOf 32 = .ok (.iadd, 1) := by decide +kernel
theorem dX0_lossOf_33 : decode cX0_lossOf 33 = .ok (.invokevirtual 40, 3) := by decide +kernel
theorem dX0_lossOf_36 : decode cX0_lossOf 36 = .ok (.invokevirtual 46, 3) := by decide +kernel
theorem dX0_lossOf_39 : decode cX0_lossOf 39 = .ok (.ireturn, 1) := by decide +kernel
theorem dX0_hasPairAt_0 : decode cX0_hasPairAt 0 = .ok (.iload_n 1, 1) := by decide +kernel
theorem dX0_hasPairAt_1 : decode cX0_hasPairAt 1 = .ok (.iconst 0, 1) := by decide +kernel
theorem dX0_hasPairAt_2 : decode cX0_hasPairAt 2 = .ok (.aload_n 0, 1) := by decide +kernel
theorem dX0_hasPairAt_3 : decode cX0_hasPairAt 3 = .ok (.getfield 18, 3) := by decide +kernel
theorem dX0_hasPairAt_6 : decode cX0_hasPairAt 6 = .ok (.iconst 2, 1) := by decide +kernel
theorem dX0_hasPairAt_7 : decode cX0_hasPairAt 7 = .ok (.isub, 1) := by decide +kernel
theorem dX0_hasPairAt_8 : decode cX0_hasPairAt 8 = .ok (.invokestatic 32, 3) := by decide +kernel
theorem dX0_hasPairAt_11 : decode cX0_hasPairAt 11 = .ok (.ireturn, 1) := by decide +kernel
theorem dX0_swapAt_0 : decode cX0_swapAt 0 = .ok (.aload_n 0, 1) := by decide +kernel
theorem dX0_swapAt_1 : decode cX0_swapAt 1 = .ok (.iload_n 1, 1) := by decide +kernel
theorem dX0_swapAt_2 : decode cX0_swapAt 2 = .ok (.invokevirtual 52, 3) := by decide +kernel
theorem dX0_swapAt_5 : decode cX0_swapAt 5 = .ok (.ifCond .eq 33, 3) := by decide +kernel
theorem dX0_swapAt_8 : decode cX0_swapAt 8 = .ok (.aload_n 0, 1) := by decide +kernel
theorem dX0_swapAt_9 : decode cX0_swapAt 9 = .ok (.getfield 15, 3) := by decide +kernel
theorem dX0_swapAt_12 : decode cX0_swapAt 12 = .ok (.iload_n 1, 1) := by decide +kernel
theorem dX0_swapAt_13 : decode cX0_swapAt 13 = .ok (.iaload, 1) := by decide +kernel
theorem dX0_swapAt_14 : decode cX0_swapAt 14 = .ok (.istore_n 2, 1) := by decide +kernel
theorem dX0_swapAt_15 : decode cX0_swapAt 15 = .ok (.aload_n 0, 1) := by decide +kernel
theorem dX0_swapAt_16 : decode cX0_swapAt 16 = .ok (.getfield 15, 3) := by decide +kernel
theorem dX0_swapAt_19 : decode cX0_swapAt 19 = .ok (.iload_n 1, 1) := by decide +kernel
theorem dX0_swapAt_20 : decode cX0_swapAt 20 = .ok (.aload_n 0, 1) := by decide +kernel
theorem dX0_swapAt_21 : decode cX0_swapAt 21 = .ok (.getfield 15, 3) := by decide +kernel
theorem dX0_swapAt_24 : decode cX0_swapAt 24 = .ok (.iload_n 1, 1) := by decide +kernel
theorem dX0_swapAt_25 : decode cX0_swapAt 25 = .ok (.iconst 1, 1) := by decide +kernel
theorem dX0_swapAt_26 : decode cX0_swapAt 26 = .ok (.iadd, 1) := by decide +kernel
theorem dX0_swapAt_27 : decode cX0_swapAt 27 = .ok (.iaload, 1) := by decide +kernel
theorem dX0_swapAt_28 : decode cX0_swapAt 28 = .ok (.iastore, 1) := by decide +kernel
theorem dX0_swapAt_29 : decode cX0_swapAt 29 = .ok (.aload_n 0, 1) := by decide +kernel
theorem dX0_swapAt_30 : decode cX0_swapAt 30 = .ok (.getfield 15, 3) := by decide +kernel
theorem dX0_swapAt_33 : decode cX0_swapAt 33 = .ok (.iload_n 1, 1) := by decide +kernel
theorem dX0_swapAt_34 : decode cX0_swapAt 34 = .ok (.iconst 1, 1) := by decide +kernel
theorem dX0_swapAt_35 : decode cX0_swapAt 35 = .ok (.iadd, 1) := by decide +kernel
theorem dX0_swapAt_36 : decode cX0_swapAt 36 = .ok (.iload_n 2, 1) := by decide +kernel
theorem dX0_swapAt_37 : decode cX0_swapAt 37 = .ok (.iastore, 1) := by decide +kernel
theorem dX0_swapAt_38 : decode cX0_swapAt 38 = .ok (.return_, 1) := by decide +kernel
theorem dX0_moveByDraw_0 : decode cX0_moveByDraw 0 = .ok (.aload_n 0, 1) := by decide +kernel
theorem dX0_moveByDraw_1 : decode cX0_moveByDraw 1 = .ok (.aload_n 0, 1) := by decide +kernel
theorem dX0_moveByDraw_2 : decode cX0_moveByDraw 2 = .ok (.getfield 25, 3) := by decide +kernel
theorem dX0_moveByDraw_5 : decode cX0_moveByDraw 5 = .ok (.ldc 56, 2) := by decide +kernel
theorem dX0_moveByDraw_7 : decode cX0_moveByDraw 7 = .ok (.imul, 1) := by decide +kernel
theorem dX0_moveByDraw_8 : decode cX0_moveByDraw 8 = .ok (.sipush 12345, 3) := by decide +kernel
theorem dX0_moveByDraw_11 : decode cX0_moveByDraw 11 = .ok (.iadd, 1) := by decide +kernel
theorem dX0_moveByDraw_12 : decode cX0_moveByDraw 12 = .ok (.ldc 59, 2) := by decide +kernel
theorem dX0_moveByDraw_14 : decode cX0_moveByDraw 14 = .ok (.iand, 1) := by decide +kernel
theorem dX0_moveByDraw_15 : decode cX0_moveByDraw 15 = .ok (.putfield 25, 3) := by decide +kernel
theorem dX0_moveByDraw_18 : decode cX0_moveByDraw 18 = .ok (.aload_n 0, 1) := by decide +kernel
theorem dX0_moveByDraw_19 : decode cX0_moveByDraw 19 = .ok (.getfield 18, 3) := by decide +kernel
theorem dX0_moveByDraw_22 : decode cX0_moveByDraw 22 = .ok (.iconst 2, 1) := by decide +kernel
theorem dX0_moveByDraw_23 : decode cX0_moveByDraw 23 = .ok (.if_icmp .lt 21, 3) := by decide +kernel
theorem dX0_moveByDraw_26 : decode cX0_moveByDraw 26 = .ok (.aload_n 0, 1) := by decide +kernel
theorem dX0_moveByDraw_27 : decode cX0_moveByDraw 27 = .ok (.aload_n 0, 1) := by decide +kernel
theorem dX0_moveByDraw_28 : decode cX0_moveByDraw 28 = .ok (.getfield 25, 3) := by decide +kernel
theorem dX0_moveByDraw_31 : decode cX0_moveByDraw 31 = .ok (.ldc 60, 2) := by decide +kernel
theorem dX0_moveByDraw_33 : decode cX0_moveByDraw 33 = .ok (.idiv, 1) := by decide +kernel
theorem dX0_moveByDraw_34 : decode cX0_moveByDraw 34 = .ok (.aload_n 0, 1) := by decide +kernel
theorem dX0_moveByDraw_35 : decode cX0_moveByDraw 35 = .ok (.getfield 18, 3) := by decide +kernel
theorem dX0_moveByDraw_38 : decode cX0_moveByDraw 38 = .ok (.iconst 1, 1) := by decide +kernel
theorem dX0_moveByDraw_39 : decode cX0_moveByDraw 39 = .ok (.isub, 1) := by decide +kernel
theorem dX0_moveByDraw_40 : decode cX0_moveByDraw 40 = .ok (.irem, 1) := by decide +kernel
theorem dX0_moveByDraw_41 : decode cX0_moveByDraw 41 = .ok (.invokevirtual 61, 3) := by decide +kernel
theorem dX0_moveByDraw_44 : decode cX0_moveByDraw 44 = .ok (.return_, 1) := by decide +kernel
theorem dX0_passYear_0 : decode cX0_passYear 0 = .ok (.aload_n 0, 1) := by decide +kernel
theorem dX0_passYear_1 : decode cX0_passYear 1 = .ok (.getfield 18, 3) := by decide +kernel
theorem dX0_passYear_4 : decode cX0_passYear 4 = .ok (.iconst 1, 1) := by decide +kernel
theorem dX0_passYear_5 : decode cX0_passYear 5 = .ok (.isub, 1) := by decide +kernel
theorem dX0_passYear_6 : decode cX0_passYear 6 = .ok (.istore_n 2, 1) := by decide +kernel
theorem dX0_passYear_7 : decode cX0_passYear 7 = .ok (.iconst 0, 1) := by decide +kernel
theorem dX0_passYear_8 : decode cX0_passYear 8 = .ok (.istore_n 3, 1) := by decide +kernel
theorem dX0_passYear_9 : decode cX0_passYear 9 = .ok (.iconst (-1), 1) := by decide +kernel
theorem dX0_passYear_10 : decode cX0_passYear 10 = .ok (.istore 4, 2) := by decide +kernel
theorem dX0_passYear_12 : decode cX0_passYear 12 = .ok (.iconst 0, 1) := by decide +kernel
theorem dX0_passYear_13 : decode cX0_passYear 13 = .ok (.istore 5, 2) := by decide +kernel
theorem dX0_passYear_15 : decode cX0_passYear 15 = .ok (.iload 5, 2) := by decide +kernel
theorem dX0_passYear_17 : decode cX0_passYear 17 = .ok (.iload_n 2, 1) := by decide +kernel
theorem dX0_passYear_18 : decode cX0_passYear 18 = .ok (.if_icmp .gt 97, 3) := by decide +kernel
theorem dX0_passYear_21 : decode cX0_passYear 21 = .ok (.aload_n 0, 1) := by decide +kernel
theorem dX0_passYear_22 : decode cX0_passYear 22 = .ok (.getfield 15, 3) := by decide +kernel
theorem dX0_passYear_25 : decode cX0_passYear 25 = .ok (.iload 5, 2) := by decide +kernel
theorem dX0_passYear_27 : decode cX0_passYear 27 = .ok (.iaload, 1) := by decide +kernel
theorem dX0_passYear_28 : decode cX0_passYear 28 = .ok (.istore 6, 2) := by decide +kernel
theorem dX0_passYear_30 : decode cX0_passYear 30 = .ok (.iload 5, 2) := by decide +kernel
theorem dX0_passYear_32 : decode cX0_passYear 32 = .ok (.iload_n 2, 1) := by decide +kernel
theorem dX0_passYear_33 : decode cX0_passYear 33 = .ok (.if_icmp .ge 15, 3) := by decide +kernel
theorem dX0_passYear_36 : decode cX0_passYear 36 = .ok (.aload_n 0, 1) := by decide +kernel
theorem dX0_passYear_37 : decode cX0_passYear 37 = .ok (.getfield 15, 3) := by decide +kernel
theorem dX0_passYear_40 : decode cX0_passYear 40 = .ok (.iload 5, 2) := by decide +kernel
theorem dX0_passYear_42 : decode cX0_passYear 42 = .ok (.iconst 1, 1) := by decide +kernel
theorem dX0_passYear_43 : decode cX0_passYear 43 = .ok (.iadd, 1) := by decide +kernel
theorem dX0_passYear_44 : decode cX0_passYear 44 = .ok (.iaload, 1) := by decide +kernel
theorem dX0_passYear_45 : decode cX0_passYear 45 = .ok (.goto 4, 3) := by decide +kernel
theorem dX0_passYear_48 : decode cX0_passYear 48 = .ok (.iconst (-1), 1) := by decide +kernel
theorem dX0_passYear_49 : decode cX0_passYear 49 = .ok (.istore 7, 2) := by decide +kernel
theorem dX0_passYear_51 : decode cX0_passYear 51 = .ok (.aload_n 0, 1) := by decide +kernel
theorem dX0_passYear_52 : decode cX0_passYear 52 = .ok (.getfield 9, 3) := by decide +kernel
theorem dX0_passYear_55 : decode cX0_passYear 55 = .ok (.iload 6, 2) := by decide +kernel
theorem dX0_passYear_57 : decode cX0_passYear 57 = .ok (.iconst 0, 1) := by decide +kernel
theorem dX0_passYear_58 : decode cX0_passYear 58 = .ok (.aload_n 0, 1) := by decide +kernel
theorem dX0_passYear_59 : decode cX0_passYear 59 = .ok (.getfield 9, 3) := by decide +kernel
theorem dX0_passYear_62 : decode cX0_passYear 62 = .ok (.iload 6, 2) := by decide +kernel
theorem dX0_passYear_64 : decode cX0_passYear 64 = .ok (.iaload, 1) := by decide +kernel
theorem dX0_passYear_65 : decode cX0_passYear 65 = .ok (.aload_n 1, 1) := by decide +kernel
theorem dX0_passYear_66 : decode cX0_passYear 66 = .ok (.iload 6, 2) := by decide +kernel
theorem dX0_passYear_68 : decode cX0_passYear 68 = .ok (.aload_n 0, 1) := by decide +kernel
theorem dX0_passYear_69 : decode cX0_passYear 69 = .ok (.getfield 22, 3) := by decide +kernel
theorem dX0_passYear_72 : decode cX0_passYear 72 = .ok (.iload 4, 2) := by decide +kernel
theorem dX0_passYear_74 : decode cX0_passYear 74 = .ok (.iload 7, 2) := by decide +kernel
theorem dX0_passYear_76 : decode cX0_passYear 76 = .ok (.invokevirtual 46, 3) := by decide +kernel
theorem dX0_passYear_79 : decode cX0_passYear 79 = .ok (.isub, 1) := by decide +kernel
theorem dX0_passYear_80 : decode cX0_passYear 80 = .ok (.invokestatic 65, 3) := by decide +kernel
theorem dX0_passYear_83 : decode cX0_passYear 83 = .ok (.iastore, 1) := by decide +kernel
theorem dX0_passYear_84 : decode cX0_passYear 84 = .ok (.aload_n 0, 1) := by decide +kernel
theorem dX0_passYear_85 : decode cX0_passYear 85 = .ok (.getfield 9, 3) := by decide +kernel
theorem dX0_passYear_88 : decode cX0_passYear 88 = .ok (.iload 6, 2) := by decide +kernel
theorem dX0_passYear_90 : decode cX0_passYear 90 = .ok (.iaload, 1) := by decide +kernel
theorem dX0_passYear_91 : decode cX0_passYear 91 = .ok (.ifCond .le 14, 3) := by decide +kernel
theorem dX0_passYear_94 : decode cX0_passYear 94 = .ok (.aload_n 0, 1) := by decide +kernel
theorem dX0_passYear_95 : decode cX0_passYear 95 = .ok (.getfield 15, 3) := by decide +kernel
theorem dX0_passYear_98 : decode cX0_passYear 98 = .ok (.iload_n 3, 1) := by decide +kernel
theorem dX0_passYear_99 : decode cX0_passYear 99 = .ok (.iload 6, 2) := by decide +kernel
theorem dX0_passYear_101 : decode cX0_passYear 101 = .ok (.iastore, 1) := by decide +kernel
theorem dX0_passYear_102 : decode cX0_passYear 102 = .ok (.iinc 3 1, 3) := by decide +kernel
theorem dX0_passYear_105 : decode cX0_passYear 105 = .ok (.iload 6, 2) := by decide +kernel
theorem dX0_passYear_107 : decode cX0_passYear 107 = .ok (.istore 4, 2) := by decide +kernel
theorem dX0_passYear_109 : decode cX0_passYear 109 = .ok (.iinc 5 1, 3) := by decide +kernel
theorem dX0_passYear_112 : decode cX0_passYear 112 = .ok (.goto (-97), 3) := by decide +kernel
theorem dX0_passYear_115 : decode cX0_passYear 115 = .ok (.aload_n 0, 1) := by decide +kernel
theorem dX0_passYear_116 : decode cX0_passYear 116 = .ok (.iload_n 3, 1) := by decide +kernel
theorem dX0_passYear_117 : decode cX0_passYear 117 = .ok (.putfield 18, 3) := by decide +kernel
theorem dX0_passYear_120 : decode cX0_passYear 120 = .ok (.aload_n 0, 1) := by decide +kernel
theorem dX0_passYear_121 : decode cX0_passYear 121 = .ok (.dup, 1) := by decide +kernel
theorem dX0_passYear_122 : decode cX0_passYear 122 = .ok (.getfield 22, 3) := by decide +kernel
theorem dX0_passYear_125 : decode cX0_passYear 125 = .ok (.iconst 1, 1) := by decide +kernel
theorem dX0_passYear_126 : decode cX0_passYear 126 = .ok (.iadd, 1) := by decide +kernel
theorem dX0_passYear_127 : decode cX0_passYear 127 = .ok (.putfield 22, 3) := by decide +kernel
theorem dX0_passYear_130 : decode cX0_passYear 130 = .ok (.return_, 1) := by decide +kernel
theorem dX0_passYears_0 : decode cX0_passYears 0 = .ok (.iconst 0, 1) := by decide +kernel
theorem dX0_passYears_1 : decode cX0_passYears 1 = .ok (.istore_n 3, 1) := by decide +kernel
theorem dX0_passYears_2 : decode cX0_passYears 2 = .ok (.iload_n 3, 1) := by decide +kernel
theorem dX0_passYears_3 : decode cX0_passYears 3 = .ok (.iload_n 1, 1) := by decide +kernel
theorem dX0_passYears_4 : decode cX0_passYears 4 = .ok (.if_icmp .ge 14, 3) := by decide +kernel
theorem dX0_passYears_7 : decode cX0_passYears 7 = .ok (.aload_n 0, 1) := by decide +kernel
theorem dX0_passYears_8 : decode cX0_passYears 8 = .ok (.aload_n 2, 1) := by decide +kernel
theorem dX0_passYears_9 : decode cX0_passYears 9 = .ok (.invokevirtual 71, 3) := by decide +kernel
theorem dX0_passYears_12 : decode cX0_passYears 12 = .ok (.iinc 3 1, 3) := by decide +kernel
theorem dX0_passYears_15 : decode cX0_passYears 15 = .ok (.goto (-13), 3) := by decide +kernel
theorem dX0_passYears_18 : decode cX0_passYears 18 = .ok (.return_, 1) := by decide +kernel
theorem dX1_init_0 : decode cX1_init 0 = .ok (.aload_n 0, 1) := by decide +kernel
theorem dX1_init_1 : decode cX1_init 1 = .ok (.invokespecial 3, 3) := by decide +kernel
theorem dX1_init_4 : decode cX1_init 4 = .ok (.aload_n 0, 1) := by decide +kernel
theorem dX1_init_5 : decode cX1_init 5 = .ok (.bipush 8, 2) := by decide +kernel
theorem dX1_init_7 : decode cX1_init 7 = .ok (.anewarray 9, 3) := by decide +kernel
theorem dX1_init_10 : decode cX1_init 10 = .ok (.putfield 11, 3) := by decide +kernel
theorem dX1_init_13 : decode cX1_init 13 = .ok (.aload_n 0, 1) := by decide +kernel
theorem dX1_init_14 : decode cX1_init 14 = .ok (.iconst 0, 1) := by decide +kernel
theorem dX1_init_15 : decode cX1_init 15 = .ok (.putfield 17, 3) := by decide +kernel
theorem dX1_init_18 : decode cX1_init 18 = .ok (.aload_n 0, 1) := by decide +kernel
theorem dX1_init_19 : decode cX1_init 19 = .ok (.iconst 0, 1) := by decide +kernel
theorem dX1_init_20 : decode cX1_init 20 = .ok (.putfield 21, 3) := by decide +kernel
theorem dX1_init_23 : decode cX1_init 23 = .ok (.iconst 0, 1) := by decide +kernel
theorem dX1_init_24 : decode cX1_init 24 = .ok (.istore_n 1, 1) := by decide +kernel
theorem dX1_init_25 : decode cX1_init 25 = .ok (.iload_n 1, 1) := by decide +kernel
theorem dX1_init_26 : decode cX1_init 26 = .ok (.bipush 8, 2) := by decide +kernel
theorem dX1_init_28 : decode cX1_init 28 = .ok (.if_icmp .ge 22, 3) := by decide +kernel
theorem dX1_init_31 : decode cX1_init 31 = .ok (.aload_n 0, 1) := by decide +kernel
theorem dX1_init_32 : decode cX1_init 32 = .ok (.getfield 11, 3) := by decide +kernel
theorem dX1_init_35 : decode cX1_init 35 = .ok (.iload_n 1, 1) := by decide +kernel
theorem dX1_init_36 : decode cX1_init 36 = .ok (.new 9, 3) := by decide +kernel
theorem dX1_init_39 : decode cX1_init 39 = .ok (.dup, 1) := by decide +kernel
theorem dX1_init_40 : decode cX1_init 40 = .ok (.invokespecial 24, 3) := by decide +kernel
theorem dX1_init_43 : decode cX1_init 43 = .ok (.aastore, 1) := by decide +kernel
theorem dX1_init_44 : decode cX1_init 44 = .ok (.iinc 1 1, 3) := by decide +kernel
theorem dX1_init_47 : decode cX1_init 47 = .ok (.goto (-22), 3) := by decide +kernel
theorem dX1_init_50 : decode cX1_init 50 = .ok (.return_, 1) := by decide +kernel
theorem dX1_takeFrom_0 : decode cX1_takeFrom 0 = .ok (.iconst 0, 1) := by decide +kernel
theorem dX1_takeFrom_1 : decode cX1_takeFrom 1 = .ok (.istore_n 2, 1) := by decide +kernel
theorem dX1_takeFrom_2 : decode cX1_takeFrom 2 = .ok (.iload_n 2, 1) := by decide +kernel
theorem dX1_takeFrom_3 : decode cX1_takeFrom 3 = .ok (.bipush 8, 2) := by decide +kernel
theorem dX1_takeFrom_5 : decode cX1_takeFrom 5 = .ok (.if_icmp .ge 24, 3) := by decide +kernel
theorem dX1_takeFrom_8 : decode cX1_takeFrom 8 = .ok (.aload_n 0, 1) := by decide +kernel
theorem dX1_takeFrom_9 : decode cX1_takeFrom 9 = .ok (.getfield 11, 3) := by decide +kernel
theorem dX1_takeFrom_12 : decode cX1_takeFrom 12 = .ok (.iload_n 2, 1) := by decide +kernel
theorem dX1_takeFrom_13 : decode cX1_takeFrom 13 = .ok (.aaload, 1) := by decide +kernel
theorem dX1_takeFrom_14 : decode cX1_takeFrom 14 = .ok (.aload_n 1, 1) := by decide +kernel
theorem dX1_takeFrom_15 : decode cX1_takeFrom 15 = .ok (.getfield 11, 3) := by decide +kernel
theorem dX1_takeFrom_18 : decode cX1_takeFrom 18 = .ok (.iload_n 2, 1) := by decide +kernel
theorem dX1_takeFrom_19 : decode cX1_takeFrom 19 = .ok (.aaload, 1) := by decide +kernel
theorem dX1_takeFrom_20 : decode cX1_takeFrom 20 = .ok (.invokevirtual 25, 3) := by decide +kernel
theorem dX1_takeFrom_23 : decode cX1_takeFrom 23 = .ok (.iinc 2 1, 3) := by decide +kernel
theorem dX1_takeFrom_26 : decode cX1_takeFrom 26 = .ok (.goto (-24), 3) := by decide +kernel
theorem dX1_takeFrom_29 : decode cX1_takeFrom 29 = .ok (.aload_n 0, 1) := by decide +kernel
theorem dX1_takeFrom_30 : decode cX1_takeFrom 30 = .ok (.aload_n 1, 1) := by decide +kernel
theorem dX1_takeFrom_31 : decode cX1_takeFrom 31 = .ok (.getfield 17, 3) := by decide +kernel
theorem dX1_takeFrom_34 : decode cX1_takeFrom 34 = .ok (.putfield 17, 3) := by decide +kernel
theorem dX1_takeFrom_37 : decode cX1_takeFrom 37 = .ok (.aload_n 0, 1) := by decide +kernel
theorem dX1_takeFrom_38 : decode cX1_takeFrom 38 = .ok (.aload_n 1, 1) := by decide +kernel
theorem dX1_takeFrom_39 : decode cX1_takeFrom 39 = .ok (.getfield 21, 3) := by decide +kernel
theorem dX1_takeFrom_42 : decode cX1_takeFrom 42 = .ok (.putfield 21, 3) := by decide +kernel
theorem dX1_takeFrom_45 : decode cX1_takeFrom 45 = .ok (.return_, 1) := by decide +kernel
theorem dX1_keep_0 : decode cX1_keep 0 = .ok (.aload_n 0, 1) := by decide +kernel
theorem dX1_keep_1 : decode cX1_keep 1 = .ok (.getfield 11, 3) := by decide +kernel
theorem dX1_keep_4 : decode cX1_keep 4 = .ok (.aload_n 0, 1) := by decide +kernel
theorem dX1_keep_5 : decode cX1_keep 5 = .ok (.getfield 21, 3) := by decide +kernel
theorem dX1_keep_8 : decode cX1_keep 8 = .ok (.aaload, 1) := by decide +kernel
theorem dX1_keep_9 : decode cX1_keep 9 = .ok (.aload_n 1, 1) := by decide +kernel
theorem dX1_keep_10 : decode cX1_keep 10 = .ok (.invokevirtual 25, 3) := by decide +kernel
theorem dX1_keep_13 : decode cX1_keep 13 = .ok (.aload_n 0, 1) := by decide +kernel
theorem dX1_keep_14 : decode cX1_keep 14 = .ok (.aload_n 0, 1) := by decide +kernel
theorem dX1_keep_15 : decode cX1_keep 15 = .ok (.getfield 21, 3) := by decide +kernel
theorem dX1_keep_18 : decode cX1_keep 18 = .ok (.iconst 1, 1) := by decide +kernel
theorem dX1_keep_19 : decode cX1_keep 19 = .ok (.iadd, 1) := by decide +kernel
theorem dX1_keep_20 : decode cX1_keep 20 = .ok (.bipush 8, 2) := by decide +kernel
theorem dX1_keep_22 : decode cX1_keep 22 = .ok (.irem, 1) := by decide +kernel
theorem dX1_keep_23 : decode cX1_keep 23 = .ok (.putfield 21, 3) := by decide +kernel
theorem dX1_keep_26 : decode cX1_keep 26 = .ok (.aload_n 0, 1) := by decide +kernel
theorem dX1_keep_27 : decode cX1_keep 27 = .ok (.bipush 8, 2) := by decide +kernel
theorem dX1_keep_29 : decode cX1_keep 29 = .ok (.aload_n 0, 1) := by decide +kernel
theorem dX1_keep_30 : decode cX1_keep 30 = .ok (.getfield 17, 3) := by decide +kernel
theorem dX1_keep_33 : decode cX1_keep 33 = .ok (.iconst 1, 1) := by decide +kernel
theorem dX1_keep_34 : decode cX1_keep 34 = .ok (.iadd, 1) := by decide +kernel
theorem dX1_keep_35 : decode cX1_keep 35 = .ok (.invokestatic 29, 3) := by decide +kernel
theorem dX1_keep_38 : decode cX1_keep 38 = .ok (.putfield 17, 3) := by decide +kernel
theorem dX1_keep_41 : decode cX1_keep 41 = .ok (.return_, 1) := by decide +kernel
theorem dX1_giveBack_0 : decode cX1_giveBack 0 = .ok (.aload_n 0, 1) := by decide +kernel
theorem dX1_giveBack_1 : decode cX1_giveBack 1 = .ok (.getfield 17, 3) := by decide +kernel
theorem dX1_giveBack_4 : decode cX1_giveBack 4 = .ok (.ifCond .le 42, 3) := by decide +kernel
theorem dX1_giveBack_7 : decode cX1_giveBack 7 = .ok (.aload_n 0, 1) := by decide +kernel
theorem dX1_giveBack_8 : decode cX1_giveBack 8 = .ok (.aload_n 0, 1) := by decide +kernel
theorem dX1_giveBack_9 : decode cX1_giveBack 9 = .ok (.getfield 21, 3) := by decide +kernel
theorem dX1_giveBack_12 : decode cX1_giveBack 12 = .ok (.bipush 8, 2) := by decide +kernel
theorem dX1_giveBack_14 : decode cX1_giveBack 14 = .ok (.iadd, 1) := by decide +kernel
theorem dX1_giveBack_15 : decode cX1_giveBack 15 = .ok (.iconst 1, 1) := by decide +kernel
theorem dX1_giveBack_16 : decode cX1_giveBack 16 = .ok (.isub, 1) := by decide +kernel
theorem dX1_giveBack_17 : decode cX1_giveBack 17 = .ok (.bipush 8, 2) := by decide +kernel
theorem dX1_giveBack_19 : decode cX1_giveBack 19 = .ok (.irem, 1) := by decide +kernel
theorem dX1_giveBack_20 : decode cX1_giveBack 20 = .ok (.putfield 21, 3) := by decide +kernel
theorem dX1_giveBack_23 : decode cX1_giveBack 23 = .ok (.aload_n 0, 1) := by decide +kernel
theorem dX1_giveBack_24 : decode cX1_giveBack 24 = .ok (.dup, 1) := by decide +kernel
theorem dX1_giveBack_25 : decode cX1_giveBack 25 = .ok (.getfield 17, 3) := by decide +kernel
theorem dX1_giveBack_28 : decode cX1_giveBack 28 = .ok (.iconst 1, 1) := by decide +kernel
theorem dX1_giveBack_29 : decode cX1_giveBack 29 = .ok (.isub, 1) := by decide +kernel
theorem dX1_giveBack_30 : decode cX1_giveBack 30 = .ok (.putfield 17, 3) := by decide +kernel
theorem dX1_giveBack_33 : decode cX1_giveBack 33 = .ok (.aload_n 1, 1) := by decide +kernel
theorem dX1_giveBack_34 : decode cX1_giveBack 34 = .ok (.aload_n 0, 1) := by decide +kernel
theorem dX1_giveBack_35 : decode cX1_giveBack 35 = .ok (.getfield 11, 3) := by decide +kernel
theorem dX1_giveBack_38 : decode cX1_giveBack 38 = .ok (.aload_n 0, 1) := by decide +kernel
theorem dX1_giveBack_39 : decode cX1_giveBack 39 = .ok (.getfield 21, 3) := by decide +kernel
theorem dX1_giveBack_42 : decode cX1_giveBack 42 = .ok (.aaload, 1) := by decide +kernel
theorem dX1_giveBack_43 : decode cX1_giveBack 43 = .ok (.invokevirtual 25, 3) := by decide +kernel
theorem dX1_giveBack_46 : decode cX1_giveBack 46 = .ok (.return_, 1) := by decide +kernel
theorem dX1_forget_0 : decode cX1_forget 0 = .ok (.aload_n 0, 1) := by decide +kernel
theorem dX1_forget_1 : decode cX1_forget 1 = .ok (.iconst 0, 1) := by decide +kernel
theorem dX1_forget_2 : decode cX1_forget 2 = .ok (.putfield 17, 3) := by decide +kernel
theorem dX1_forget_5 : decode cX1_forget 5 = .ok (.return_, 1) := by decide +kernel
theorem dX2_init_0 : decode cX2_init 0 = .ok (.aload_n 0, 1) := by decide +kernel
theorem dX2_init_1 : decode cX2_init 1 = .ok (.invokespecial 3, 3) := by decide +kernel
theorem dX2_init_4 : decode cX2_init 4 = .ok (.aload_n 0, 1) := by decide +kernel
theorem dX2_init_5 : decode cX2_init 5 = .ok (.bipush 6, 2) := by decide +kernel
theorem dX2_init_7 : decode cX2_init 7 = .ok (.newarray .int, 2) := by decide +kernel
theorem dX2_init_9 : decode cX2_init 9 = .ok (.putfield 9, 3) := by decide +kernel
theorem dX2_init_12 : decode cX2_init 12 = .ok (.aload_n 0, 1) := by decide +kernel
theorem dX2_init_13 : decode cX2_init 13 = .ok (.bipush 6, 2) := by decide +kernel
theorem dX2_init_15 : decode cX2_init 15 = .ok (.newarray .int, 2) := by decide +kernel
theorem dX2_init_17 : decode cX2_init 17 = .ok (.putfield 15, 3) := by decide +kernel
theorem dX2_init_20 : decode cX2_init 20 = .ok (.aload_n 0, 1) := by decide +kernel
theorem dX2_init_21 : decode cX2_init 21 = .ok (.iconst 0, 1) := by decide +kernel
theorem dX2_init_22 : decode cX2_init 22 = .ok (.putfield 18, 3) := by decide +kernel
theorem dX2_init_25 : decode cX2_init 25 = .ok (.return_, 1) := by decide +kernel
theorem dX2_start_0 : decode cX2_start 0 = .ok (.aload_n 1, 1) := by decide +kernel
theorem dX2_start_1 : decode cX2_start 1 = .ok (.invokevirtual 22, 3) := by decide +kernel
theorem dX2_start_4 : decode cX2_start 4 = .ok (.istore_n 2, 1) := by decide +kernel
theorem dX2_start_5 : decode cX2_start 5 = .ok (.aload_n 0, 1) := by decide +kernel
theorem dX2_start_6 : decode cX2_start 6 = .ok (.iconst 0, 1) := by decide +kernel
theorem dX2_start_7 : decode cX2_start 7 = .ok (.putfield 18, 3) := by decide +kernel
theorem dX2_start_10 : decode cX2_start 10 = .ok (.iconst 0, 1) := by decide +kernel
theorem dX2_start_11 : decode cX2_start 11 = .ok (.istore_n 3, 1) := by decide +kernel
theorem dX2_start_12 : decode cX2_start 12 = .ok (.iload_n 3, 1) := by decide +kernel
theorem dX2_start_13 : decode cX2_start 13 = .ok (.bipush 6, 2) := by decide +kernel
theorem dX2_start_15 : decode cX2_start 15 = .ok (.if_icmp .ge 37, 3) := by decide +kernel
theorem dX2_start_18 : decode cX2_start 18 = .ok (.iload_n 2, 1) := by decide +kernel
theorem dX2_start_19 : decode cX2_start 19 = .ok (.iload_n 3, 1) := by decide +kernel
theorem dX2_start_20 : decode cX2_start 20 = .ok (.invokestatic 28, 3) := by decide +kernel
theorem dX2_start_23 : decode cX2_start 23 = .ok (.ifCond .eq 23, 3) := by decide +kernel
theorem dX2_start_26 : decode cX2_start 26 = .ok (.aload_n 0, 1) := by decide +kernel
theorem dX2_start_27 : decode cX2_start 27 = .ok (.getfield 9, 3) := by decide +kernel
theorem dX2_start_30 : decode cX2_start 30 = .ok (.aload_n 0, 1) := by decide +kernel
theorem dX2_start_31 : decode cX2_start 31 = .ok (.getfield 18, 3) := by decide +kernel
theorem dX2_start_34 : decode cX2_start 34 = .ok (.iload_n 3, 1) := by decide +kernel
theorem dX2_start_35 : decode cX2_start 35 = .ok (.iastore, 1) := by decide +kernel
theorem dX2_start_36 : decode cX2_start 36 = .ok (.aload_n 0, 1) := by decide +kernel
theorem dX2_start_37 : decode cX2_start 37 = .ok (.dup, 1) := by decide +kernel
theorem dX2_start_38 : decode cX2_start 38 = .ok (.getfield 18, 3) := by decide +kernel
theorem dX2_start_41 : decode cX2_start 41 = .ok (.iconst 1, 1) := by decide +kernel
theorem dX2_start_42 : decode cX2_start 42 = .ok (.iadd, 1) := by decide +kernel
theorem dX2_start_43 : decode cX2_start 43 = .ok (.putfield 18, 3) := by decide +kernel
theorem dX2_start_46 : decode cX2_start 46 = .ok (.iinc 3 1, 3) := by decide +kernel
theorem dX2_start_49 : decode cX2_start 49 = .ok (.goto (-37), 3) := by decide +kernel
theorem dX2_start_52 : decode cX2_start 52 = .ok (.aload_n 0, 1) := by decide +kernel
theorem dX2_start_53 : decode cX2_start 53 = .ok (.invokevirtual 32, 3) := by decide +kernel
theorem dX2_start_56 : decode cX2_start 56 = .ok (.return_, 1) := by decide +kernel
theorem dX2_keepAsBest_0 : decode cX2_keepAsBest 0 = .ok (.iconst 0, 1) := by decide +kernel
theorem dX2_keepAsBest_1 : decode cX2_keepAsBest 1 = .ok (.istore_n 1, 1) := by decide +kernel
theorem dX2_keepAsBest_2 : decode cX2_keepAsBest 2 = .ok (.iload_n 1, 1) := by decide +kernel
theorem dX2_keepAsBest_3 : decode cX2_keepAsBest 3 = .ok (.bipush 6, 2) := by decide +kernel
theorem dX2_keepAsBest_5 : decode cX2_keepAsBest 5 = .ok (.if_icmp .ge 21, 3) := by decide +kernel
theorem dX2_keepAsBest_8 : decode cX2_keepAsBest 8 = .ok (.aload_n 0, 1) := by decide +kernel
theorem dX2_keepAsBest_9 : decode cX2_keepAsBest 9 = .ok (.getfield 15, 3) := by decide +kernel
theorem dX2_keepAsBest_12 : decode cX2_keepAsBest 12 = .ok (.iload_n 1, 1) := by decide +kernel
theorem dX2_keepAsBest_13 : decode cX2_keepAsBest 13 = .ok (.aload_n 0, 1) := by decide +kernel
theorem dX2_keepAsBest_14 : decode cX2_keepAsBest 14 = .ok (.getfield 9, 3) := by decide +kernel
theorem dX2_keepAsBest_17 : decode cX2_keepAsBest 17 = .ok (.iload_n 1, 1) := by decide +kernel
theorem dX2_keepAsBest_18 : decode cX2_keepAsBest 18 = .ok (.iaload, 1) := by decide +kernel
theorem dX2_keepAsBest_19 : decode cX2_keepAsBest 19 = .ok (.iastore, 1) := by decide +kernel
theorem dX2_keepAsBest_20 : decode cX2_keepAsBest 20 = .ok (.iinc 1 1, 3) := by decide +kernel
theorem dX2_keepAsBest_23 : decode cX2_keepAsBest 23 = .ok (.goto (-21), 3) := by decide +kernel
theorem dX2_keepAsBest_26 : decode cX2_keepAsBest 26 = .ok (.return_, 1) := by decide +kernel
theorem dX2_bestOn_0 : decode cX2_bestOn 0 = .ok (.iload_n 1, 1) := by decide +kernel
theorem dX2_bestOn_1 : decode cX2_bestOn 1 = .ok (.iconst 0, 1) := by decide +kernel
theorem dX2_bestOn_2 : decode cX2_bestOn 2 = .ok (.aload_n 0, 1) := by decide +kernel
theorem dX2_bestOn_3 : decode cX2_bestOn 3 = .ok (.getfield 18, 3) := by decide +kernel
theorem dX2_bestOn_6 : decode cX2_bestOn 6 = .ok (.iconst 1, 1) := by decide +kernel
theorem dX2_bestOn_7 : decode cX2_bestOn 7 = .ok (.isub, 1) := by decide +kernel
theorem dX2_bestOn_8 : decode cX2_bestOn 8 = .ok (.invokestatic 35, 3) := by decide +kernel
theorem dX2_bestOn_11 : decode cX2_bestOn 11 = .ok (.ifCond .eq 12, 3) := by decide +kernel
theorem dX2_bestOn_14 : decode cX2_bestOn 14 = .ok (.aload_n 0, 1) := by decide +kernel
theorem dX2_bestOn_15 : decode cX2_bestOn 15 = .ok (.getfield 15, 3) := by decide +kernel
theorem dX2_bestOn_18 : decode cX2_bestOn 18 = .ok (.iload_n 1, 1) := by decide +kernel
theorem dX2_bestOn_19 : decode cX2_bestOn 19 = .ok (.iaload, 1) := by decide +kernel
theorem dX2_bestOn_20 : decode cX2_bestOn 20 = .ok (.goto 5, 3) := by decide +kernel
theorem dX2_bestOn_23 : decode cX2_bestOn 23 = .ok (.bipush (-4), 2) := by decide +kernel
theorem dX2_bestOn_25 : decode cX2_bestOn 25 = .ok (.ireturn, 1) := by decide +kernel
theorem dX2_isTurnedRound_0 : decode cX2_isTurnedRound 0 = .ok (.aload_n 0, 1) := by decide +kernel
theorem dX2_isTurnedRound_1 : decode cX2_isTurnedRound 1 = .ok (.getfield 18, 3) := by decide +kernel
theorem dX2_isTurnedRound_4 : decode cX2_isTurnedRound 4 = .ok (.iconst 1, 1) := by decide +kernel
theorem dX2_isTurnedRound_5 : decode cX2_isTurnedRound 5 = .ok (.if_icmp .le 27, 3) := by decide +kernel
theorem dX2_isTurnedRound_8 : decode cX2_isTurnedRound 8 = .ok (.aload_n 0, 1) := by decide +kernel
theorem dX2_isTurnedRound_9 : decode cX2_isTurnedRound 9 = .ok (.getfield 9, 3) := by decide +kernel
theorem dX2_isTurnedRound_12 : decode cX2_isTurnedRound 12 = .ok (.iconst 0, 1) := by decide +kernel
theorem dX2_isTurnedRound_13 : decode cX2_isTurnedRound 13 = .ok (.iaload, 1) := by decide +kernel
theorem dX2_isTurnedRound_14 : decode cX2_isTurnedRound 14 = .ok (.aload_n 0, 1) := by decide +kernel
theorem dX2_isTurnedRound_15 : decode cX2_isTurnedRound 15 = .ok (.getfield 9, 3) := by decide +kernel
theorem dX2_isTurnedRound_18 : decode cX2_isTurnedRound 18 = .ok (.aload_n 0, 1) := by decide +kernel
theorem dX2_isTurnedRound_19 : decode cX2_isTurnedRound 19 = .ok (.getfield 18, 3) := by decide +kernel
theorem dX2_isTurnedRound_22 : decode cX2_isTurnedRound 22 = .ok (.iconst 1, 1) := by decide +kernel
theorem dX2_isTurnedRound_23 : decode cX2_isTurnedRound 23 = .ok (.isub, 1) := by decide +kernel
theorem dX2_isTurnedRound_24 : decode cX2_isTurnedRound 24 = .ok (.iaload, 1) := by decide +kernel
theorem dX2_isTurnedRound_25 : decode cX2_isTurnedRound 25 = .ok (.if_icmp .le 7, 3) := by decide +kernel
theorem dX2_isTurnedRound_28 : decode cX2_isTurnedRound 28 = .ok (.iconst 1, 1) := by decide +kernel
theorem dX2_isTurnedRound_29 : decode cX2_isTurnedRound 29 = .ok (.goto 4, 3) := by decide +kernel
theorem dX2_isTurnedRound_32 : decode cX2_isTurnedRound 32 = .ok (.iconst 0, 1) := by decide +kernel
theorem dX2_isTurnedRound_33 : decode cX2_isTurnedRound 33 = .ok (.ireturn, 1) := by decide +kernel
theorem dX2_advance_0 : decode cX2_advance 0 = .ok (.aload_n 0, 1) := by decide +kernel
theorem dX2_advance_1 : decode cX2_advance 1 = .ok (.getfield 18, 3) := by decide +kernel
theorem dX2_advance_4 : decode cX2_advance 4 = .ok (.iconst 2, 1) := by decide +kernel
theorem dX2_advance_5 : decode cX2_advance 5 = .ok (.isub, 1) := by decide +kernel
theorem dX2_advance_6 : decode cX2_advance 6 = .ok (.istore_n 1, 1) := by decide +kernel
theorem dX2_advance_7 : decode cX2_advance 7 = .ok (.iload_n 1, 1) := by decide +kernel
theorem dX2_advance_8 : decode cX2_advance 8 = .ok (.ifCond .lt 26, 3) := by decide +kernel
theorem dX2_advance_11 : decode cX2_advance 11 = .ok (.aload_n 0, 1) := by decide +kernel
theorem dX2_advance_12 : decode cX2_advance 12 = .ok (.getfield 9, 3) := by decide +kernel
theorem dX2_advance_15 : decode cX2_advance 15 = .ok (.iload_n 1, 1) := by decide +kernel
theorem dX2_advance_16 : decode cX2_advance 16 = .ok (.iaload, 1) := by decide +kernel
theorem dX2_advance_17 : decode cX2_advance 17 = .ok (.aload_n 0, 1) := by decide +kernel
theorem dX2_advance_18 : decode cX2_advance 18 = .ok (.getfield 9, 3) := by decide +kernel
theorem dX2_advance_21 : decode cX2_advance 21 = .ok (.iload_n 1, 1) := by decide +kernel
theorem dX2_advance_22 : decode cX2_advance 22 = .ok (.iconst 1, 1) := by decide +kernel
theorem dX2_advance_23 : decode cX2_advance 23 = .ok (.iadd, 1) := by decide +kernel
theorem dX2_advance_24 : decode cX2_advance 24 = .ok (.iaload, 1) := by decide +kernel
theorem dX2_advance_25 : decode cX2_advance 25 = .ok (.if_icmp .le 9, 3) := by decide +kernel
theorem dX2_advance_28 : decode cX2_advance 28 = .ok (.iinc 1 (-1), 3) := by decide +kernel
theorem dX2_advance_31 : decode cX2_advance 31 = .ok (.goto (-24), 3) := by decide +kernel
theorem dX2_advance_34 : decode cX2_advance 34 = .ok (.iload_n 1, 1) := by decide +kernel
theorem dX2_advance_35 : decode cX2_advance 35 = .ok (.ifCond .ge 5, 3) := by decide +kernel
theorem dX2_advance_38 : decode cX2_advance 38 = .ok (.iconst 0, 1) := by decide +kernel
theorem dX2_advance_39 : decode cX2_advance 39 = .ok (.ireturn, 1) := by decide +kernel
theorem dX2_advance_40 : decode cX2_advance 40 = .ok (.aload_n 0, 1) := by decide +kernel
theorem dX2_advance_41 : decode cX2_advance 41 = .ok (.getfield 18, 3) := by decide +kernel
theorem dX2_advance_44 : decode cX2_advance 44 = .ok (.iconst 1, 1) := by decide +kernel
theorem dX2_advance_45 : decode cX2_advance 45 = .ok (.isub, 1) := by decide +kernel
theorem dX2_advance_46 : decode cX2_advance 46 = .ok (.istore_n 2, 1) := by decide +kernel
theorem dX2_advance_47 : decode cX2_advance 47 = .ok (.iload_n 2, 1) := by decide +kernel
theorem dX2_advance_48 : decode cX2_advance 48 = .ok (.iload_n 1, 1) := by decide +kernel
theorem dX2_advance_49 : decode cX2_advance 49 = .ok (.iconst 1, 1) := by decide +kernel
theorem dX2_advance_50 : decode cX2_advance 50 = .ok (.iadd, 1) := by decide +kernel
theorem dX2_advance_51 : decode cX2_advance 51 = .ok (.if_icmp .le 24, 3) := by decide +kernel
theorem dX2_advance_54 : decode cX2_advance 54 = .ok (.aload_n 0, 1) := by decide +kernel
theorem dX2_advance_55 : decode cX2_advance 55 = .ok (.getfield 9, 3) := by decide +kernel
theorem dX2_advance_58 : decode cX2_advance 58 = .ok (.iload_n 2, 1) := by decide +kernel
theorem dX2_advance_59 : decode cX2_advance 59 = .ok (.iaload, 1) := by decide +kernel
theorem dX2_advance_60 : decode cX2_advance 60 = .ok (.aload_n 0, 1) := by decide +kernel
theorem dX2_advance_61 : decode cX2_advance 61 = .ok (.getfield 9, 3) := by decide +kernel
theorem dX2_advance_64 : decode cX2_advance 64 = .ok (.iload_n 1, 1) := by decide +kernel
theorem dX2_advance_65 : decode cX2_advance 65 = .ok (.iaload, 1) := by decide +kernel
theorem dX2_advance_66 : decode cX2_advance 66 = .ok (.if_icmp .ge 9, 3) := by decide +kernel
theorem dX2_advance_69 : decode cX2_advance 69 = .ok (.iinc 2 (-1), 3) := by decide +kernel
theorem dX2_advance_72 : decode cX2_advance 72 = .ok (.goto (-25), 3) := by decide +kernel
theorem dX2_advance_75 : decode cX2_advance 75 = .ok (.aload_n 0, 1) := by decide +kernel
theorem dX2_advance_76 : decode cX2_advance 76 = .ok (.iload_n 1, 1) := by decide +kernel
theorem dX2_advance_77 : decode cX2_advance 77 = .ok (.iload_n 2, 1) := by decide +kernel
theorem dX2_advance_78 : decode cX2_advance 78 = .ok (.invokevirtual 39, 3) := by decide +kernel
theorem dX2_advance_81 : decode cX2_advance 81 = .ok (.iload_n 1, 1) := by decide +kernel
theorem dX2_advance_82 : decode cX2_advance 82 = .ok (.iconst 1, 1) := by decide +kernel
theorem dX2_advance_83 : decode cX2_advance 83 = .ok (.iadd, 1) := by decide +kernel
theorem dX2_advance_84 : decode cX2_advance 84 = .ok (.istore_n 3, 1) := by decide +kernel
theorem dX2_advance_85 : decode cX2_advance 85 = .ok (.aload_n 0, 1) := by decide +kernel
theorem dX2_advance_86 : decode cX2_advance 86 = .ok (.getfield 18, 3) := by decide +kernel
theorem dX2_advance_89 : decode cX2_advance 89 = .ok (.iconst 1, 1) := by decide +kernel
theorem dX2_advance_90 : decode cX2_advance 90 = .ok (.isub, 1) := by decide +kernel
theorem dX2_advance_91 : decode cX2_advance 91 = .ok (.istore 4, 2) := by decide +kernel
theorem dX2_advance_93 : decode cX2_advance 93 = .ok (.iload_n 3, 1) := by decide +kernel
theorem dX2_advance_94 : decode cX2_advance 94 = .ok (.iload 4, 2) := by decide +kernel
theorem dX2_advance_96 : decode cX2_advance 96 = .ok (.if_icmp .ge 19, 3) := by decide +kernel
theorem dX2_advance_99 : decode cX2_advance 99 = .ok (.aload_n 0, 1) := by decide +kernel
theorem dX2_advance_100 : decode cX2_advance 100 = .ok (.iload_n 3, 1) := by decide +kernel
theorem dX2_advance_101 : decode cX2_advance 101 = .ok (.iload 4, 2) := by decide +kernel
theorem dX2_advance_103 : decode cX2_advance 103 = .ok (.invokevirtual 39, 3) := by decide +kernel
theorem dX2_advance_106 : decode cX2_advance 106 = .ok (.iinc 3 1, 3) := by decide +kernel
theorem dX2_advance_109 : decode cX2_advance 109 = .ok (.iinc 4 (-1), 3) := by decide +kernel
theorem dX2_advance_112 : decode cX2_advance 112 = .ok (.goto (-19), 3) := by decide +kernel
theorem dX2_advance_115 : decode cX2_advance 115 = .ok (.iconst 1, 1) := by decide +kernel
theorem dX2_advance_116 : decode cX2_advance 116 = .ok (.ireturn, 1) := by decide +kernel
theorem dX2_swap_0 : decode cX2_swap 0 = .ok (.aload_n 0, 1) := by decide +kernel
theorem dX2_swap_1 : decode cX2_swap 1 = .ok (.getfield 9, 3) := by decide +kernel
theorem dX2_swap_4 : decode cX2_swap 4 = .ok (.iload_n 1, 1) := by decide +kernel
theorem dX2_swap_5 : decode cX2_swap 5 = .ok (.iaload, 1) := by decide +kernel
theorem dX2_swap_6 : decode cX2_swap 6 = .ok (.istore_n 3, 1) := by decide +kernel
theorem dX2_swap_7 : decode cX2_swap 7 = .ok (.aload_n 0, 1) := by decide +kernel
theorem dX2_swap_8 : decode cX2_swap 8 = .ok (.getfield 9, 3) := by decide +kernel
theorem dX2_swap_11 : decode cX2_swap 11 = .ok (.iload_n 1, 1) := by decide +kernel
theorem dX2_swap_12 : decode cX2_swap 12 = .ok (.aload_n 0, 1) := by decide +kernel
theorem dX2_swap_13 : decode cX2_swap 13 = .ok (.getfield 9, 3) := by decide +kernel
theorem dX2_swap_16 : decode cX2_swap 16 = .ok (.iload_n 2, 1) := by decide +kernel
theorem dX2_swap_17 : decode cX2_swap 17 = .ok (.iaload, 1) := by decide +kernel
theorem dX2_swap_18 : decode cX2_swap 18 = .ok (.iastore, 1) := by decide +kernel
theorem dX2_swap_19 : decode cX2_swap 19 = .ok (.aload_n 0, 1) := by decide +kernel
theorem dX2_swap_20 : decode cX2_swap 20 = .ok (.getfield 9, 3) := by decide +kernel
theorem dX2_swap_23 : decode cX2_swap 23 = .ok (.iload_n 2, 1) := by decide +kernel
theorem dX2_swap_24 : decode cX2_swap 24 = .ok (.iload_n 3, 1) := by decide +kernel
theorem dX2_swap_25 : decode cX2_swap 25 = .ok (.iastore, 1) := by decide +kernel
theorem dX2_swap_26 : decode cX2_swap 26 = .ok (.return_, 1) := by decide +kernel
theorem dX3_init_0 : decode cX3_init 0 = .ok (.aload_n 0, 1) := by decide +kernel
theorem dX3_init_1 : decode cX3_init 1 = .ok (.invokespecial 3, 3) := by decide +kernel
theorem dX3_init_4 : decode cX3_init 4 = .ok (.aload_n 0, 1) := by decide +kernel
theorem dX3_init_5 : decode cX3_init 5 = .ok (.iconst 0, 1) := by decide +kernel
theorem dX3_init_6 : decode cX3_init 6 = .ok (.putfield 9, 3) := by decide +kernel
theorem dX3_init_9 : decode cX3_init 9 = .ok (.aload_n 0, 1) := by decide +kernel
theorem dX3_init_10 : decode cX3_init 10 = .ok (.bipush 6, 2) := by decide +kernel
theorem dX3_init_12 : decode cX3_init 12 = .ok (.newarray .int, 2) := by decide +kernel
theorem dX3_init_14 : decode cX3_init 14 = .ok (.putfield 15, 3) := by decide +kernel
theorem dX3_init_17 : decode cX3_init 17 = .ok (.aload_n 0, 1) := by decide +kernel
theorem dX3_init_18 : decode cX3_init 18 = .ok (.iconst 3, 1) := by decide +kernel
theorem dX3_init_19 : decode cX3_init 19 = .ok (.bipush 6, 2) := by decide +kernel
theorem dX3_init_21 : decode cX3_init 21 = .ok (.multianewarray 19 2, 4) := by decide +kernel
theorem dX3_init_25 : decode cX3_init 25 = .ok (.putfield 21, 3) := by decide +kernel
theorem dX3_init_28 : decode cX3_init 28 = .ok (.aload_n 0, 1) := by decide +kernel
theorem dX3_init_29 : decode cX3_init 29 = .ok (.bipush 6, 2) := by decide +kernel
theorem dX3_init_31 : decode cX3_init 31 = .ok (.newarray .int, 2) := by decide +kernel
theorem dX3_init_33 : decode cX3_init 33 = .ok (.putfield 24, 3) := by decide +kernel
theorem dX3_init_36 : decode cX3_init 36 = .ok (.return_, 1) := by decide +kernel
theorem dX3_takeFrom_0 : decode cX3_takeFrom 0 = .ok (.aload_n 0, 1) := by decide +kernel
theorem dX3_takeFrom_1 : decode cX3_takeFrom 1 = .ok (.aload_n 1, 1) := by decide +kernel
theorem dX3_takeFrom_2 : decode cX3_takeFrom 2 = .ok (.getfield 9, 3) := by decide +kernel
theorem dX3_takeFrom_5 : decode cX3_takeFrom 5 = .ok (.putfield 9, 3) := by decide +kernel
theorem dX3_takeFrom_8 : decode cX3_takeFrom 8 = .ok (.iconst 0, 1) := by decide +kernel
theorem dX3_takeFrom_9 : decode cX3_takeFrom 9 = .ok (.istore_n 2, 1) := by decide +kernel
theorem dX3_takeFrom_10 : decode cX3_takeFrom 10 = .ok (.iload_n 2, 1) := by decide +kernel
theorem dX3_takeFrom_11 : decode cX3_takeFrom 11 = .ok (.bipush 6, 2) := by decide +kernel
theorem dX3_takeFrom_13 : decode cX3_takeFrom 13 = .ok (.if_icmp .ge 62, 3) := by decide +kernel
theorem dX3_takeFrom_16 : decode cX3_takeFrom 16 = .ok (.aload_n 0, 1) := by decide +kernel
theorem dX3_takeFrom_17 : decode cX3_takeFrom 17 = .ok (.getfield 15, 3) := by decide +kernel
theorem dX3_takeFrom_20 : decode cX3_takeFrom 20 = .ok (.iload_n 2, 1) := by decide +kernel
theorem dX3_takeFrom_21 : decode cX3_takeFrom 21 = .ok (.aload_n 1, 1) := by decide +kernel
theorem dX3_takeFrom_22 : decode cX3_takeFrom 22 = .ok (.getfield 15, 3) := by decide +kernel
theorem dX3_takeFrom_25 : decode cX3_takeFrom 25 = .ok (.iload_n 2, 1) := by decide +kernel
theorem dX3_takeFrom_26 : decode cX3_takeFrom 26 = .ok (.iaload, 1) := by decide +kernel
theorem dX3_takeFrom_27 : decode cX3_takeFrom 27 = .ok (.iastore, 1) := by decide +kernel
theorem dX3_takeFrom_28 : decode cX3_takeFrom 28 = .ok (.aload_n 0, 1) := by decide +kernel
theorem dX3_takeFrom_29 : decode cX3_takeFrom 29 = .ok (.getfield 24, 3) := by decide +kernel
theorem dX3_takeFrom_32 : decode cX3_takeFrom 32 = .ok (.iload_n 2, 1) := by decide +kernel
theorem dX3_takeFrom_33 : decode cX3_takeFrom 33 = .ok (.aload_n 1, 1) := by decide +kernel
theorem dX3_takeFrom_34 : decode cX3_takeFrom 34 = .ok (.getfield 24, 3) := by decide +kernel
theorem dX3_takeFrom_37 : decode cX3_takeFrom 37 = .ok (.iload_n 2, 1) := by decide +kernel
theorem dX3_takeFrom_38 : decode cX3_takeFrom 38 = .ok (.iaload, 1) := by decide +kernel
theorem dX3_takeFrom_39 : decode cX3_takeFrom 39 = .ok (.iastore, 1) := by decide +kernel
theorem dX3_takeFrom_40 : decode cX3_takeFrom 40 = .ok (.iconst 0, 1) := by decide +kernel
theorem dX3_takeFrom_41 : decode cX3_takeFrom 41 = .ok (.istore_n 3, 1) := by decide +kernel
theorem dX3_takeFrom_42 : decode cX3_takeFrom 42 = .ok (.iload_n 3, 1) := by decide +kernel
theorem dX3_takeFrom_43 : decode cX3_takeFrom 43 = .ok (.iconst 3, 1) := by decide +kernel
theorem dX3_takeFrom_44 : decode cX3_takeFrom 44 = .ok (.if_icmp .ge 25, 3) := by decide +kernel
theorem dX3_takeFrom_47 : decode cX3_takeFrom 47 = .ok (.aload_n 0, 1) := by decide +kernel
theorem dX3_takeFrom_48 : decode cX3_takeFrom 48 = .ok (.getfield 21, 3) := by decide +kernel
theorem dX3_takeFrom_51 : decode cX3_takeFrom 51 = .ok (.iload_n 3, 1) := by decide +kernel
theorem dX3_takeFrom_52 : decode cX3_takeFrom 52 = .ok (.aaload, 1) := by decide +kernel
theorem dX3_takeFrom_53 : decode cX3_takeFrom 53 = .ok (.iload_n 2, 1) := by decide +kernel
theorem dX3_takeFrom_54 : decode cX3_takeFrom 54 = .ok (.aload_n 1, 1) := by decide +kernel
theorem dX3_takeFrom_55 : decode cX3_takeFrom 55 = .ok (.getfield 21, 3) := by decide +kernel
theorem dX3_takeFrom_58 : decode cX3_takeFrom 58 = .ok (.iload_n 3, 1) := by decide +kernel
theorem dX3_takeFrom_59 : decode cX3_takeFrom 59 = .ok (.aaload, 1) := by decide +kernel
theorem dX3_takeFrom_60 : decode cX3_takeFrom 60 = .ok (.iload_n 2, 1) := by decide +kernel
theorem dX3_takeFrom_61 : decode cX3_takeFrom 61 = .ok (.iaload, 1) := by decide +kernel
theorem dX3_takeFrom_62 : decode cX3_takeFrom 62 = .ok (.iastore, 1) := by decide +kernel
theorem dX3_takeFrom_63 : decode cX3_takeFrom 63 = .ok (.iinc 3 1, 3) := by decide +kernel
theorem dX3_takeFrom_66 : decode cX3_takeFrom 66 = .ok (.goto (-24), 3) := by decide +kernel
theorem dX3_takeFrom_69 : decode cX3_takeFrom 69 = .ok (.iinc 2 1, 3) := by decide +kernel
theorem dX3_takeFrom_72 : decode cX3_takeFrom 72 = .ok (.goto (-62), 3) := by decide +kernel
theorem dX3_takeFrom_75 : decode cX3_takeFrom 75 = .ok (.return_, 1) := by decide +kernel
theorem dX3_has_0 : decode cX3_has 0 = .ok (.iload_n 1, 1) := by decide +kernel
theorem dX3_has_1 : decode cX3_has 1 = .ok (.iconst 0, 1) := by decide +kernel
theorem dX3_has_2 : decode cX3_has 2 = .ok (.aload_n 0, 1) := by decide +kernel
theorem dX3_has_3 : decode cX3_has 3 = .ok (.getfield 9, 3) := by decide +kernel
theorem dX3_has_6 : decode cX3_has 6 = .ok (.iconst 1, 1) := by decide +kernel
theorem dX3_has_7 : decode cX3_has 7 = .ok (.isub, 1) := by decide +kernel
theorem dX3_has_8 : decode cX3_has 8 = .ok (.invokestatic 27, 3) := by decide +kernel
theorem dX3_has_11 : decode cX3_has 11 = .ok (.ireturn, 1) := by decide +kernel
theorem dX3_isTaken_0 : decode cX3_isTaken 0 = .ok (.iconst 0, 1) := by decide +kernel
theorem dX3_isTaken_1 : decode cX3_isTaken 1 = .ok (.istore_n 3, 1) := by decide +kernel
theorem dX3_isTaken_2 : decode cX3_isTaken 2 = .ok (.iload_n 3, 1) := by decide +kernel
theorem dX3_isTaken_3 : decode cX3_isTaken 3 = .ok (.aload_n 0, 1) := by decide +kernel
theorem dX3_isTaken_4 : decode cX3_isTaken 4 = .ok (.getfield 9, 3) := by decide +kernel
theorem dX3_isTaken_7 : decode cX3_isTaken 7 = .ok (.if_icmp .ge 23, 3) := by decide +kernel
theorem dX3_isTaken_10 : decode cX3_isTaken 10 = .ok (.aload_n 0, 1) := by decide +kernel
theorem dX3_isTaken_11 : decode cX3_isTaken 11 = .ok (.getfield 21, 3) := by decide +kernel
theorem dX3_isTaken_14 : decode cX3_isTaken 14 = .ok (.iload_n 1, 1) := by decide +kernel
theorem dX3_isTaken_15 : decode cX3_isTaken 15 = .ok (.aaload, 1) := by decide +kernel
theorem dX3_isTaken_16 : decode cX3_isTaken 16 = .ok (.iload_n 3, 1) := by decide +kernel
theorem dX3_isTaken_17 : decode cX3_isTaken 17 = .ok (.iaload, 1) := by decide +kernel
theorem dX3_isTaken_18 : decode cX3_isTaken 18 = .ok (.iload_n 2, 1) := by decide +kernel
theorem dX3_isTaken_19 : decode cX3_isTaken 19 = .ok (.if_icmp .ne 5, 3) := by decide +kernel
theorem dX3_isTaken_22 : decode cX3_isTaken 22 = .ok (.iconst 1, 1) := by decide +kernel
theorem dX3_isTaken_23 : decode cX3_isTaken 23 = .ok (.ireturn, 1) := by decide +kernel
theorem dX3_isTaken_24 : decode cX3_isTaken 24 = .ok (.iinc 3 1, 3) := by decide +kernel
theorem dX3_isTaken_27 : decode cX3_isTaken 27 = .ok (.goto (-25), 3) := by decide +kernel
theorem dX3_isTaken_30 : decode cX3_isTaken 30 = .ok (.iconst 0, 1) := by decide +kernel
theorem dX3_isTaken_31 : decode cX3_isTaken 31 = .ok (.ireturn, 1) := by decide +kernel
theorem dX3_isTakenAtAnyHour_0 : decode cX3_isTakenAtAnyHour 0 = .ok (.iconst 0, 1) := by decide +kernel
theorem dX3_isTakenAtAnyHour_1 : decode cX3_isTakenAtAnyHour 1 = .ok (.istore_n 2, 1) := by decide +kernel
theorem dX3_isTakenAtAnyHour_2 : decode cX3_isTakenAtAnyHour 2 = .ok (.iload_n 2, 1) := by decide +kernel
theorem dX3_isTakenAtAnyHour_3 : decode cX3_isTakenAtAnyHour 3 = .ok (.iconst 3, 1) := by decide +kernel
theorem dX3_isTakenAtAnyHour_4 : decode cX3_isTakenAtAnyHour 4 = .ok (.if_icmp .ge 20, 3) := by decide +kernel
theorem dX3_isTakenAtAnyHour_7 : decode cX3_isTakenAtAnyHour 7 = .ok (.aload_n 0, 1) := by decide +kernel
theorem dX3_isTakenAtAnyHour_8 : decode cX3_isTakenAtAnyHour 8 = .ok (.iload_n 2, 1) := by decide +kernel
theorem dX3_isTakenAtAnyHour_9 : decode cX3_isTakenAtAnyHour 9 = .ok (.iload_n 1, 1) := by decide +kernel
theorem dX3_isTakenAtAnyHour_10 : decode cX3_isTakenAtAnyHour 10 = .ok (.invokevirtual 31, 3) := by decide +kernel
theorem dX3_isTakenAtAnyHour_13 : decode cX3_isTakenAtAnyHour 13 = .ok (.ifCond .eq 5, 3) := by decide +kernel
theorem dX3_isTakenAtAnyHour_16 : decode cX3_isTakenAtAnyHour 16 = .ok (.iconst 1, 1) := by decide +kernel
theorem dX3_isTakenAtAnyHour_17 : decode cX3_isTakenAtAnyHour 17 = .ok (.ireturn, 1) := by decide +kernel
theorem dX3_isTakenAtAnyHour_18 : decode cX3_isTakenAtAnyHour 18 = .ok (.iinc 2 1, 3) := by decide +kernel
theorem dX3_isTakenAtAnyHour_21 : decode cX3_isTakenAtAnyHour 21 = .ok (.goto (-19), 3) := by decide +kernel
theorem dX3_isTakenAtAnyHour_24 : decode cX3_isTakenAtAnyHour 24 = .ok (.iconst 0, 1) := by decide +kernel
theorem dX3_isTakenAtAnyHour_25 : decode cX3_isTakenAtAnyHour 25 = .ok (.ireturn, 1) := by decide +kernel
theorem dX3_placeNext_0 : decode cX3_placeNext 0 = .ok (.aload_n 0, 1) := by decide +kernel
theorem dX3_placeNext_1 : decode cX3_placeNext 1 = .ok (.getfield 9, 3) := by decide +kernel
theorem dX3_placeNext_4 : decode cX3_placeNext 4 = .ok (.bipush 6, 2) := by decide +kernel
theorem dX3_placeNext_6 : decode cX3_placeNext 6 = .ok (.if_icmp .ge 15, 3) := by decide +kernel
theorem dX3_placeNext_9 : decode cX3_placeNext 9 = .ok (.aload_n 0, 1) := by decide +kernel
theorem dX3_placeNext_10 : decode cX3_placeNext 10 = .ok (.getfield 21, 3) := by decide +kernel
theorem dX3_placeNext_13 : decode cX3_placeNext 13 = .ok (.iload_n 1, 1) := by decide +kernel
theorem dX3_placeNext_14 : decode cX3_placeNext 14 = .ok (.aaload, 1) := by decide +kernel
theorem dX3_placeNext_15 : decode cX3_placeNext 15 = .ok (.aload_n 0, 1) := by decide +kernel
theorem dX3_placeNext_16 : decode cX3_placeNext 16 = .ok (.getfield 9, 3) := by decide +kernel
theorem dX3_placeNext_19 : decode cX3_placeNext 19 = .ok (.iload_n 2, 1) := by decide +kernel
theorem dX3_placeNext_20 : decode cX3_placeNext 20 = .ok (.iastore, 1) := by decide +kernel
theorem dX3_placeNext_21 : decode cX3_placeNext 21 = .ok (.return_, 1) := by decide +kernel
theorem dX3_placeNextByNumber_0 : decode cX3_placeNextByNumber 0 = .ok (.iconst 0, 1) := by decide +kernel
theorem dX3_placeNextByNumber_1 : decode cX3_placeNextByNumber 1 = .ok (.istore_n 1, 1) := by decide +kernel
theorem dX3_placeNextByNumber_2 : decode cX3_placeNextByNumber 2 = .ok (.iload_n 1, 1) := by decide +kernel
theorem dX3_placeNextByNumber_3 : decode cX3_placeNextByNumber 3 = .ok (.iconst 3, 1) := by decide +kernel
theorem dX3_placeNextByNumber_4 : decode cX3_placeNextByNumber 4 = .ok (.if_icmp .ge 18, 3) := by decide +kernel
theorem dX3_placeNextByNumber_7 : decode cX3_placeNextByNumber 7 = .ok (.aload_n 0, 1) := by decide +kernel
theorem dX3_placeNextByNumber_8 : decode cX3_placeNextByNumber 8 = .ok (.iload_n 1, 1) := by decide +kernel
theorem dX3_placeNextByNumber_9 : decode cX3_placeNextByNumber 9 = .ok (.aload_n 0, 1) := by decide +kernel
theorem dX3_placeNextByNumber_10 : decode cX3_placeNextByNumber 10 = .ok (.getfield 9, 3) := by decide +kernel
theorem dX3_placeNextByNumber_13 : decode cX3_placeNextByNumber 13 = .ok (.invokevirtual 35, 3) := by decide +kernel
theorem dX3_placeNextByNumber_16 : decode cX3_placeNextByNumber 16 = .ok (.iinc 1 1, 3) := by decide +kernel
theorem dX3_placeNextByNumber_19 : decode cX3_placeNextByNumber 19 = .ok (.goto (-17), 3) := by decide +kernel
theorem dX3_placeNextByNumber_22 : decode cX3_placeNextByNumber 22 = .ok (.return_, 1) := by decide +kernel
theorem dX3_admit_0 : decode cX3_admit 0 = .ok (.aload_n 0, 1) := by decide +kernel
theorem dX3_admit_1 : decode cX3_admit 1 = .ok (.getfield 9, 3) := by decide +kernel
theorem dX3_admit_4 : decode cX3_admit 4 = .ok (.bipush 6, 2) := by decide +kernel
theorem dX3_admit_6 : decode cX3_admit 6 = .ok (.if_icmp .ge 23, 3) := by decide +kernel
theorem dX3_admit_9 : decode cX3_admit 9 = .ok (.aload_n 0, 1) := by decide +kernel
theorem dX3_admit_10 : decode cX3_admit 10 = .ok (.getfield 15, 3) := by decide +kernel
theorem dX3_admit_13 : decode cX3_admit 13 = .ok (.aload_n 0, 1) := by decide +kernel
theorem dX3_admit_14 : decode cX3_admit 14 = .ok (.getfield 9, 3) := by decide +kernel
theorem dX3_admit_17 : decode cX3_admit 17 = .ok (.iload_n 1, 1) := by decide +kernel
theorem dX3_admit_18 : decode cX3_admit 18 = .ok (.iastore, 1) := by decide +kernel
theorem dX3_admit_19 : decode cX3_admit 19 = .ok (.aload_n 0, 1) := by decide +kernel
theorem dX3_admit_20 : decode cX3_admit 20 = .ok (.dup, 1) := by decide +kernel
theorem dX3_admit_21 : decode cX3_admit 21 = .ok (.getfield 9, 3) := by decide +kernel
theorem dX3_admit_24 : decode cX3_admit 24 = .ok (.iconst 1, 1) := by decide +kernel
theorem dX3_admit_25 : decode cX3_admit 25 = .ok (.iadd, 1) := by decide +kernel
theorem dX3_admit_26 : decode cX3_admit 26 = .ok (.putfield 9, 3) := by decide +kernel
theorem dX3_admit_29 : decode cX3_admit 29 = .ok (.return_, 1) := by decide +kernel
theorem dX3_findWhoStoodBy_0 : decode cX3_findWhoStoodBy 0 = .ok (.iconst 0, 1) := by decide +kernel
theorem dX3_findWhoStoodBy_1 : decode cX3_findWhoStoodBy 1 = .ok (.istore_n 1, 1) := by decide +kernel
theorem dX3_findWhoStoodBy_2 : decode cX3_findWhoStoodBy 2 = .ok (.iload_n 1, 1) := by decide +kernel
theorem dX3_findWhoStoodBy_3 : decode cX3_findWhoStoodBy 3 = .ok (.aload_n 0, 1) := by decide +kernel
theorem dX3_findWhoStoodBy_4 : decode cX3_findWhoStoodBy 4 = .ok (.getfield 9, 3) := by decide +kernel
theorem dX3_findWhoStoodBy_7 : decode cX3_findWhoStoodBy 7 = .ok (.if_icmp .ge 58, 3) := by decide +kernel
theorem dX3_findWhoStoodBy_10 : decode cX3_findWhoStoodBy 10 = .ok (.aload_n 0, 1) := by decide +kernel
theorem dX3_findWhoStoodBy_11 : decode cX3_findWhoStoodBy 11 = .ok (.getfield 24, 3) := by decide +kernel
theorem dX3_findWhoStoodBy_14 : decode cX3_findWhoStoodBy 14 = .ok (.iload_n 1, 1) := by decide +kernel
theorem dX3_findWhoStoodBy_15 : decode cX3_findWhoStoodBy 15 = .ok (.iconst 0, 1) := by decide +kernel
theorem dX3_findWhoStoodBy_16 : decode cX3_findWhoStoodBy 16 = .ok (.iastore, 1) := by decide +kernel
theorem dX3_findWhoStoodBy_17 : decode cX3_findWhoStoodBy 17 = .ok (.iconst 0, 1) := by decide +kernel
theorem dX3_findWhoStoodBy_18 : decode cX3_findWhoStoodBy 18 = .ok (.istore_n 2, 1) := by decide +kernel
theorem dX3_findWhoStoodBy_19 : decode cX3_findWhoStoodBy 19 = .ok (.iload_n 2, 1) := by decide +kernel
theorem dX3_findWhoStoodBy_20 : decode cX3_findWhoStoodBy 20 = .ok (.aload_n 0, 1) := by decide +kernel
theorem dX3_findWhoStoodBy_21 : decode cX3_findWhoStoodBy 21 = .ok (.getfield 9, 3) := by decide +kernel
theorem dX3_findWhoStoodBy_24 : decode cX3_findWhoStoodBy 24 = .ok (.if_icmp .ge 35, 3) := by decide +kernel
theorem dX3_findWhoStoodBy_27 : decode cX3_findWhoStoodBy 27 = .ok (.iload_n 2, 1) := by decide +kernel
theorem dX3_findWhoStoodBy_28 : decode cX3_findWhoStoodBy 28 = .ok (.iload_n 1, 1) := by decide +kernel
theorem dX3_findWhoStoodBy_29 : decode cX3_findWhoStoodBy 29 = .ok (.if_icmp .eq 24, 3) := by decide +kernel
theorem dX3_findWhoStoodBy_32 : decode cX3_findWhoStoodBy 32 = .ok (.aload_n 0, 1) := by decide +kernel
theorem dX3_findWhoStoodBy_33 : decode cX3_findWhoStoodBy 33 = .ok (.iload_n 1, 1) := by decide +kernel
theorem dX3_findWhoStoodBy_34 : decode cX3_findWhoStoodBy 34 = .ok (.iload_n 2, 1) := by decide +kernel
theorem dX3_findWhoStoodBy_35 : decode cX3_findWhoStoodBy 35 = .ok (.invokevirtual 39, 3) := by decide +kernel
theorem dX3_findWhoStoodBy_38 : decode cX3_findWhoStoodBy 38 = .ok (.ifCond .eq 15, 3) := by decide +kernel
theorem dX3_findWhoStoodBy_41 : decode cX3_findWhoStoodBy 41 = .ok (.aload_n 0, 1) := by decide +kernel
theorem dX3_findWhoStoodBy_42 : decode cX3_findWhoStoodBy 42 = .ok (.getfield 24, 3) := by decide +kernel
theorem dX3_findWhoStoodBy_45 : decode cX3_findWhoStoodBy 45 = .ok (.iload_n 1, 1) := by decide +kernel
theorem dX3_findWhoStoodBy_46 : decode cX3_findWhoStoodBy 46 = .ok (.dup2, 1) := by decide +kernel
theorem dX3_findWhoStoodBy_47 : decode cX3_findWhoStoodBy 47 = .ok (.iaload, 1) := by decide +kernel
theorem dX3_findWhoStoodBy_48 : decode cX3_findWhoStoodBy 48 = .ok (.iconst 1, 1) := by decide +kernel
theorem dX3_findWhoStoodBy_49 : decode cX3_findWhoStoodBy 49 = .ok (.iload_n 2, 1) := by decide +kernel
theorem dX3_findWhoStoodBy_50 : decode cX3_findWhoStoodBy 50 = .ok (.ishl, 1) := by decide +kernel
theorem dX3_findWhoStoodBy_51 : decode cX3_findWhoStoodBy 51 = .ok (.ior, 1) := by decide +kernel
theorem dX3_findWhoStoodBy_52 : decode cX3_findWhoStoodBy 52 = .ok (.iastore, 1) := by decide +kernel
theorem dX3_findWhoStoodBy_53 : decode cX3_findWhoStoodBy 53 = .ok (.iinc 2 1, 3) := by decide +kernel
theorem dX3_findWhoStoodBy_56 : decode cX3_findWhoStoodBy 56 = .ok (.goto (-37), 3) := by decide +kernel
theorem dX3_findWhoStoodBy_59 : decode cX3_findWhoStoodBy 59 = .ok (.iinc 1 1, 3) := by decide +kernel
theorem dX3_findWhoStoodBy_62 : decode cX3_findWhoStoodBy 62 = .ok (.goto (-60), 3) := by decide +kernel
theorem dX3_findWhoStoodBy_65 : decode cX3_findWhoStoodBy 65 = .ok (.return_, 1) := by decide +kernel
theorem dX3_wereTogether_0 : decode cX3_wereTogether 0 = .ok (.iconst 0, 1) := by decide +kernel
theorem dX3_wereTogether_1 : decode cX3_wereTogether 1 = .ok (.istore_n 3, 1) := by decide +kernel
theorem dX3_wereTogether_2 : decode cX3_wereTogether 2 = .ok (.iload_n 3, 1) := by decide +kernel
theorem dX3_wereTogether_3 : decode cX3_wereTogether 3 = .ok (.iconst 3, 1) := by decide +kernel
theorem dX3_wereTogether_4 : decode cX3_wereTogether 4 = .ok (.if_icmp .ge 40, 3) := by decide +kernel
theorem dX3_wereTogether_7 : decode cX3_wereTogether 7 = .ok (.aload_n 0, 1) := by decide +kernel
theorem dX3_wereTogether_8 : decode cX3_wereTogether 8 = .ok (.aload_n 0, 1) := by decide +kernel
theorem dX3_wereTogether_9 : decode cX3_wereTogether 9 = .ok (.getfield 21, 3) := by decide +kernel
theorem dX3_wereTogether_12 : decode cX3_wereTogether 12 = .ok (.iload_n 3, 1) := by decide +kernel
theorem dX3_wereTogether_13 : decode cX3_wereTogether 13 = .ok (.aaload, 1) := by decide +kernel
theorem dX3_wereTogether_14 : decode cX3_wereTogether 14 = .ok (.aload_n 0, 1) := by decide +kernel
theorem dX3_wereTogether_15 : decode cX3_wereTogether 15 = .ok (.getfield 21, 3) := by decide +kernel
theorem dX3_wereTogether_18 : decode cX3_wereTogether 18 = .ok (.iload_n 3, 1) := by decide +kernel
theorem dX3_wereTogether_19 : decode cX3_wereTogether 19 = .ok (.aaload, 1) := by decide +kernel
theorem dX3_wereTogether_20 : decode cX3_wereTogether 20 = .ok (.iload_n 1, 1) := by decide +kernel
theorem dX3_wereTogether_21 : decode cX3_wereTogether 21 = .ok (.iaload, 1) := by decide +kernel
theorem dX3_wereTogether_22 : decode cX3_wereTogether 22 = .ok (.aload_n 0, 1) := by decide +kernel
theorem dX3_wereTogether_23 : decode cX3_wereTogether 23 = .ok (.getfield 21, 3) := by decide +kernel
theorem dX3_wereTogether_26 : decode cX3_wereTogether 26 = .ok (.iload_n 3, 1) := by decide +kernel
theorem dX3_wereTogether_27 : decode cX3_wereTogether 27 = .ok (.aaload, 1) := by decide +kernel
theorem dX3_wereTogether_28 : decode cX3_wereTogether 28 = .ok (.iload_n 2, 1) := by decide +kernel
theorem dX3_wereTogether_29 : decode cX3_wereTogether 29 = .ok (.iaload, 1) := by decide +kernel
theorem dX3_wereTogether_30 : decode cX3_wereTogether 30 = .ok (.invokevirtual 42, 3) := by decide +kernel
theorem dX3_wereTogether_33 : decode cX3_wereTogether 33 = .ok (.ifCond .eq 5, 3) := by decide +kernel
theorem dX3_wereTogether_36 : decode cX3_wereTogether 36 = .ok (.iconst 1, 1) := by decide +kernel
theorem dX3_wereTogether_37 : decode cX3_wereTogether 37 = .ok (.ireturn, 1) := by decide +kernel
theorem dX3_wereTogether_38 : decode cX3_wereTogether 38 = .ok (.iinc 3 1, 3) := by decide +kernel
theorem dX3_wereTogether_41 : decode cX3_wereTogether 41 = .ok (.goto (-39), 3) := by decide +kernel
theorem dX3_wereTogether_44 : decode cX3_wereTogether 44 = .ok (.iconst 0, 1) := by decide +kernel
theorem dX3_wereTogether_45 : decode cX3_wereTogether 45 = .ok (.ireturn, 1) := by decide +kernel
theorem dX3_isNobodyBetween_0 : decode cX3_isNobodyBetween 0 = .ok (.iload_n 2, 1) := by decide +kernel
theorem dX3_isNobodyBetween_1 : decode cX3_isNobodyBetween 1 = .ok (.iload_n 3, 1) := by decide +kernel
theorem dX3_isNobodyBetween_2 : decode cX3_isNobodyBetween 2 = .ok (.invokestatic 46, 3) := by decide +kernel
theorem dX3_isNobodyBetween_5 : decode cX3_isNobodyBetween 5 = .ok (.istore 4, 2) := by decide +kernel
theorem dX3_isNobodyBetween_7 : decode cX3_isNobodyBetween 7 = .ok (.iload_n 2, 1) := by decide +kernel
theorem dX3_isNobodyBetween_8 : decode cX3_isNobodyBetween 8 = .ok (.iload_n 3, 1) := by decide +kernel
theorem dX3_isNobodyBetween_9 : decode cX3_isNobodyBetween 9 = .ok (.invokestatic 52, 3) := by decide +kernel
theorem dX3_isNobodyBetween_12 : decode cX3_isNobodyBetween 12 = .ok (.istore 5, 2) := by decide +kernel
theorem dX3_isNobodyBetween_14 : decode cX3_isNobodyBetween 14 = .ok (.iconst 0, 1) := by decide +kernel
theorem dX3_isNobodyBetween_15 : decode cX3_isNobodyBetween 15 = .ok (.istore 6, 2) := by decide +kernel
theorem dX3_isNobodyBetween_17 : decode cX3_isNobodyBetween 17 = .ok (.iload 6, 2) := by decide +kernel
theorem dX3_isNobodyBetween_19 : decode cX3_isNobodyBetween 19 = .ok (.aload_n 0, 1) := by decide +kernel
theorem dX3_isNobodyBetween_20 : decode cX3_isNobodyBetween 20 = .ok (.getfield 9, 3) := by decide +kernel
theorem dX3_isNobodyBetween_23 : decode cX3_isNobodyBetween 23 = .ok (.if_icmp .ge 29, 3) := by decide +kernel
theorem dX3_isNobodyBetween_26 : decode cX3_isNobodyBetween 26 = .ok (.aload_n 1, 1) := by decide +kernel
theorem dX3_isNobodyBetween_27 : decode cX3_isNobodyBetween 27 = .ok (.iload 6, 2) := by decide +kernel
theorem dX3_isNobodyBetween_29 : decode cX3_isNobodyBetween 29 = .ok (.iaload, 1) := by decide +kernel
theorem dX3_isNobodyBetween_30 : decode cX3_isNobodyBetween 30 = .ok (.iload 4, 2) := by decide +kernel
theorem dX3_isNobodyBetween_32 : decode cX3_isNobodyBetween 32 = .ok (.if_icmp .le 14, 3) := by decide +kernel
theorem dX3_isNobodyBetween_35 : decode cX3_isNobodyBetween 35 = .ok (.aload_n 1, 1) := by decide +kernel
theorem dX3_isNobodyBetween_36 : decode cX3_isNobodyBetween 36 = .ok (.iload 6, 2) := by decide +kernel
theorem dX3_isNobodyBetween_38 : decode cX3_isNobodyBetween 38 = .ok (.iaload, 1) := by decide +kernel
theorem dX3_isNobodyBetween_39 : decode cX3_isNobodyBetween 39 = .ok (.iload 5, 2) := by decide +kernel
theorem dX3_isNobodyBetween_41 : decode cX3_isNobodyBetween 41 = .ok (.if_icmp .ge 5, 3) := by decide +kernel
theorem dX3_isNobodyBetween_44 : decode cX3_isNobodyBetween 44 = .ok (.iconst 0, 1) := by decide +kernel
theorem dX3_isNobodyBetween_45 : decode cX3_isNobodyBetween 45 = .ok (.ireturn, 1) := by decide +kernel
theorem dX3_isNobodyBetween_46 : decode cX3_isNobodyBetween 46 = .ok (.iinc 6 1, 3) := by decide +kernel
theorem dX3_isNobodyBetween_49 : decode cX3_isNobodyBetween 49 = .ok (.goto (-32), 3) := by decide +kernel
theorem dX3_isNobodyBetween_52 : decode cX3_isNobodyBetween 52 = .ok (.iconst 1, 1) := by decide +kernel
theorem dX3_isNobodyBetween_53 : decode cX3_isNobodyBetween 53 = .ok (.ireturn, 1) := by decide +kernel
theorem dX3_wrongPairs_0 : decode cX3_wrongPairs 0 = .ok (.iconst 0, 1) := by decide +kernel
theorem dX3_wrongPairs_1 : decode cX3_wrongPairs 1 = .ok (.istore_n 3, 1) := by decide +kernel
theorem dX3_wrongPairs_2 : decode cX3_wrongPairs 2 = .ok (.iconst 1, 1) := by decide +kernel
theorem dX3_wrongPairs_3 : decode cX3_wrongPairs 3 = .ok (.istore 4, 2) := by decide +kernel
theorem dX3_wrongPairs_5 : decode cX3_wrongPairs 5 = .ok (.iload 4, 2) := by decide +kernel
theorem dX3_wrongPairs_7 : decode cX3_wrongPairs 7 = .ok (.iload_n 2, 1) := by decide +kernel
theorem dX3_wrongPairs_8 : decode cX3_wrongPairs 8 = .ok (.if_icmp .ge 33, 3) := by decide +kernel
theorem dX3_wrongPairs_11 : decode cX3_wrongPairs 11 = .ok (.aload_n 0, 1) := by decide +kernel
theorem dX3_wrongPairs_12 : decode cX3_wrongPairs 12 = .ok (.getfield 24, 3) := by decide +kernel
theorem dX3_wrongPairs_15 : decode cX3_wrongPairs 15 = .ok (.aload_n 1, 1) := by decide +kernel
theorem dX3_wrongPairs_16 : decode cX3_wrongPairs 16 = .ok (.iload 4, 2) := by decide +kernel
theorem dX3_wrongPairs_18 : decode cX3_wrongPairs 18 = .ok (.iconst 1, 1) := by decide +kernel
theorem dX3_wrongPairs_19 : decode cX3_wrongPairs 19 = .ok (.isub, 1) := by decide +kernel
theorem dX3_wrongPairs_20 : decode cX3_wrongPairs 20 = .ok (.iaload, 1) := by decide +kernel
theorem dX3_wrongPairs_21 : decode cX3_wrongPairs 21 = .ok (.iaload, 1) := by decide +kernel
theorem dX3_wrongPairs_22 : decode cX3_wrongPairs 22 = .ok (.aload_n 1, 1) := by decide +kernel
theorem dX3_wrongPairs_23 : decode cX3_wrongPairs 23 = .ok (.iload 4, 2) := by decide +kernel
theorem dX3_wrongPairs_25 : decode cX3_wrongPairs 25 = .ok (.iaload, 1) := by decide +kernel
theorem dX3_wrongPairs_26 : decode cX3_wrongPairs 26 = .ok (.invokestatic 55, 3) := by decide +kernel
theorem dX3_wrongPairs_29 : decode cX3_wrongPairs 29 = .ok (.ifCond .ne 6, 3) := by decide +kernel
theorem dX3_wrongPairs_32 : decode cX3_wrongPairs 32 = .ok (.iinc 3 1, 3) := by decide +kernel
theorem dX3_wrongPairs_35 : decode cX3_wrongPairs 35 = .ok (.iinc 4 1, 3) := by decide +kernel
theorem dX3_wrongPairs_38 : decode cX3_wrongPairs 38 = .ok (.goto (-33), 3) := by decide +kernel
theorem dX3_wrongPairs_41 : decode cX3_wrongPairs 41 = .ok (.iload_n 3, 1) := by decide +kernel
theorem dX3_wrongPairs_42 : decode cX3_wrongPairs 42 = .ok (.ireturn, 1) := by decide +kernel
theorem dX3_lossOf_0 : decode cX3_lossOf 0 = .ok (.aload_n 0, 1) := by decide +kernel
theorem dX3_lossOf_1 : decode cX3_lossOf 1 = .ok (.getfield 15, 3) := by decide +kernel
theorem dX3_lossOf_4 : decode cX3_lossOf 4 = .ok (.iload_n 1, 1) := by decide +kernel
theorem dX3_lossOf_5 : decode cX3_lossOf 5 = .ok (.iaload, 1) := by decide +kernel
theorem dX3_lossOf_6 : decode cX3_lossOf 6 = .ok (.tableswitch 88 1 4 #[30, 36, 41, 64], 30) := by decide +kernel
theorem dX3_lossOf_36 : decode cX3_lossOf 36 = .ok (.aload_n 0, 1) := by decide +kernel
theorem dX3_lossOf_37 : decode cX3_lossOf 37 = .ok (.iload_n 2, 1) := by decide +kernel
theorem dX3_lossOf_38 : decode cX3_lossOf 38 = .ok (.invokevirtual 58, 3) := by decide +kernel
theorem dX3_lossOf_41 : decode cX3_lossOf 41 = .ok (.ireturn, 1) := by decide +kernel
theorem dX3_lossOf_42 : decode cX3_lossOf 42 = .ok (.aload_n 0, 1) := by decide +kernel
theorem dX3_lossOf_43 : decode cX3_lossOf 43 = .ok (.invokevirtual 62, 3) := by decide +kernel
theorem dX3_lossOf_46 : decode cX3_lossOf 46 = .ok (.ireturn, 1) := by decide +kernel
theorem dX3_lossOf_47 : decode cX3_lossOf 47 = .ok (.aload_n 0, 1) := by decide +kernel
theorem dX3_lossOf_48 : decode cX3_lossOf 48 = .ok (.iload_n 2, 1) := by decide +kernel
theorem dX3_lossOf_49 : decode cX3_lossOf 49 = .ok (.invokevirtual 58, 3) := by decide +kernel
theorem dX3_lossOf_52 : decode cX3_lossOf 52 = .ok (.iload_n 3, 1) := by decide +kernel
theorem dX3_lossOf_53 : decode cX3_lossOf 53 = .ok (.iconst (-1), 1) := by decide +kernel
theorem dX3_lossOf_54 : decode cX3_lossOf 54 = .ok (.if_icmp .eq 9, 3) := by decide +kernel
theorem dX3_lossOf_57 : decode cX3_lossOf 57 = .ok (.iload 4, 2) := by decide +kernel
theorem dX3_lossOf_59 : decode cX3_lossOf 59 = .ok (.iconst (-1), 1) := by decide +kernel
theorem dX3_lossOf_60 : decode cX3_lossOf 60 = .ok (.if_icmp .ne 7, 3) := by decide +kernel
theorem dX3_lossOf_63 : decode cX3_lossOf 63 = .ok (.iconst 1, 1) := by decide +kernel
theorem dX3_lossOf_64 : decode cX3_lossOf 64 = .ok (.goto 4, 3) := by decide +kernel
theorem dX3_lossOf_67 : decode cX3_lossOf 67 = .ok (.iconst 0, 1) := by decide +kernel
theorem dX3_lossOf_68 : decode cX3_lossOf 68 = .ok (.iadd, 1) := by decide +kernel
theorem dX3_lossOf_69 : decode cX3_lossOf 69 = .ok (.ireturn, 1) := by decide +kernel
theorem dX3_lossOf_70 : decode cX3_lossOf 70 = .ok (.iconst 0, 1) := by decide +kernel
theorem dX3_lossOf_71 : decode cX3_lossOf 71 = .ok (.aload_n 0, 1) := by decide +kernel
theorem dX3_lossOf_72 : decode cX3_lossOf 72 = .ok (.invokevirtual 62, 3) := by decide +kernel
theorem dX3_lossOf_75 : decode cX3_lossOf 75 = .ok (.aload_n 0, 1) := by decide +kernel
theorem dX3_lossOf_76 : decode cX3_lossOf 76 = .ok (.iload_n 1, 1) := by decide +kernel
theorem dX3_lossOf_77 : decode cX3_lossOf 77 = .ok (.iload_n 3, 1) := by decide +kernel
theorem dX3_lossOf_78 : decode cX3_lossOf 78 = .ok (.invokevirtual 66, 3) := by decide +kernel
theorem dX3_lossOf_81 : decode cX3_lossOf 81 = .ok (.isub, 1) := by decide +kernel
theorem dX3_lossOf_82 : decode cX3_lossOf 82 = .ok (.aload_n 0, 1) := by decide +kernel
theorem dX3_lossOf_83 : decode cX3_lossOf 83 = .ok (.iload_n 1, 1) := by decide +kernel
theorem dX3_lossOf_84 : decode cX3_lossOf 84 = .ok (.iload 4, 2) := by decide +kernel
theorem dX3_lossOf_86 : decode cX3_lossOf 86 = .ok (.invokevirtual 66, 3) := by decide +kernel
theorem dX3_lossOf_89 : decode cX3_lossOf 89 = .ok (.isub, 1) := by decide +kernel
theorem dX3_lossOf_90 : decode cX3_lossOf 90 = .ok (.invokestatic 52, 3) := by decide +kernel
theorem dX3_lossOf_93 : decode cX3_lossOf 93 = .ok (.ireturn, 1) := by decide +kernel
theorem dX3_lossOf_94 : decode cX3_lossOf 94 = .ok (.aload_n 0, 1) := by decide +kernel
theorem dX3_lossOf_95 : decode cX3_lossOf 95 = .ok (.invokevirtual 69, 3) := by decide +kernel
theorem dX3_lossOf_98 : decode cX3_lossOf 98 = .ok (.ireturn, 1) := by decide +kernel
theorem dX3_lossOfPlain_0 : decode cX3_lossOfPlain 0 = .ok (.iconst 2, 1) := by decide +kernel
theorem dX3_lossOfPlain_1 : decode cX3_lossOfPlain 1 = .ok (.ireturn, 1) := by decide +kernel
theorem dX3_lossOfHale_0 : decode cX3_lossOfHale 0 = .ok (.iload_n 1, 1) := by decide +kernel
theorem dX3_lossOfHale_1 : decode cX3_lossOfHale 1 = .ok (.iconst 2, 1) := by decide +kernel
theorem dX3_lossOfHale_2 : decode cX3_lossOfHale 2 = .ok (.irem, 1) := by decide +kernel
theorem dX3_lossOfHale_3 : decode cX3_lossOfHale 3 = .ok (.ifCond .ne 10, 3) := by decide +kernel
theorem dX3_lossOfHale_6 : decode cX3_lossOfHale 6 = .ok (.aload_n 0, 1) := by decide +kernel
theorem dX3_lossOfHale_7 : decode cX3_lossOfHale 7 = .ok (.invokevirtual 69, 3) := by decide +kernel
theorem dX3_lossOfHale_10 : decode cX3_lossOfHale 10 = .ok (.goto 4, 3) := by decide +kernel
theorem dX3_lossOfHale_13 : decode cX3_lossOfHale 13 = .ok (.iconst 0, 1) := by decide +kernel
theorem dX3_lossOfHale_14 : decode cX3_lossOfHale 14 = .ok (.ireturn, 1) := by decide +kernel
theorem dX3_lossOfHurt_0 : decode cX3_lossOfHurt 0 = .ok (.iconst 2, 1) := by decide +kernel
theorem dX3_lossOfHurt_1 : decode cX3_lossOfHurt 1 = .ok (.aload_n 0, 1) := by decide +kernel
theorem dX3_lossOfHurt_2 : decode cX3_lossOfHurt 2 = .ok (.invokevirtual 69, 3) := by decide +kernel
theorem dX3_lossOfHurt_5 : decode cX3_lossOfHurt 5 = .ok (.imul, 1) := by decide +kernel
theorem dX3_lossOfHurt_6 : decode cX3_lossOfHurt 6 = .ok (.ireturn, 1) := by decide +kernel
theorem dX3_comrades_0 : decode cX3_comrades 0 = .ok (.iload_n 2, 1) := by decide +kernel
theorem dX3_comrades_1 : decode cX3_comrades 1 = .ok (.iconst (-1), 1) := by decide +kernel
theorem dX3_comrades_2 : decode cX3_comrades 2 = .ok (.if_icmp .eq 20, 3) := by decide +kernel
theorem dX3_comrades_5 : decode cX3_comrades 5 = .ok (.aload_n 0, 1) := by decide +kernel
theorem dX3_comrades_6 : decode cX3_comrades 6 = .ok (.getfield 24, 3) := by decide +kernel
theorem dX3_comrades_9 : decode cX3_comrades 9 = .ok (.iload_n 1, 1) := by decide +kernel
theorem dX3_comrades_10 : decode cX3_comrades 10 = .ok (.iaload, 1) := by decide +kernel
theorem dX3_comrades_11 : decode cX3_comrades 11 = .ok (.iload_n 2, 1) := by decide +kernel
theorem dX3_comrades_12 : decode cX3_comrades 12 = .ok (.invokestatic 55, 3) := by decide +kernel
theorem dX3_comrades_15 : decode cX3_comrades 15 = .ok (.ifCond .eq 7, 3) := by decide +kernel
theorem dX3_comrades_18 : decode cX3_comrades 18 = .ok (.iconst 1, 1) := by decide +kernel
theorem dX3_comrades_19 : decode cX3_comrades 19 = .ok (.goto 4, 3) := by decide +kernel
theorem dX3_comrades_22 : decode cX3_comrades 22 = .ok (.iconst 0, 1) := by decide +kernel
theorem dX3_comrades_23 : decode cX3_comrades 23 = .ok (.ireturn, 1) := by decide +kernel
theorem dX4_init_0 : decode cX4_init 0 = .ok (.aload_n 0, 1) := by decide +kernel
theorem dX4_init_1 : decode cX4_init 1 = .ok (.invokespecial 3, 3) := by decide +kernel
theorem dX4_init_4 : decode cX4_init 4 = .ok (.aload_n 0, 1) := by decide +kernel
theorem dX4_init_5 : decode cX4_init 5 = .ok (.iconst 0, 1) := by decide +kernel
theorem dX4_init_6 : decode cX4_init 6 = .ok (.putfield 9, 3) := by decide +kernel
theorem dX4_init_9 : decode cX4_init 9 = .ok (.aload_n 0, 1) := by decide +kernel
theorem dX4_init_10 : decode cX4_init 10 = .ok (.iconst 0, 1) := by decide +kernel
theorem dX4_init_11 : decode cX4_init 11 = .ok (.putfield 15, 3) := by decide +kernel
theorem dX4_init_14 : decode cX4_init 14 = .ok (.aload_n 0, 1) := by decide +kernel
theorem dX4_init_15 : decode cX4_init 15 = .ok (.iconst 0, 1) := by decide +kernel
theorem dX4_init_16 : decode cX4_init 16 = .ok (.putfield 19, 3) := by decide +kernel
theorem dX4_init_19 : decode cX4_init 19 = .ok (.aload_n 0, 1) := by decide +kernel
theorem dX4_init_20 : decode cX4_init 20 = .ok (.bipush 24, 2) := by decide +kernel
theorem dX4_init_22 : decode cX4_init 22 = .ok (.newarray .long, 2) := by decide +kernel
theorem dX4_init_24 : decode cX4_init 24 = .ok (.putfield 22, 3) := by decide +kernel
theorem dX4_init_27 : decode cX4_init 27 = .ok (.return_, 1) := by decide +kernel
theorem dX4_renew_0 : decode cX4_renew 0 = .ok (.aload_n 0, 1) := by decide +kernel
theorem dX4_renew_1 : decode cX4_renew 1 = .ok (.iconst 1, 1) := by decide +kernel
theorem dX4_renew_2 : decode cX4_renew 2 = .ok (.putfield 9, 3) := by decide +kernel
theorem dX4_renew_5 : decode cX4_renew 5 = .ok (.aload_n 0, 1) := by decide +kernel
theorem dX4_renew_6 : decode cX4_renew 6 = .ok (.iload_n 1, 1) := by decide +kernel
theorem dX4_renew_7 : decode cX4_renew 7 = .ok (.putfield 15, 3) := by decide +kernel
theorem dX4_renew_10 : decode cX4_renew 10 = .ok (.aload_n 0, 1) := by decide +kernel
theorem dX4_renew_11 : decode cX4_renew 11 = .ok (.iload_n 2, 1) := by decide +kernel
theorem dX4_renew_12 : decode cX4_renew 12 = .ok (.putfield 19, 3) := by decide +kernel
theorem dX4_renew_15 : decode cX4_renew 15 = .ok (.iconst 0, 1) := by decide +kernel
theorem dX4_renew_16 : decode cX4_renew 16 = .ok (.istore_n 3, 1) := by decide +kernel
theorem dX4_renew_17 : decode cX4_renew 17 = .ok (.iload_n 3, 1) := by decide +kernel
theorem dX4_renew_18 : decode cX4_renew 18 = .ok (.bipush 24, 2) := by decide +kernel
theorem dX4_renew_20 : decode cX4_renew 20 = .ok (.if_icmp .ge 16, 3) := by decide +kernel
theorem dX4_renew_23 : decode cX4_renew 23 = .ok (.aload_n 0, 1) := by decide +kernel
theorem dX4_renew_24 : decode cX4_renew 24 = .ok (.getfield 22, 3) := by decide +kernel
theorem dX4_renew_27 : decode cX4_renew 27 = .ok (.iload_n 3, 1) := by decide +kernel
theorem dX4_renew_28 : decode cX4_renew 28 = .ok (.lconst 0, 1) := by decide +kernel
theorem dX4_renew_29 : decode cX4_renew 29 = .ok (.lastore, 1) := by decide +kernel
theorem dX4_renew_30 : decode cX4_renew 30 = .ok (.iinc 3 1, 3) := by decide +kernel
theorem dX4_renew_33 : decode cX4_renew 33 = .ok (.goto (-16), 3) := by decide +kernel
theorem dX4_renew_36 : decode cX4_renew 36 = .ok (.return_, 1) := by decide +kernel
theorem dX4_spans_0 : decode cX4_spans 0 = .ok (.iload_n 1, 1) := by decide +kernel
theorem dX4_spans_1 : decode cX4_spans 1 = .ok (.ifCond .lt 21, 3) := by decide +kernel
theorem dX4_spans_4 : decode cX4_spans 4 = .ok (.iload_n 2, 1) := by decide +kernel
theorem dX4_spans_5 : decode cX4_spans 5 = .ok (.ifCond .lt 17, 3) := by decide +kernel
theorem dX4_spans_8 : decode cX4_spans 8 = .ok (.iload_n 1, 1) := by decide +kernel
theorem dX4_spans_9 : decode cX4_spans 9 = .ok (.aload_n 0, 1) := by decide +kernel
theorem dX4_spans_10 : decode cX4_spans 10 = .ok (.getfield 19, 3) := by decide +kernel
theorem dX4_spans_13 : decode cX4_spans 13 = .ok (.iload_n 2, 1) := by decide +kernel
theorem dX4_spans_14 : decode cX4_spans 14 = .ok (.isub, 1) := by decide +kernel
theorem dX4_spans_15 : decode cX4_spans 15 = .ok (.if_icmp .gt 7, 3) := by decide +kernel
theorem dX4_spans_18 : decode cX4_spans 18 = .ok (.iconst 1, 1) := by decide +kernel
theorem dX4_spans_19 : decode cX4_spans 19 = .ok (.goto 4, 3) := by decide +kernel
theorem dX4_spans_22 : decode cX4_spans 22 = .ok (.iconst 0, 1) := by decide +kernel
theorem dX4_spans_23 : decode cX4_spans 23 = .ok (.ireturn, 1) := by decide +kernel
theorem dX4_refusalOf_0 : decode cX4_refusalOf 0 = .ok (.aload_n 0, 1) := by decide +kernel
theorem dX4_refusalOf_1 : decode cX4_refusalOf 1 = .ok (.getfield 9, 3) := by decide +kernel
theorem dX4_refusalOf_4 : decode cX4_refusalOf 4 = .ok (.ifCond .ne 6, 3) := by decide +kernel
theorem dX4_refusalOf_7 : decode cX4_refusalOf 7 = .ok (.bipush (-11), 2) := by decide +kernel
theorem dX4_refusalOf_9 : decode cX4_refusalOf 9 = .ok (.ireturn, 1) := by decide +kernel
theorem dX4_refusalOf_10 : decode cX4_refusalOf 10 = .ok (.aload_n 0, 1) := by decide +kernel
theorem dX4_refusalOf_11 : decode cX4_refusalOf 11 = .ok (.getfield 15, 3) := by decide +kernel
theorem dX4_refusalOf_14 : decode cX4_refusalOf 14 = .ok (.iload_n 1, 1) := by decide +kernel
theorem dX4_refusalOf_15 : decode cX4_refusalOf 15 = .ok (.if_icmp .eq 6, 3) := by decide +kernel
theorem dX4_refusalOf_18 : decode cX4_refusalOf 18 = .ok (.bipush (-12), 2) := by decide +kernel
theorem dX4_refusalOf_20 : decode cX4_refusalOf 20 = .ok (.ireturn, 1) := by decide +kernel
theorem dX4_refusalOf_21 : decode cX4_refusalOf 21 = .ok (.aload_n 0, 1) := by decide +kernel
theorem dX4_refusalOf_22 : decode cX4_refusalOf 22 = .ok (.iload_n 2, 1) := by decide +kernel
theorem dX4_refusalOf_23 : decode cX4_refusalOf 23 = .ok (.iload_n 3, 1) := by decide +kernel
theorem dX4_refusalOf_24 : decode cX4_refusalOf 24 = .ok (.invokevirtual 26, 3) := by decide +kernel
theorem dX4_refusalOf_27 : decode cX4_refusalOf 27 = .ok (.ifCond .eq 7, 3) := by decide +kernel
theorem dX4_refusalOf_30 : decode cX4_refusalOf 30 = .ok (.iconst 0, 1) := by decide +kernel
theorem dX4_refusalOf_31 : decode cX4_refusalOf 31 = .ok (.goto 5, 3) := by decide +kernel
theorem dX4_refusalOf_34 : decode cX4_refusalOf 34 = .ok (.bipush (-13), 2) := by decide +kernel
theorem dX4_refusalOf_36 : decode cX4_refusalOf 36 = .ok (.ireturn, 1) := by decide +kernel
theorem dX4_put_0 : decode cX4_put 0 = .ok (.iload_n 1, 1) := by decide +kernel
theorem dX4_put_1 : decode cX4_put 1 = .ok (.iconst 0, 1) := by decide +kernel
theorem dX4_put_2 : decode cX4_put 2 = .ok (.aload_n 0, 1) := by decide +kernel
theorem dX4_put_3 : decode cX4_put 3 = .ok (.getfield 19, 3) := by decide +kernel
theorem dX4_put_6 : decode cX4_put 6 = .ok (.iconst 1, 1) := by decide +kernel
theorem dX4_put_7 : decode cX4_put 7 = .ok (.isub, 1) := by decide +kernel
theorem dX4_put_8 : decode cX4_put 8 = .ok (.invokestatic 30, 3) := by decide +kernel
theorem dX4_put_11 : decode cX4_put 11 = .ok (.ifCond .eq 14, 3) := by decide +kernel
theorem dX4_put_14 : decode cX4_put 14 = .ok (.aload_n 0, 1) := by decide +kernel
theorem dX4_put_15 : decode cX4_put 15 = .ok (.getfield 22, 3) := by decide +kernel
theorem dX4_put_18 : decode cX4_put 18 = .ok (.iload_n 1, 1) := by decide +kernel
theorem dX4_put_19 : decode cX4_put 19 = .ok (.aload_n 0, 1) := by decide +kernel
theorem dX4_put_20 : decode cX4_put 20 = .ok (.lload_n 2, 1) := by decide +kernel
theorem dX4_put_21 : decode cX4_put 21 = .ok (.invokevirtual 34, 3) := by decide +kernel
theorem dX4_put_24 : decode cX4_put 24 = .ok (.lastore, 1) := by decide +kernel
theorem dX4_put_25 : decode cX4_put 25 = .ok (.return_, 1) := by decide +kernel
theorem dX4_cut_0 : decode cX4_cut 0 = .ok (.aload_n 0, 1) := by decide +kernel
theorem dX4_cut_1 : decode cX4_cut 1 = .ok (.getfield 15, 3) := by decide +kernel
theorem dX4_cut_4 : decode cX4_cut 4 = .ok (.tableswitch 42 0 2 #[28, 33, 38], 28) := by decide +kernel
theorem dX4_cut_32 : decode cX4_cut 32 = .ok (.lload_n 1, 1) := by decide +kernel
theorem dX4_cut_33 : decode cX4_cut 33 = .ok (.l2i, 1) := by decide +kernel
theorem dX4_cut_34 : decode cX4_cut 34 = .ok (.i2b, 1) := by decide +kernel
theorem dX4_cut_35 : decode cX4_cut 35 = .ok (.i2l, 1) := by decide +kernel
theorem dX4_cut_36 : decode cX4_cut 36 = .ok (.lreturn, 1) := by decide +kernel
theorem dX4_cut_37 : decode cX4_cut 37 = .ok (.lload_n 1, 1) := by decide +kernel
theorem dX4_cut_38 : decode cX4_cut 38 = .ok (.l2i, 1) := by decide +kernel
theorem dX4_cut_39 : decode cX4_cut 39 = .ok (.i2s, 1) := by decide +kernel
theorem dX4_cut_40 : decode cX4_cut 40 = .ok (.i2l, 1) := by decide +kernel
theorem dX4_cut_41 : decode cX4_cut 41 = .ok (.lreturn, 1) := by decide +kernel
theorem dX4_cut_42 : decode cX4_cut 42 = .ok (.lload_n 1, 1) := by decide +kernel
theorem dX4_cut_43 : decode cX4_cut 43 = .ok (.l2i, 1) := by decide +kernel
theorem dX4_cut_44 : decode cX4_cut 44 = .ok (.i2l, 1) := by decide +kernel
theorem dX4_cut_45 : decode cX4_cut 45 = .ok (.lreturn, 1) := by decide +kernel
theorem dX4_cut_46 : decode cX4_cut 46 = .ok (.lload_n 1, 1) := by decide +kernel
theorem dX4_cut_47 : decode cX4_cut 47 = .ok (.lreturn, 1) := by decide +kernel
theorem dX5_init_0 : decode cX5_init 0 = .ok (.aload_n 0, 1) := by decide +kernel
theorem dX5_init_1 : decode cX5_init 1 = .ok (.invokespecial 1, 3) := by decide +kernel
theorem dX5_init_4 : decode cX5_init 4 = .ok (.aload_n 0, 1) := by decide +kernel
theorem dX5_init_5 : decode cX5_init 5 = .ok (.new 7, 3) := by decide +kernel
theorem dX5_init_8 : decode cX5_init 8 = .ok (.dup, 1) := by decide +kernel
theorem dX5_init_9 : decode cX5_init 9 = .ok (.invokespecial 9, 3) := by decide +kernel
theorem dX5_init_12 : decode cX5_init 12 = .ok (.putfield 10, 3) := by decide +kernel
theorem dX5_init_15 : decode cX5_init 15 = .ok (.aload_n 0, 1) := by decide +kernel
theorem dX5_init_16 : decode cX5_init 16 = .ok (.new 16, 3) := by decide +kernel
theorem dX5_init_19 : decode cX5_init 19 = .ok (.dup, 1) := by decide +kernel
theorem dX5_init_20 : decode cX5_init 20 = .ok (.invokespecial 18, 3) := by decide +kernel
theorem dX5_init_23 : decode cX5_init 23 = .ok (.putfield 19, 3) := by decide +kernel
theorem dX5_init_26 : decode cX5_init 26 = .ok (.aload_n 0, 1) := by decide +kernel
theorem dX5_init_27 : decode cX5_init 27 = .ok (.new 23, 3) := by decide +kernel
theorem dX5_init_30 : decode cX5_init 30 = .ok (.dup, 1) := by decide +kernel
theorem dX5_init_31 : decode cX5_init 31 = .ok (.invokespecial 25, 3) := by decide +kernel
theorem dX5_init_34 : decode cX5_init 34 = .ok (.putfield 26, 3) := by decide +kernel
theorem dX5_init_37 : decode cX5_init 37 = .ok (.return_, 1) := by decide +kernel
theorem dX5_takeFrom_0 : decode cX5_takeFrom 0 = .ok (.aload_n 0, 1) := by decide +kernel
theorem dX5_takeFrom_1 : decode cX5_takeFrom 1 = .ok (.getfield 10, 3) := by decide +kernel
theorem dX5_takeFrom_4 : decode cX5_takeFrom 4 = .ok (.aload_n 1, 1) := by decide +kernel
theorem dX5_takeFrom_5 : decode cX5_takeFrom 5 = .ok (.getfield 10, 3) := by decide +kernel
theorem dX5_takeFrom_8 : decode cX5_takeFrom 8 = .ok (.invokevirtual 30, 3) := by decide +kernel
theorem dX5_takeFrom_11 : decode cX5_takeFrom 11 = .ok (.aload_n 0, 1) := by decide +kernel
theorem dX5_takeFrom_12 : decode cX5_takeFrom 12 = .ok (.getfield 19, 3) := by decide +kernel
theorem dX5_takeFrom_15 : decode cX5_takeFrom 15 = .ok (.aload_n 1, 1) := by decide +kernel
theorem dX5_takeFrom_16 : decode cX5_takeFrom 16 = .ok (.getfield 19, 3) := by decide +kernel
theorem dX5_takeFrom_19 : decode cX5_takeFrom 19 = .ok (.invokevirtual 34, 3) := by decide +kernel
theorem dX5_takeFrom_22 : decode cX5_takeFrom 22 = .ok (.aload_n 0, 1) := by decide +kernel
theorem dX5_takeFrom_23 : decode cX5_takeFrom 23 = .ok (.getfield 26, 3) := by decide +kernel
theorem dX5_takeFrom_26 : decode cX5_takeFrom 26 = .ok (.aload_n 1, 1) := by decide +kernel
theorem dX5_takeFrom_27 : decode cX5_takeFrom 27 = .ok (.getfield 26, 3) := by decide +kernel
theorem dX5_takeFrom_30 : decode cX5_takeFrom 30 = .ok (.invokevirtual 37, 3) := by decide +kernel
theorem dX5_takeFrom_33 : decode cX5_takeFrom 33 = .ok (.return_, 1) := by decide +kernel
theorem dX6_init_0 : decode cX6_init 0 = .ok (.aload_n 0, 1) := by decide +kernel
theorem dX6_init_1 : decode cX6_init 1 = .ok (.invokespecial 3, 3) := by decide +kernel
theorem dX6_init_4 : decode cX6_init 4 = .ok (.aload_n 0, 1) := by decide +kernel
theorem dX6_init_5 : decode cX6_init 5 = .ok (.bipush 70, 2) := by decide +kernel
theorem dX6_init_7 : decode cX6_init 7 = .ok (.newarray .char, 2) := by decide +kernel
theorem dX6_init_9 : decode cX6_init 9 = .ok (.putfield 9, 3) := by decide +kernel
theorem dX6_init_12 : decode cX6_init 12 = .ok (.aload_n 0, 1) := by decide +kernel
theorem dX6_init_13 : decode cX6_init 13 = .ok (.iconst 0, 1) := by decide +kernel
theorem dX6_init_14 : decode cX6_init 14 = .ok (.putfield 15, 3) := by decide +kernel
theorem dX6_init_17 : decode cX6_init 17 = .ok (.aload_n 0, 1) := by decide +kernel
theorem dX6_init_18 : decode cX6_init 18 = .ok (.new 19, 3) := by decide +kernel
theorem dX6_init_21 : decode cX6_init 21 = .ok (.dup, 1) := by decide +kernel
theorem dX6_init_22 : decode cX6_init 22 = .ok (.invokespecial 21, 3) := by decide +kernel
theorem dX6_init_25 : decode cX6_init 25 = .ok (.putfield 22, 3) := by decide +kernel
theorem dX6_init_28 : decode cX6_init 28 = .ok (.aload_n 0, 1) := by decide +kernel
theorem dX6_init_29 : decode cX6_init 29 = .ok (.bipush 6, 2) := by decide +kernel
theorem dX6_init_31 : decode cX6_init 31 = .ok (.newarray .int, 2) := by decide +kernel
theorem dX6_init_33 : decode cX6_init 33 = .ok (.putfield 26, 3) := by decide +kernel
theorem dX6_init_36 : decode cX6_init 36 = .ok (.aload_n 0, 1) := by decide +kernel
theorem dX6_init_37 : decode cX6_init 37 = .ok (.iconst 0, 1) := by decide +kernel
theorem dX6_init_38 : decode cX6_init 38 = .ok (.putfield 30, 3) := by decide +kernel
theorem dX6_init_41 : decode cX6_init 41 = .ok (.aload_n 0, 1) := by decide +kernel
theorem dX6_init_42 : decode cX6_init 42 = .ok (.iconst 0, 1) := by decide +kernel
theorem dX6_init_43 : decode cX6_init 43 = .ok (.putfield 33, 3) := by decide +kernel
theorem dX6_init_46 : decode cX6_init 46 = .ok (.return_, 1) := by decide +kernel
theorem dX6_add_0 : decode cX6_add 0 = .ok (.aload_n 0, 1) := by decide +kernel
theorem dX6_add_1 : decode cX6_add 1 = .ok (.getfield 15, 3) := by decide +kernel
theorem dX6_add_4 : decode cX6_add 4 = .ok (.bipush 70, 2) := by decide +kernel
theorem dX6_add_6 : decode cX6_add 6 = .ok (.if_icmp .ge 23, 3) := by decide +kernel
theorem dX6_add_9 : decode cX6_add 9 = .ok (.aload_n 0, 1) := by decide +kernel
theorem dX6_add_10 : decode cX6_add 10 = .ok (.getfield 9, 3) := by decide +kernel
theorem dX6_add_13 : decode cX6_add 13 = .ok (.aload_n 0, 1) := by decide +kernel
theorem dX6_add_14 : decode cX6_add 14 = .ok (.getfield 15, 3) := by decide +kernel
theorem dX6_add_17 : decode cX6_add 17 = .ok (.iload_n 1, 1) := by decide +kernel
theorem dX6_add_18 : decode cX6_add 18 = .ok (.castore, 1) := by decide +kernel
theorem dX6_add_19 : decode cX6_add 19 = .ok (.aload_n 0, 1) := by decide +kernel
theorem dX6_add_20 : decode cX6_add 20 = .ok (.dup, 1) := by decide +kernel
theorem dX6_add_21 : decode cX6_add 21 = .ok (.getfield 15, 3) := by decide +kernel
theorem dX6_add_24 : decode cX6_add 24 = .ok (.iconst 1, 1) := by decide +kernel
theorem dX6_add_25 : decode cX6_add 25 = .ok (.iadd, 1) := by decide +kernel
theorem dX6_add_26 : decode cX6_add 26 = .ok (.putfield 15, 3) := by decide +kernel
theorem dX6_add_29 : decode cX6_add 29 = .ok (.return_, 1) := by decide +kernel
theorem dX6_readBench_0 : decode cX6_readBench 0 = .ok (.aload_n 0, 1) := by decide +kernel
theorem dX6_readBench_1 : decode cX6_readBench 1 = .ok (.iconst 0, 1) := by decide +kernel
theorem dX6_readBench_2 : decode cX6_readBench 2 = .ok (.putfield 30, 3) := by decide +kernel
theorem dX6_readBench_5 : decode cX6_readBench 5 = .ok (.aload_n 0, 1) := by decide +kernel
theorem dX6_readBench_6 : decode cX6_readBench 6 = .ok (.iconst 0, 1) := by decide +kernel
theorem dX6_readBench_7 : decode cX6_readBench 7 = .ok (.putfield 33, 3) := by decide +kernel
theorem dX6_readBench_10 : decode cX6_readBench 10 = .ok (.aload_n 0, 1) := by decide +kernel
theorem dX6_readBench_11 : decode cX6_readBench 11 = .ok (.getfield 22, 3) := by decide +kernel
theorem dX6_readBench_14 : decode cX6_readBench 14 = .ok (.iconst 0, 1) := by decide +kernel
theorem dX6_readBench_15 : decode cX6_readBench 15 = .ok (.putfield 36, 3) := by decide +kernel
theorem dX6_readBench_18 : decode cX6_readBench 18 = .ok (.iconst 0, 1) := by decide +kernel
theorem dX6_readBench_19 : decode cX6_readBench 19 = .ok (.istore_n 1, 1) := by decide +kernel
theorem dX6_readBench_20 : decode cX6_readBench 20 = .ok (.iload_n 1, 1) := by decide +kernel
theorem dX6_readBench_21 : decode cX6_readBench 21 = .ok (.bipush 6, 2) := by decide +kernel
theorem dX6_readBench_23 : decode cX6_readBench 23 = .ok (.if_icmp .ge 30, 3) := by decide +kernel
theorem dX6_readBench_26 : decode cX6_readBench 26 = .ok (.aload_n 0, 1) := by decide +kernel
theorem dX6_readBench_27 : decode cX6_readBench 27 = .ok (.invokevirtual 39, 3) := by decide +kernel
theorem dX6_readBench_30 : decode cX6_readBench 30 = .ok (.aload_n 0, 1) := by decide +kernel
theorem dX6_readBench_31 : decode cX6_readBench 31 = .ok (.getfield 33, 3) := by decide +kernel
theorem dX6_readBench_34 : decode cX6_readBench 34 = .ok (.ifCond .ne 19, 3) := by decide +kernel
theorem dX6_readBench_37 : decode cX6_readBench 37 = .ok (.aload_n 0, 1) := by decide +kernel
theorem dX6_readBench_38 : decode cX6_readBench 38 = .ok (.invokevirtual 42, 3) := by decide +kernel
theorem dX6_readBench_41 : decode cX6_readBench 41 = .ok (.ifCond .ne 6, 3) := by decide +kernel
theorem dX6_readBench_44 : decode cX6_readBench 44 = .ok (.goto 9, 3) := by decide +kernel
theorem dX6_readBench_47 : decode cX6_readBench 47 = .ok (.iinc 1 1, 3) := by decide +kernel
theorem dX6_readBench_50 : decode cX6_readBench 50 = .ok (.goto (-30), 3) := by decide +kernel
theorem dX6_readBench_53 : decode cX6_readBench 53 = .ok (.aload_n 0, 1) := by decide +kernel
theorem dX6_readBench_54 : decode cX6_readBench 54 = .ok (.getfield 33, 3) := by decide +kernel
theorem dX6_readBench_57 : decode cX6_readBench 57 = .ok (.ireturn, 1) := by decide +kernel
theorem dX6_readMan_0 : decode cX6_readMan 0 = .ok (.aload_n 0, 1) := by decide +kernel
theorem dX6_readMan_1 : decode cX6_readMan 1 = .ok (.invokevirtual 46, 3) := by decide +kernel
theorem dX6_readMan_4 : decode cX6_readMan 4 = .ok (.aload_n 0, 1) := by decide +kernel
theorem dX6_readMan_5 : decode cX6_readMan 5 = .ok (.getfield 30, 3) := by decide +kernel
theorem dX6_readMan_8 : decode cX6_readMan 8 = .ok (.istore_n 1, 1) := by decide +kernel
theorem dX6_readMan_9 : decode cX6_readMan 9 = .ok (.ldc 49, 2) := by decide +kernel
theorem dX6_readMan_11 : decode cX6_readMan 11 = .ok (.aload_n 0, 1) := by decide +kernel
theorem dX6_readMan_12 : decode cX6_readMan 12 = .ok (.invokevirtual 51, 3) := by decide +kernel
theorem dX6_readMan_15 : decode cX6_readMan 15 = .ok (.invokevirtual 55, 3) := by decide +kernel
theorem dX6_readMan_18 : decode cX6_readMan 18 = .ok (.istore_n 2, 1) := by decide +kernel
theorem dX6_readMan_19 : decode cX6_readMan 19 = .ok (.iload_n 2, 1) := by decide +kernel
theorem dX6_readMan_20 : decode cX6_readMan 20 = .ok (.ifCond .ge 12, 3) := by decide +kernel
theorem dX6_readMan_23 : decode cX6_readMan 23 = .ok (.aload_n 0, 1) := by decide +kernel
theorem dX6_readMan_24 : decode cX6_readMan 24 = .ok (.aload_n 0, 1) := by decide +kernel
theorem dX6_readMan_25 : decode cX6_readMan 25 = .ok (.getfield 30, 3) := by decide +kernel
theorem dX6_readMan_28 : decode cX6_readMan 28 = .ok (.invokevirtual 61, 3) := by decide +kernel
theorem dX6_readMan_31 : decode cX6_readMan 31 = .ok (.return_, 1) := by decide +kernel
theorem dX6_readMan_32 : decode cX6_readMan 32 = .ok (.aload_n 0, 1) := by decide +kernel
theorem dX6_readMan_33 : decode cX6_readMan 33 = .ok (.dup, 1) := by decide +kernel
theorem dX6_readMan_34 : decode cX6_readMan 34 = .ok (.getfield 30, 3) := by decide +kernel
theorem dX6_readMan_37 : decode cX6_readMan 37 = .ok (.iconst 1, 1) := by decide +kernel
theorem dX6_readMan_38 : decode cX6_readMan 38 = .ok (.iadd, 1) := by decide +kernel
theorem dX6_readMan_39 : decode cX6_readMan 39 = .ok (.putfield 30, 3) := by decide +kernel
theorem dX6_readMan_42 : decode cX6_readMan 42 = .ok (.aload_n 0, 1) := by decide +kernel
theorem dX6_readMan_43 : decode cX6_readMan 43 = .ok (.invokevirtual 65, 3) := by decide +kernel
theorem dX6_readMan_46 : decode cX6_readMan 46 = .ok (.istore_n 3, 1) := by decide +kernel
theorem dX6_readMan_47 : decode cX6_readMan 47 = .ok (.aload_n 0, 1) := by decide +kernel
theorem dX6_readMan_48 : decode cX6_readMan 48 = .ok (.getfield 33, 3) := by decide +kernel
theorem dX6_readMan_51 : decode cX6_readMan 51 = .ok (.ifCond .eq 4, 3) := by decide +kernel
theorem dX6_readMan_54 : decode cX6_readMan 54 = .ok (.return_, 1) := by decide +kernel
theorem dX6_readMan_55 : decode cX6_readMan 55 = .ok (.aload_n 0, 1) := by decide +kernel
theorem dX6_readMan_56 : decode cX6_readMan 56 = .ok (.invokevirtual 46, 3) := by decide +kernel
theorem dX6_readMan_59 : decode cX6_readMan 59 = .ok (.aload_n 0, 1) := by decide +kernel
theorem dX6_readMan_60 : decode cX6_readMan 60 = .ok (.invokevirtual 51, 3) := by decide +kernel
theorem dX6_readMan_63 : decode cX6_readMan 63 = .ok (.bipush 46, 2) := by decide +kernel
theorem dX6_readMan_65 : decode cX6_readMan 65 = .ok (.if_icmp .ne 20, 3) := by decide +kernel
theorem dX6_readMan_68 : decode cX6_readMan 68 = .ok (.aload_n 0, 1) := by decide +kernel
theorem dX6_readMan_69 : decode cX6_readMan 69 = .ok (.dup, 1) := by decide +kernel
theorem dX6_readMan_70 : decode cX6_readMan 70 = .ok (.getfield 30, 3) := by decide +kernel
theorem dX6_readMan_73 : decode cX6_readMan 73 = .ok (.iconst 1, 1) := by decide +kernel
theorem dX6_readMan_74 : decode cX6_readMan 74 = .ok (.iadd, 1) := by decide +kernel
theorem dX6_readMan_75 : decode cX6_readMan 75 = .ok (.putfield 30, 3) := by decide +kernel
theorem dX6_readMan_78 : decode cX6_readMan 78 = .ok (.aload_n 0, 1) := by decide +kernel
theorem dX6_readMan_79 : decode cX6_readMan 79 = .ok (.invokevirtual 69, 3) := by decide +kernel
theorem dX6_readMan_82 : decode cX6_readMan 82 = .ok (.goto 35, 3) := by decide +kernel
theorem dX6_readMan_85 : decode cX6_readMan 85 = .ok (.aload_n 0, 1) := by decide +kernel
theorem dX6_readMan_86 : decode cX6_readMan 86 = .ok (.getfield 22, 3) := by decide +kernel
theorem dX6_readMan_89 : decode cX6_readMan 89 = .ok (.aload_n 0, 1) := by decide +kernel
theorem dX6_readMan_90 : decode cX6_readMan 90 = .ok (.getfield 22, 3) := by decide +kernel
theorem dX6_readMan_93 : decode cX6_readMan 93 = .ok (.getfield 36, 3) := by decide +kernel
theorem dX6_readMan_96 : decode cX6_readMan 96 = .ok (.invokevirtual 72, 3) := by decide +kernel
theorem dX6_readMan_99 : decode cX6_readMan 99 = .ok (.ifCond .eq 11, 3) := by decide +kernel
theorem dX6_readMan_102 : decode cX6_readMan 102 = .ok (.aload_n 0, 1) := by decide +kernel
theorem dX6_readMan_103 : decode cX6_readMan 103 = .ok (.iload_n 1, 1) := by decide +kernel
theorem dX6_readMan_104 : decode cX6_readMan 104 = .ok (.invokevirtual 61, 3) := by decide +kernel
theorem dX6_readMan_107 : decode cX6_readMan 107 = .ok (.goto 10, 3) := by decide +kernel
theorem dX6_readMan_110 : decode cX6_readMan 110 = .ok (.aload_n 0, 1) := by decide +kernel
theorem dX6_readMan_111 : decode cX6_readMan 111 = .ok (.getfield 22, 3) := by decide +kernel
theorem dX6_readMan_114 : decode cX6_readMan 114 = .ok (.invokevirtual 76, 3) := by decide +kernel
theorem dX6_readMan_117 : decode cX6_readMan 117 = .ok (.aload_n 0, 1) := by decide +kernel
theorem dX6_readMan_118 : decode cX6_readMan 118 = .ok (.getfield 33, 3) := by decide +kernel
theorem dX6_readMan_121 : decode cX6_readMan 121 = .ok (.ifCond .ne 36, 3) := by decide +kernel
theorem dX6_readMan_124 : decode cX6_readMan 124 = .ok (.aload_n 0, 1) := by decide +kernel
theorem dX6_readMan_125 : decode cX6_readMan 125 = .ok (.getfield 22, 3) := by decide +kernel
theorem dX6_readMan_128 : decode cX6_readMan 128 = .ok (.getfield 36, 3) := by decide +kernel
theorem dX6_readMan_131 : decode cX6_readMan 131 = .ok (.bipush 6, 2) := by decide +kernel
theorem dX6_readMan_133 : decode cX6_readMan 133 = .ok (.if_icmp .ge 24, 3) := by decide +kernel
theorem dX6_readMan_136 : decode cX6_readMan 136 = .ok (.aload_n 0, 1) := by decide +kernel
theorem dX6_readMan_137 : decode cX6_readMan 137 = .ok (.getfield 26, 3) := by decide +kernel
theorem dX6_readMan_140 : decode cX6_readMan 140 = .ok (.aload_n 0, 1) := by decide +kernel
theorem dX6_readMan_141 : decode cX6_readMan 141 = .ok (.getfield 22, 3) := by decide +kernel
theorem dX6_readMan_144 : decode cX6_readMan 144 = .ok (.getfield 36, 3) := by decide +kernel
theorem dX6_readMan_147 : decode cX6_readMan 147 = .ok (.iload_n 3, 1) := by decide +kernel
theorem dX6_readMan_148 : decode cX6_readMan 148 = .ok (.iastore, 1) := by decide +kernel
theorem dX6_readMan_149 : decode cX6_readMan 149 = .ok (.aload_n 0, 1) := by decide +kernel
theorem dX6_readMan_150 : decode cX6_readMan 150 = .ok (.getfield 22, 3) := by decide +kernel
theorem dX6_readMan_153 : decode cX6_readMan 153 = .ok (.iload_n 2, 1) := by decide +kernel
theorem dX6_readMan_154 : decode cX6_readMan 154 = .ok (.invokevirtual 79, 3) := by decide +kernel
theorem dX6_readMan_157 : decode cX6_readMan 157 = .ok (.return_, 1) := by decide +kernel
theorem dX6_readLife_0 : decode cX6_readLife 0 = .ok (.aload_n 0, 1) := by decide +kernel
theorem dX6_readLife_1 : decode cX6_readLife 1 = .ok (.invokevirtual 46, 3) := by decide +kernel
theorem dX6_readLife_4 : decode cX6_readLife 4 = .ok (.aload_n 0, 1) := by decide +kernel
theorem dX6_readLife_5 : decode cX6_readLife 5 = .ok (.getfield 30, 3) := by decide +kernel
theorem dX6_readLife_8 : decode cX6_readLife 8 = .ok (.istore_n 1, 1) := by decide +kernel
theorem dX6_readLife_9 : decode cX6_readLife 9 = .ok (.aload_n 0, 1) := by decide +kernel
theorem dX6_readLife_10 : decode cX6_readLife 10 = .ok (.invokevirtual 82, 3) := by decide +kernel
theorem dX6_readLife_13 : decode cX6_readLife 13 = .ok (.ifCond .ne 13, 3) := by decide +kernel
theorem dX6_readLife_16 : decode cX6_readLife 16 = .ok (.aload_n 0, 1) := by decide +kernel
theorem dX6_readLife_17 : decode cX6_readLife 17 = .ok (.aload_n 0, 1) := by decide +kernel
theorem dX6_readLife_18 : decode cX6_readLife 18 = .ok (.getfield 30, 3) := by decide +kernel
theorem dX6_readLife_21 : decode cX6_readLife 21 = .ok (.invokevirtual 61, 3) := by decide +kernel
theorem dX6_readLife_24 : decode cX6_readLife 24 = .ok (.iconst 0, 1) := by decide +kernel
theorem dX6_readLife_25 : decode cX6_readLife 25 = .ok (.ireturn, 1) := by decide +kernel
theorem dX6_readLife_26 : decode cX6_readLife 26 = .ok (.aload_n 0, 1) := by decide +kernel
theorem dX6_readLife_27 : decode cX6_readLife 27 = .ok (.invokevirtual 85, 3) := by decide +kernel
theorem dX6_readLife_30 : decode cX6_readLife 30 = .ok (.istore_n 2, 1) := by decide +kernel
theorem dX6_readLife_31 : decode cX6_readLife 31 = .ok (.aload_n 0, 1) := by decide +kernel
theorem dX6_readLife_32 : decode cX6_readLife 32 = .ok (.invokevirtual 82, 3) := by decide +kernel
theorem dX6_readLife_35 : decode cX6_readLife 35 = .ok (.ifCond .eq 13, 3) := by decide +kernel
theorem dX6_readLife_38 : decode cX6_readLife 38 = .ok (.bipush 10, 2) := by decide +kernel
theorem dX6_readLife_40 : decode cX6_readLife 40 = .ok (.iload_n 2, 1) := by decide +kernel
theorem dX6_readLife_41 : decode cX6_readLife 41 = .ok (.imul, 1) := by decide +kernel
theorem dX6_readLife_42 : decode cX6_readLife 42 = .ok (.aload_n 0, 1) := by decide +kernel
theorem dX6_readLife_43 : decode cX6_readLife 43 = .ok (.invokevirtual 85, 3) := by decide +kernel
theorem dX6_readLife_46 : decode cX6_readLife 46 = .ok (.iadd, 1) := by decide +kernel
theorem dX6_readLife_47 : decode cX6_readLife 47 = .ok (.istore_n 2, 1) := by decide +kernel
theorem dX6_readLife_48 : decode cX6_readLife 48 = .ok (.iload_n 2, 1) := by decide +kernel
theorem dX6_readLife_49 : decode cX6_readLife 49 = .ok (.iconst 1, 1) := by decide +kernel
theorem dX6_readLife_50 : decode cX6_readLife 50 = .ok (.bipush 60, 2) := by decide +kernel
theorem dX6_readLife_52 : decode cX6_readLife 52 = .ok (.invokestatic 88, 3) := by decide +kernel
theorem dX6_readLife_55 : decode cX6_readLife 55 = .ok (.ifCond .ne 8, 3) := by decide +kernel
theorem dX6_readLife_58 : decode cX6_readLife 58 = .ok (.aload_n 0, 1) := by decide +kernel
theorem dX6_readLife_59 : decode cX6_readLife 59 = .ok (.iload_n 1, 1) := by decide +kernel
theorem dX6_readLife_60 : decode cX6_readLife 60 = .ok (.invokevirtual 61, 3) := by decide +kernel
theorem dX6_readLife_63 : decode cX6_readLife 63 = .ok (.iload_n 2, 1) := by decide +kernel
theorem dX6_readLife_64 : decode cX6_readLife 64 = .ok (.ireturn, 1) := by decide +kernel
theorem dX6_readPlaces_0 : decode cX6_readPlaces 0 = .ok (.iconst 0, 1) := by decide +kernel
theorem dX6_readPlaces_1 : decode cX6_readPlaces 1 = .ok (.istore_n 1, 1) := by decide +kernel
theorem dX6_readPlaces_2 : decode cX6_readPlaces 2 = .ok (.iload_n 1, 1) := by decide +kernel
theorem dX6_readPlaces_3 : decode cX6_readPlaces 3 = .ok (.iconst 3, 1) := by decide +kernel
theorem dX6_readPlaces_4 : decode cX6_readPlaces 4 = .ok (.if_icmp .ge 59, 3) := by decide +kernel
theorem dX6_readPlaces_7 : decode cX6_readPlaces 7 = .ok (.aload_n 0, 1) := by decide +kernel
theorem dX6_readPlaces_8 : decode cX6_readPlaces 8 = .ok (.invokevirtual 46, 3) := by decide +kernel
theorem dX6_readPlaces_11 : decode cX6_readPlaces 11 = .ok (.aload_n 0, 1) := by decide +kernel
theorem dX6_readPlaces_12 : decode cX6_readPlaces 12 = .ok (.invokevirtual 82, 3) := by decide +kernel
theorem dX6_readPlaces_15 : decode cX6_readPlaces 15 = .ok (.ifCond .eq 21, 3) := by decide +kernel
theorem dX6_readPlaces_18 : decode cX6_readPlaces 18 = .ok (.aload_n 0, 1) := by decide +kernel
theorem dX6_readPlaces_19 : decode cX6_readPlaces 19 = .ok (.getfield 22, 3) := by decide +kernel
theorem dX6_readPlaces_22 : decode cX6_readPlaces 22 = .ok (.iload_n 1, 1) := by decide +kernel
theorem dX6_readPlaces_23 : decode cX6_readPlaces 23 = .ok (.aload_n 0, 1) := by decide +kernel
theorem dX6_readPlaces_24 : decode cX6_readPlaces 24 = .ok (.invokevirtual 51, 3) := by decide +kernel
theorem dX6_readPlaces_27 : decode cX6_readPlaces 27 = .ok (.bipush 48, 2) := by decide +kernel
theorem dX6_readPlaces_29 : decode cX6_readPlaces 29 = .ok (.isub, 1) := by decide +kernel
theorem dX6_readPlaces_30 : decode cX6_readPlaces 30 = .ok (.invokevirtual 92, 3) := by decide +kernel
theorem dX6_readPlaces_33 : decode cX6_readPlaces 33 = .ok (.ifCond .eq 12, 3) := by decide +kernel
theorem dX6_readPlaces_36 : decode cX6_readPlaces 36 = .ok (.aload_n 0, 1) := by decide +kernel
theorem dX6_readPlaces_37 : decode cX6_readPlaces 37 = .ok (.aload_n 0, 1) := by decide +kernel
theorem dX6_readPlaces_38 : decode cX6_readPlaces 38 = .ok (.getfield 30, 3) := by decide +kernel
theorem dX6_readPlaces_41 : decode cX6_readPlaces 41 = .ok (.invokevirtual 61, 3) := by decide +kernel
theorem dX6_readPlaces_44 : decode cX6_readPlaces 44 = .ok (.return_, 1) := by decide +kernel
theorem dX6_readPlaces_45 : decode cX6_readPlaces 45 = .ok (.aload_n 0, 1) := by decide +kernel
theorem dX6_readPlaces_46 : decode cX6_readPlaces 46 = .ok (.getfield 22, 3) := by decide +kernel
theorem dX6_readPlaces_49 : decode cX6_readPlaces 49 = .ok (.iload_n 1, 1) := by decide +kernel
theorem dX6_readPlaces_50 : decode cX6_readPlaces 50 = .ok (.aload_n 0, 1) := by decide +kernel
theorem dX6_readPlaces_51 : decode cX6_readPlaces 51 = .ok (.invokevirtual 85, 3) := by decide +kernel
theorem dX6_readPlaces_54 : decode cX6_readPlaces 54 = .ok (.invokevirtual 96, 3) := by decide +kernel
theorem dX6_readPlaces_57 : decode cX6_readPlaces 57 = .ok (.iinc 1 1, 3) := by decide +kernel
theorem dX6_readPlaces_60 : decode cX6_readPlaces 60 = .ok (.goto (-58), 3) := by decide +kernel
theorem dX6_readPlaces_63 : decode cX6_readPlaces 63 = .ok (.return_, 1) := by decide +kernel
theorem dX6_readComma_0 : decode cX6_readComma 0 = .ok (.aload_n 0, 1) := by decide +kernel
theorem dX6_readComma_1 : decode cX6_readComma 1 = .ok (.invokevirtual 46, 3) := by decide +kernel
theorem dX6_readComma_4 : decode cX6_readComma 4 = .ok (.aload_n 0, 1) := by decide +kernel
theorem dX6_readComma_5 : decode cX6_readComma 5 = .ok (.getfield 30, 3) := by decide +kernel
theorem dX6_readComma_8 : decode cX6_readComma 8 = .ok (.aload_n 0, 1) := by decide +kernel
theorem dX6_readComma_9 : decode cX6_readComma 9 = .ok (.getfield 15, 3) := by decide +kernel
theorem dX6_readComma_12 : decode cX6_readComma 12 = .ok (.if_icmp .lt 5, 3) := by decide +kernel
theorem dX6_readComma_15 : decode cX6_readComma 15 = .ok (.iconst 0, 1) := by decide +kernel
theorem dX6_readComma_16 : decode cX6_readComma 16 = .ok (.ireturn, 1) := by decide +kernel
theorem dX6_readComma_17 : decode cX6_readComma 17 = .ok (.aload_n 0, 1) := by decide +kernel
theorem dX6_readComma_18 : decode cX6_readComma 18 = .ok (.invokevirtual 51, 3) := by decide +kernel
theorem dX6_readComma_21 : decode cX6_readComma 21 = .ok (.bipush 44, 2) := by decide +kernel
theorem dX6_readComma_23 : decode cX6_readComma 23 = .ok (.if_icmp .ne 15, 3) := by decide +kernel
theorem dX6_readComma_26 : decode cX6_readComma 26 = .ok (.aload_n 0, 1) := by decide +kernel
theorem dX6_readComma_27 : decode cX6_readComma 27 = .ok (.getfield 22, 3) := by decide +kernel
theorem dX6_readComma_30 : decode cX6_readComma 30 = .ok (.getfield 36, 3) := by decide +kernel
theorem dX6_readComma_33 : decode cX6_readComma 33 = .ok (.bipush 6, 2) := by decide +kernel
theorem dX6_readComma_35 : decode cX6_readComma 35 = .ok (.if_icmp .lt 13, 3) := by decide +kernel
theorem dX6_readComma_38 : decode cX6_readComma 38 = .ok (.aload_n 0, 1) := by decide +kernel
theorem dX6_readComma_39 : decode cX6_readComma 39 = .ok (.aload_n 0, 1) := by decide +kernel
theorem dX6_readComma_40 : decode cX6_readComma 40 = .ok (.getfield 30, 3) := by decide +kernel
theorem dX6_readComma_43 : decode cX6_readComma 43 = .ok (.invokevirtual 61, 3) := by decide +kernel
theorem dX6_readComma_46 : decode cX6_readComma 46 = .ok (.iconst 0, 1) := by decide +kernel
theorem dX6_readComma_47 : decode cX6_readComma 47 = .ok (.ireturn, 1) := by decide +kernel
theorem dX6_readComma_48 : decode cX6_readComma 48 = .ok (.aload_n 0, 1) := by decide +kernel
theorem dX6_readComma_49 : decode cX6_readComma 49 = .ok (.dup, 1) := by decide +kernel
theorem dX6_readComma_50 : decode cX6_readComma 50 = .ok (.getfield 30, 3) := by decide +kernel
theorem dX6_readComma_53 : decode cX6_readComma 53 = .ok (.iconst 1, 1) := by decide +kernel
theorem dX6_readComma_54 : decode cX6_readComma 54 = .ok (.iadd, 1) := by decide +kernel
theorem dX6_readComma_55 : decode cX6_readComma 55 = .ok (.putfield 30, 3) := by decide +kernel
theorem dX6_readComma_58 : decode cX6_readComma 58 = .ok (.iconst 1, 1) := by decide +kernel
theorem dX6_readComma_59 : decode cX6_readComma 59 = .ok (.ireturn, 1) := by decide +kernel
theorem dX6_faultAt_0 : decode cX6_faultAt 0 = .ok (.aload_n 0, 1) := by decide +kernel
theorem dX6_faultAt_1 : decode cX6_faultAt 1 = .ok (.bipush (-20), 2) := by decide +kernel
theorem dX6_faultAt_3 : decode cX6_faultAt 3 = .ok (.iload_n 1, 1) := by decide +kernel
theorem dX6_faultAt_4 : decode cX6_faultAt 4 = .ok (.isub, 1) := by decide +kernel
theorem dX6_faultAt_5 : decode cX6_faultAt 5 = .ok (.putfield 33, 3) := by decide +kernel
theorem dX6_faultAt_8 : decode cX6_faultAt 8 = .ok (.return_, 1) := by decide +kernel
theorem dX6_skipBlanks_0 : decode cX6_skipBlanks 0 = .ok (.aload_n 0, 1) := by decide +kernel
theorem dX6_skipBlanks_1 : decode cX6_skipBlanks 1 = .ok (.getfield 30, 3) := by decide +kernel
theorem dX6_skipBlanks_4 : decode cX6_skipBlanks 4 = .ok (.aload_n 0, 1) := by decide +kernel
theorem dX6_skipBlanks_5 : decode cX6_skipBlanks 5 = .ok (.getfield 15, 3) := by decide +kernel
theorem dX6_skipBlanks_8 : decode cX6_skipBlanks 8 = .ok (.if_icmp .ge 25, 3) := by decide +kernel
theorem dX6_skipBlanks_11 : decode cX6_skipBlanks 11 = .ok (.aload_n 0, 1) := by decide +kernel
theorem dX6_skipBlanks_12 : decode cX6_skipBlanks 12 = .ok (.invokevirtual 51, 3) := by decide +kernel
theorem dX6_skipBlanks_15 : decode cX6_skipBlanks 15 = .ok (.bipush 32, 2) := by decide +kernel
theorem dX6_skipBlanks_17 : decode cX6_skipBlanks 17 = .ok (.if_icmp .ne 16, 3) := by decide +kernel
theorem dX6_skipBlanks_20 : decode cX6_skipBlanks 20 = .ok (.aload_n 0, 1) := by decide +kernel
theorem dX6_skipBlanks_21 : decode cX6_skipBlanks 21 = .ok (.dup, 1) := by decide +kernel
theorem dX6_skipBlanks_22 : decode cX6_skipBlanks 22 = .ok (.getfield 30, 3) := by decide +kernel
theorem dX6_skipBlanks_25 : decode cX6_skipBlanks 25 = .ok (.iconst 1, 1) := by decide +kernel
theorem dX6_skipBlanks_26 : decode cX6_skipBlanks 26 = .ok (.iadd, 1) := by decide +kernel
theorem dX6_skipBlanks_27 : decode cX6_skipBlanks 27 = .ok (.putfield 30, 3) := by decide +kernel
theorem dX6_skipBlanks_30 : decode cX6_skipBlanks 30 = .ok (.goto (-30), 3) := by decide +kernel
theorem dX6_skipBlanks_33 : decode cX6_skipBlanks 33 = .ok (.return_, 1) := by decide +kernel
theorem dX6_here_0 : decode cX6_here 0 = .ok (.aload_n 0, 1) := by decide +kernel
theorem dX6_here_1 : decode cX6_here 1 = .ok (.getfield 30, 3) := by decide +kernel
theorem dX6_here_4 : decode cX6_here 4 = .ok (.ifCond .lt 35, 3) := by decide +kernel
theorem dX6_here_7 : decode cX6_here 7 = .ok (.aload_n 0, 1) := by decide +kernel
theorem dX6_here_8 : decode cX6_here 8 = .ok (.getfield 30, 3) := by decide +kernel
theorem dX6_here_11 : decode cX6_here 11 = .ok (.aload_n 0, 1) := by decide +kernel
theorem dX6_here_12 : decode cX6_here 12 = .ok (.getfield 15, 3) := by decide +kernel
theorem dX6_here_15 : decode cX6_here 15 = .ok (.if_icmp .ge 24, 3) := by decide +kernel
theorem dX6_here_18 : decode cX6_here 18 = .ok (.aload_n 0, 1) := by decide +kernel
theorem dX6_here_19 : decode cX6_here 19 = .ok (.getfield 30, 3) := by decide +kernel
theorem dX6_here_22 : decode cX6_here 22 = .ok (.bipush 70, 2) := by decide +kernel
theorem dX6_here_24 : decode cX6_here 24 = .ok (.if_icmp .ge 15, 3) := by decide +kernel
theorem dX6_here_27 : decode cX6_here 27 = .ok (.aload_n 0, 1) := by decide +kernel
theorem dX6_here_28 : decode cX6_here 28 = .ok (.getfield 9, 3) := by decide +kernel
theorem dX6_here_31 : decode cX6_here 31 = .ok (.aload_n 0, 1) := by decide +kernel
theorem dX6_here_32 : decode cX6_here 32 = .ok (.getfield 30, 3) := by decide +kernel
theorem dX6_here_35 : decode cX6_here 35 = .ok (.caload, 1) := by decide +kernel
theorem dX6_here_36 : decode cX6_here 36 = .ok (.goto 4, 3) := by decide +kernel
theorem dX6_here_39 : decode cX6_here 39 = .ok (.iconst 0, 1) := by decide +kernel
theorem dX6_here_40 : decode cX6_here 40 = .ok (.ireturn, 1) := by decide +kernel
theorem dX6_isDigit_0 : decode cX6_isDigit 0 = .ok (.aload_n 0, 1) := by decide +kernel
theorem dX6_isDigit_1 : decode cX6_isDigit 1 = .ok (.invokevirtual 51, 3) := by decide +kernel
theorem dX6_isDigit_4 : decode cX6_isDigit 4 = .ok (.bipush 48, 2) := by decide +kernel
theorem dX6_isDigit_6 : decode cX6_isDigit 6 = .ok (.bipush 57, 2) := by decide +kernel
theorem dX6_isDigit_8 : decode cX6_isDigit 8 = .ok (.invokestatic 88, 3) := by decide +kernel
theorem dX6_isDigit_11 : decode cX6_isDigit 11 = .ok (.ireturn, 1) := by decide +kernel
theorem dX6_readDigit_0 : decode cX6_readDigit 0 = .ok (.aload_n 0, 1) := by decide +kernel
theorem dX6_readDigit_1 : decode cX6_readDigit 1 = .ok (.invokevirtual 51, 3) := by decide +kernel
theorem dX6_readDigit_4 : decode cX6_readDigit 4 = .ok (.bipush 48, 2) := by decide +kernel
theorem dX6_readDigit_6 : decode cX6_readDigit 6 = .ok (.isub, 1) := by decide +kernel
theorem dX6_readDigit_7 : decode cX6_readDigit 7 = .ok (.istore_n 1, 1) := by decide +kernel
theorem dX6_readDigit_8 : decode cX6_readDigit 8 = .ok (.aload_n 0, 1) := by decide +kernel
theorem dX6_readDigit_9 : decode cX6_readDigit 9 = .ok (.dup, 1) := by decide +kernel
theorem dX6_readDigit_10 : decode cX6_readDigit 10 = .ok (.getfield 30, 3) := by decide +kernel
theorem dX6_readDigit_13 : decode cX6_readDigit 13 = .ok (.iconst 1, 1) := by decide +kernel
theorem dX6_readDigit_14 : decode cX6_readDigit 14 = .ok (.iadd, 1) := by decide +kernel
theorem dX6_readDigit_15 : decode cX6_readDigit 15 = .ok (.putfield 30, 3) := by decide +kernel
theorem dX6_readDigit_18 : decode cX6_readDigit 18 = .ok (.iload_n 1, 1) := by decide +kernel
theorem dX6_readDigit_19 : decode cX6_readDigit 19 = .ok (.ireturn, 1) := by decide +kernel
end
section
theorem dX7_init_0 : decode cX7_init 0 = .ok (.aload_n 0, 1) := by decide +kernel
theorem dX7_init_1 : decode cX7_init 1 = .ok (.invokespecial 1, 3) := by decide +kernel
theorem dX7_init_4 : decode cX7_init 4 = .ok (.aload_n 0, 1) := by decide +kernel
theorem dX7_init_5 : decode cX7_init 5 = .ok (.new 7, 3) := by decide +kernel
theorem dX7_init_8 : decode cX7_init 8 = .ok (.dup, 1) := by decide +kernel
theorem dX7_init_9 : decode cX7_init 9 = .ok (.invokespecial 9, 3) := by decide +kernel
theorem dX7_init_12 : decode cX7_init 12 = .ok (.putfield 10, 3) := by decide +kernel
theorem dX7_init_15 : decode cX7_init 15 = .ok (.aload_n 0, 1) := by decide +kernel
theorem dX7_init_16 : decode cX7_init 16 = .ok (.new 7, 3) := by decide +kernel
theorem dX7_init_19 : decode cX7_init 19 = .ok (.dup, 1) := by decide +kernel
theorem dX7_init_20 : decode cX7_init 20 = .ok (.invokespecial 9, 3) := by decide +kernel
theorem dX7_init_23 : decode cX7_init 23 = .ok (.putfield 16, 3) := by decide +kernel
theorem dX7_init_26 : decode cX7_init 26 = .ok (.aload_n 0, 1) := by decide +kernel
theorem dX7_init_27 : decode cX7_init 27 = .ok (.iconst 0, 1) := by decide +kernel
theorem dX7_init_28 : decode cX7_init 28 = .ok (.putfield 19, 3) := by decide +kernel
theorem dX7_init_31 : decode cX7_init 31 = .ok (.aload_n 0, 1) := by decide +kernel
theorem dX7_init_32 : decode cX7_init 32 = .ok (.new 23, 3) := by decide +kernel
theorem dX7_init_35 : decode cX7_init 35 = .ok (.dup, 1) := by decide +kernel
theorem dX7_init_36 : decode cX7_init 36 = .ok (.invokespecial 25, 3) := by decide +kernel
theorem dX7_init_39 : decode cX7_init 39 = .ok (.putfield 26, 3) := by decide +kernel
theorem dX7_init_42 : decode cX7_init 42 = .ok (.aload_n 0, 1) := by decide +kernel
theorem dX7_init_43 : decode cX7_init 43 = .ok (.iconst 4, 1) := by decide +kernel
theorem dX7_init_44 : decode cX7_init 44 = .ok (.anewarray 30, 3) := by decide +kernel
theorem dX7_init_47 : decode cX7_init 47 = .ok (.putfield 32, 3) := by decide +kernel
theorem dX7_init_50 : decode cX7_init 50 = .ok (.aload_n 0, 1) := by decide +kernel
theorem dX7_init_51 : decode cX7_init 51 = .ok (.new 36, 3) := by decide +kernel
theorem dX7_init_54 : decode cX7_init 54 = .ok (.dup, 1) := by decide +kernel
theorem dX7_init_55 : decode cX7_init 55 = .ok (.invokespecial 38, 3) := by decide +kernel
theorem dX7_init_58 : decode cX7_init 58 = .ok (.putfield 39, 3) := by decide +kernel
theorem dX7_init_61 : decode cX7_init 61 = .ok (.aload_n 0, 1) := by decide +kernel
theorem dX7_init_62 : decode cX7_init 62 = .ok (.new 43, 3) := by decide +kernel
theorem dX7_init_65 : decode cX7_init 65 = .ok (.dup, 1) := by decide +kernel
theorem dX7_init_66 : decode cX7_init 66 = .ok (.invokespecial 45, 3) := by decide +kernel
theorem dX7_init_69 : decode cX7_init 69 = .ok (.putfield 46, 3) := by decide +kernel
theorem dX7_init_72 : decode cX7_init 72 = .ok (.aload_n 0, 1) := by decide +kernel
theorem dX7_init_73 : decode cX7_init 73 = .ok (.new 50, 3) := by decide +kernel
theorem dX7_init_76 : decode cX7_init 76 = .ok (.dup, 1) := by decide +kernel
theorem dX7_init_77 : decode cX7_init 77 = .ok (.invokespecial 52, 3) := by decide +kernel
theorem dX7_init_80 : decode cX7_init 80 = .ok (.putfield 53, 3) := by decide +kernel
theorem dX7_init_83 : decode cX7_init 83 = .ok (.aload_n 0, 1) := by decide +kernel
theorem dX7_init_84 : decode cX7_init 84 = .ok (.bipush 6, 2) := by decide +kernel
theorem dX7_init_86 : decode cX7_init 86 = .ok (.newarray .int, 2) := by decide +kernel
theorem dX7_init_88 : decode cX7_init 88 = .ok (.putfield 57, 3) := by decide +kernel
theorem dX7_init_91 : decode cX7_init 91 = .ok (.iconst 0, 1) := by decide +kernel
theorem dX7_init_92 : decode cX7_init 92 = .ok (.istore_n 1, 1) := by decide +kernel
theorem dX7_init_93 : decode cX7_init 93 = .ok (.iload_n 1, 1) := by decide +kernel
theorem dX7_init_94 : decode cX7_init 94 = .ok (.iconst 4, 1) := by decide +kernel
theorem dX7_init_95 : decode cX7_init 95 = .ok (.if_icmp .ge 22, 3) := by decide +kernel
theorem dX7_init_98 : decode cX7_init 98 = .ok (.aload_n 0, 1) := by decide +kernel
theorem dX7_init_99 : decode cX7_init 99 = .ok (.getfield 32, 3) := by decide +kernel
theorem dX7_init_102 : decode cX7_init 102 = .ok (.iload_n 1, 1) := by decide +kernel
theorem dX7_init_103 : decode cX7_init 103 = .ok (.new 30, 3) := by decide +kernel
theorem dX7_init_106 : decode cX7_init 106 = .ok (.dup, 1) := by decide +kernel
theorem dX7_init_107 : decode cX7_init 107 = .ok (.invokespecial 61, 3) := by decide +kernel
theorem dX7_init_110 : decode cX7_init 110 = .ok (.aastore, 1) := by decide +kernel
theorem dX7_init_111 : decode cX7_init 111 = .ok (.iinc 1 1, 3) := by decide +kernel
theorem dX7_init_114 : decode cX7_init 114 = .ok (.goto (-21), 3) := by decide +kernel
theorem dX7_init_117 : decode cX7_init 117 = .ok (.return_, 1) := by decide +kernel
theorem dX7_man_0 : decode cX7_man 0 = .ok (.iload_n 1, 1) := by decide +kernel
theorem dX7_man_1 : decode cX7_man 1 = .ok (.iconst 0, 1) := by decide +kernel
theorem dX7_man_2 : decode cX7_man 2 = .ok (.iconst 4, 1) := by decide +kernel
theorem dX7_man_3 : decode cX7_man 3 = .ok (.invokestatic 62, 3) := by decide +kernel
theorem dX7_man_6 : decode cX7_man 6 = .ok (.ifCond .eq 13, 3) := by decide +kernel
theorem dX7_man_9 : decode cX7_man 9 = .ok (.iload_n 2, 1) := by decide +kernel
theorem dX7_man_10 : decode cX7_man 10 = .ok (.iconst 1, 1) := by decide +kernel
theorem dX7_man_11 : decode cX7_man 11 = .ok (.bipush 60, 2) := by decide +kernel
theorem dX7_man_13 : decode cX7_man 13 = .ok (.invokestatic 62, 3) := by decide +kernel
theorem dX7_man_16 : decode cX7_man 16 = .ok (.ifCond .ne 5, 3) := by decide +kernel
theorem dX7_man_19 : decode cX7_man 19 = .ok (.iconst (-1), 1) := by decide +kernel
theorem dX7_man_20 : decode cX7_man 20 = .ok (.ireturn, 1) := by decide +kernel
theorem dX7_man_21 : decode cX7_man 21 = .ok (.aload_n 0, 1) := by decide +kernel
theorem dX7_man_22 : decode cX7_man 22 = .ok (.getfield 10, 3) := by decide +kernel
theorem dX7_man_25 : decode cX7_man 25 = .ok (.getfield 66, 3) := by decide +kernel
theorem dX7_man_28 : decode cX7_man 28 = .ok (.astore_n 3, 1) := by decide +kernel
theorem dX7_man_29 : decode cX7_man 29 = .ok (.aload_n 3, 1) := by decide +kernel
theorem dX7_man_30 : decode cX7_man 30 = .ok (.getfield 69, 3) := by decide +kernel
theorem dX7_man_33 : decode cX7_man 33 = .ok (.istore 4, 2) := by decide +kernel
theorem dX7_man_35 : decode cX7_man 35 = .ok (.iload 4, 2) := by decide +kernel
theorem dX7_man_37 : decode cX7_man 37 = .ok (.bipush 6, 2) := by decide +kernel
theorem dX7_man_39 : decode cX7_man 39 = .ok (.if_icmp .lt 6, 3) := by decide +kernel
theorem dX7_man_42 : decode cX7_man 42 = .ok (.bipush (-3), 2) := by decide +kernel
theorem dX7_man_44 : decode cX7_man 44 = .ok (.ireturn, 1) := by decide +kernel
theorem dX7_man_45 : decode cX7_man 45 = .ok (.aload_n 3, 1) := by decide +kernel
theorem dX7_man_46 : decode cX7_man 46 = .ok (.iload 4, 2) := by decide +kernel
theorem dX7_man_48 : decode cX7_man 48 = .ok (.invokevirtual 73, 3) := by decide +kernel
theorem dX7_man_51 : decode cX7_man 51 = .ok (.ifCond .eq 6, 3) := by decide +kernel
theorem dX7_man_54 : decode cX7_man 54 = .ok (.bipush (-2), 2) := by decide +kernel
theorem dX7_man_56 : decode cX7_man 56 = .ok (.ireturn, 1) := by decide +kernel
theorem dX7_man_57 : decode cX7_man 57 = .ok (.aload_n 3, 1) := by decide +kernel
theorem dX7_man_58 : decode cX7_man 58 = .ok (.invokevirtual 77, 3) := by decide +kernel
theorem dX7_man_61 : decode cX7_man 61 = .ok (.aload_n 3, 1) := by decide +kernel
theorem dX7_man_62 : decode cX7_man 62 = .ok (.iload_n 1, 1) := by decide +kernel
theorem dX7_man_63 : decode cX7_man 63 = .ok (.invokevirtual 80, 3) := by decide +kernel
theorem dX7_man_66 : decode cX7_man 66 = .ok (.aload_n 3, 1) := by decide +kernel
theorem dX7_man_67 : decode cX7_man 67 = .ok (.invokevirtual 84, 3) := by decide +kernel
theorem dX7_man_70 : decode cX7_man 70 = .ok (.aload_n 0, 1) := by decide +kernel
theorem dX7_man_71 : decode cX7_man 71 = .ok (.getfield 10, 3) := by decide +kernel
theorem dX7_man_74 : decode cX7_man 74 = .ok (.getfield 87, 3) := by decide +kernel
theorem dX7_man_77 : decode cX7_man 77 = .ok (.iload 4, 2) := by decide +kernel
theorem dX7_man_79 : decode cX7_man 79 = .ok (.iload_n 2, 1) := by decide +kernel
theorem dX7_man_80 : decode cX7_man 80 = .ok (.invokevirtual 90, 3) := by decide +kernel
theorem dX7_man_83 : decode cX7_man 83 = .ok (.aload_n 0, 1) := by decide +kernel
theorem dX7_man_84 : decode cX7_man 84 = .ok (.getfield 10, 3) := by decide +kernel
theorem dX7_man_87 : decode cX7_man 87 = .ok (.getfield 94, 3) := by decide +kernel
theorem dX7_man_90 : decode cX7_man 90 = .ok (.invokevirtual 98, 3) := by decide +kernel
theorem dX7_man_93 : decode cX7_man 93 = .ok (.iload 4, 2) := by decide +kernel
theorem dX7_man_95 : decode cX7_man 95 = .ok (.ireturn, 1) := by decide +kernel
theorem dX7_stood_0 : decode cX7_stood 0 = .ok (.aload_n 0, 1) := by decide +kernel
theorem dX7_stood_1 : decode cX7_stood 1 = .ok (.getfield 10, 3) := by decide +kernel
theorem dX7_stood_4 : decode cX7_stood 4 = .ok (.getfield 66, 3) := by decide +kernel
theorem dX7_stood_7 : decode cX7_stood 7 = .ok (.astore 4, 2) := by decide +kernel
theorem dX7_stood_9 : decode cX7_stood 9 = .ok (.aload 4, 2) := by decide +kernel
theorem dX7_stood_11 : decode cX7_stood 11 = .ok (.iload_n 1, 1) := by decide +kernel
theorem dX7_stood_12 : decode cX7_stood 12 = .ok (.invokevirtual 103, 3) := by decide +kernel
theorem dX7_stood_15 : decode cX7_stood 15 = .ok (.ifCond .eq 20, 3) := by decide +kernel
theorem dX7_stood_18 : decode cX7_stood 18 = .ok (.iload_n 2, 1) := by decide +kernel
theorem dX7_stood_19 : decode cX7_stood 19 = .ok (.invokestatic 106, 3) := by decide +kernel
theorem dX7_stood_22 : decode cX7_stood 22 = .ok (.ifCond .eq 13, 3) := by decide +kernel
theorem dX7_stood_25 : decode cX7_stood 25 = .ok (.iload_n 3, 1) := by decide +kernel
theorem dX7_stood_26 : decode cX7_stood 26 = .ok (.iconst 0, 1) := by decide +kernel
theorem dX7_stood_27 : decode cX7_stood 27 = .ok (.bipush 9, 2) := by decide +kernel
theorem dX7_stood_29 : decode cX7_stood 29 = .ok (.invokestatic 62, 3) := by decide +kernel
theorem dX7_stood_32 : decode cX7_stood 32 = .ok (.ifCond .ne 5, 3) := by decide +kernel
theorem dX7_stood_35 : decode cX7_stood 35 = .ok (.iconst (-1), 1) := by decide +kernel
theorem dX7_stood_36 : decode cX7_stood 36 = .ok (.ireturn, 1) := by decide +kernel
theorem dX7_stood_37 : decode cX7_stood 37 = .ok (.aload 4, 2) := by decide +kernel
theorem dX7_stood_39 : decode cX7_stood 39 = .ok (.iload_n 2, 1) := by decide +kernel
theorem dX7_stood_40 : decode cX7_stood 40 = .ok (.iload_n 3, 1) := by decide +kernel
theorem dX7_stood_41 : decode cX7_stood 41 = .ok (.invokevirtual 109, 3) := by decide +kernel
theorem dX7_stood_44 : decode cX7_stood 44 = .ok (.ifCond .eq 6, 3) := by decide +kernel
theorem dX7_stood_47 : decode cX7_stood 47 = .ok (.bipush (-2), 2) := by decide +kernel
theorem dX7_stood_49 : decode cX7_stood 49 = .ok (.ireturn, 1) := by decide +kernel
theorem dX7_stood_50 : decode cX7_stood 50 = .ok (.aload 4, 2) := by decide +kernel
theorem dX7_stood_52 : decode cX7_stood 52 = .ok (.getfield 113, 3) := by decide +kernel
theorem dX7_stood_55 : decode cX7_stood 55 = .ok (.iload_n 2, 1) := by decide +kernel
theorem dX7_stood_56 : decode cX7_stood 56 = .ok (.aaload, 1) := by decide +kernel
theorem dX7_stood_57 : decode cX7_stood 57 = .ok (.iload_n 1, 1) := by decide +kernel
theorem dX7_stood_58 : decode cX7_stood 58 = .ok (.iaload, 1) := by decide +kernel
theorem dX7_stood_59 : decode cX7_stood 59 = .ok (.istore 5, 2) := by decide +kernel
theorem dX7_stood_61 : decode cX7_stood 61 = .ok (.aload 4, 2) := by decide +kernel
theorem dX7_stood_63 : decode cX7_stood 63 = .ok (.getfield 113, 3) := by decide +kernel
theorem dX7_stood_66 : decode cX7_stood 66 = .ok (.iload_n 2, 1) := by decide +kernel
theorem dX7_stood_67 : decode cX7_stood 67 = .ok (.aaload, 1) := by decide +kernel
theorem dX7_stood_68 : decode cX7_stood 68 = .ok (.iload_n 1, 1) := by decide +kernel
theorem dX7_stood_69 : decode cX7_stood 69 = .ok (.iload_n 3, 1) := by decide +kernel
theorem dX7_stood_70 : decode cX7_stood 70 = .ok (.iastore, 1) := by decide +kernel
theorem dX7_stood_71 : decode cX7_stood 71 = .ok (.aload 4, 2) := by decide +kernel
theorem dX7_stood_73 : decode cX7_stood 73 = .ok (.invokevirtual 84, 3) := by decide +kernel
theorem dX7_stood_76 : decode cX7_stood 76 = .ok (.iload 5, 2) := by decide +kernel
theorem dX7_stood_78 : decode cX7_stood 78 = .ok (.ireturn, 1) := by decide +kernel
theorem dX7_of_0 : decode cX7_of 0 = .ok (.aload_n 0, 1) := by decide +kernel
theorem dX7_of_1 : decode cX7_of 1 = .ok (.getfield 10, 3) := by decide +kernel
theorem dX7_of_4 : decode cX7_of 4 = .ok (.getfield 66, 3) := by decide +kernel
theorem dX7_of_7 : decode cX7_of 7 = .ok (.astore_n 3, 1) := by decide +kernel
theorem dX7_of_8 : decode cX7_of 8 = .ok (.aload_n 3, 1) := by decide +kernel
theorem dX7_of_9 : decode cX7_of 9 = .ok (.iload_n 1, 1) := by decide +kernel
theorem dX7_of_10 : decode cX7_of 10 = .ok (.invokevirtual 103, 3) := by decide +kernel
theorem dX7_of_13 : decode cX7_of 13 = .ok (.ifCond .ne 5, 3) := by decide +kernel
theorem dX7_of_16 : decode cX7_of 16 = .ok (.iconst (-1), 1) := by decide +kernel
theorem dX7_of_17 : decode cX7_of 17 = .ok (.ireturn, 1) := by decide +kernel
theorem dX7_of_18 : decode cX7_of 18 = .ok (.aload_n 0, 1) := by decide +kernel
theorem dX7_of_19 : decode cX7_of 19 = .ok (.getfield 10, 3) := by decide +kernel
theorem dX7_of_22 : decode cX7_of 22 = .ok (.getfield 87, 3) := by decide +kernel
theorem dX7_of_25 : decode cX7_of 25 = .ok (.astore 4, 2) := by decide +kernel
theorem dX7_of_27 : decode cX7_of 27 = .ok (.iload_n 2, 1) := by decide +kernel
theorem dX7_of_28 : decode cX7_of 28 = .ok (.tableswitch 107 0 8 #[52, 59, 67, 74, 74, 74, 85, 92, 99], 52) := by decide +kernel
theorem dX7_of_80 : decode cX7_of 80 = .ok (.aload_n 3, 1) := by decide +kernel
theorem dX7_of_81 : decode cX7_of 81 = .ok (.getfield 117, 3) := by decide +kernel
theorem dX7_of_84 : decode cX7_of 84 = .ok (.iload_n 1, 1) := by decide +kernel
theorem dX7_of_85 : decode cX7_of 85 = .ok (.iaload, 1) := by decide +kernel
theorem dX7_of_86 : decode cX7_of 86 = .ok (.ireturn, 1) := by decide +kernel
theorem dX7_of_87 : decode cX7_of 87 = .ok (.aload 4, 2) := by decide +kernel
theorem dX7_of_89 : decode cX7_of 89 = .ok (.getfield 120, 3) := by decide +kernel
theorem dX7_of_92 : decode cX7_of 92 = .ok (.iload_n 1, 1) := by decide +kernel
theorem dX7_of_93 : decode cX7_of 93 = .ok (.iaload, 1) := by decide +kernel
theorem dX7_of_94 : decode cX7_of 94 = .ok (.ireturn, 1) := by decide +kernel
theorem dX7_of_95 : decode cX7_of 95 = .ok (.aload 4, 2) := by decide +kernel
theorem dX7_of_97 : decode cX7_of 97 = .ok (.iload_n 1, 1) := by decide +kernel
theorem dX7_of_98 : decode cX7_of 98 = .ok (.invokevirtual 123, 3) := by decide +kernel
theorem dX7_of_101 : decode cX7_of 101 = .ok (.ireturn, 1) := by decide +kernel
theorem dX7_of_102 : decode cX7_of 102 = .ok (.aload_n 3, 1) := by decide +kernel
theorem dX7_of_103 : decode cX7_of 103 = .ok (.getfield 113, 3) := by decide +kernel
theorem dX7_of_106 : decode cX7_of 106 = .ok (.iload_n 2, 1) := by decide +kernel
theorem dX7_of_107 : decode cX7_of 107 = .ok (.iconst 3, 1) := by decide +kernel
theorem dX7_of_108 : decode cX7_of 108 = .ok (.isub, 1) := by decide +kernel
theorem dX7_of_109 : decode cX7_of 109 = .ok (.aaload, 1) := by decide +kernel
theorem dX7_of_110 : decode cX7_of 110 = .ok (.iload_n 1, 1) := by decide +kernel
theorem dX7_of_111 : decode cX7_of 111 = .ok (.iaload, 1) := by decide +kernel
theorem dX7_of_112 : decode cX7_of 112 = .ok (.ireturn, 1) := by decide +kernel
theorem dX7_of_113 : decode cX7_of 113 = .ok (.aload_n 3, 1) := by decide +kernel
theorem dX7_of_114 : decode cX7_of 114 = .ok (.getfield 127, 3) := by decide +kernel
theorem dX7_of_117 : decode cX7_of 117 = .ok (.iload_n 1, 1) := by decide +kernel
theorem dX7_of_118 : decode cX7_of 118 = .ok (.iaload, 1) := by decide +kernel
theorem dX7_of_119 : decode cX7_of 119 = .ok (.ireturn, 1) := by decide +kernel
theorem dX7_of_120 : decode cX7_of 120 = .ok (.aload 4, 2) := by decide +kernel
theorem dX7_of_122 : decode cX7_of 122 = .ok (.iload_n 1, 1) := by decide +kernel
theorem dX7_of_123 : decode cX7_of 123 = .ok (.invokevirtual 130, 3) := by decide +kernel
theorem dX7_of_126 : decode cX7_of 126 = .ok (.ireturn, 1) := by decide +kernel
theorem dX7_of_127 : decode cX7_of 127 = .ok (.aload 4, 2) := by decide +kernel
theorem dX7_of_129 : decode cX7_of 129 = .ok (.iload_n 1, 1) := by decide +kernel
theorem dX7_of_130 : decode cX7_of 130 = .ok (.aload_n 3, 1) := by decide +kernel
theorem dX7_of_131 : decode cX7_of 131 = .ok (.invokevirtual 133, 3) := by decide +kernel
theorem dX7_of_134 : decode cX7_of 134 = .ok (.ireturn, 1) := by decide +kernel
theorem dX7_of_135 : decode cX7_of 135 = .ok (.iconst (-1), 1) := by decide +kernel
theorem dX7_of_136 : decode cX7_of 136 = .ok (.ireturn, 1) := by decide +kernel
theorem dX7_seat_0 : decode cX7_seat 0 = .ok (.iload_n 1, 1) := by decide +kernel
theorem dX7_seat_1 : decode cX7_seat 1 = .ok (.ifCond .ge 7, 3) := by decide +kernel
theorem dX7_seat_4 : decode cX7_seat 4 = .ok (.iconst (-1), 1) := by decide +kernel
theorem dX7_seat_5 : decode cX7_seat 5 = .ok (.goto 14, 3) := by decide +kernel
theorem dX7_seat_8 : decode cX7_seat 8 = .ok (.aload_n 0, 1) := by decide +kernel
theorem dX7_seat_9 : decode cX7_seat 9 = .ok (.getfield 10, 3) := by decide +kernel
theorem dX7_seat_12 : decode cX7_seat 12 = .ok (.getfield 87, 3) := by decide +kernel
theorem dX7_seat_15 : decode cX7_seat 15 = .ok (.iload_n 1, 1) := by decide +kernel
theorem dX7_seat_16 : decode cX7_seat 16 = .ok (.invokevirtual 137, 3) := by decide +kernel
theorem dX7_seat_19 : decode cX7_seat 19 = .ok (.ireturn, 1) := by decide +kernel
theorem dX7_type_0 : decode cX7_type 0 = .ok (.iload_n 1, 1) := by decide +kernel
theorem dX7_type_1 : decode cX7_type 1 = .ok (.bipush 32, 2) := by decide +kernel
theorem dX7_type_3 : decode cX7_type 3 = .ok (.bipush 126, 2) := by decide +kernel
theorem dX7_type_5 : decode cX7_type 5 = .ok (.invokestatic 62, 3) := by decide +kernel
theorem dX7_type_8 : decode cX7_type 8 = .ok (.ifCond .ne 5, 3) := by decide +kernel
theorem dX7_type_11 : decode cX7_type 11 = .ok (.iconst (-1), 1) := by decide +kernel
theorem dX7_type_12 : decode cX7_type 12 = .ok (.ireturn, 1) := by decide +kernel
theorem dX7_type_13 : decode cX7_type 13 = .ok (.aload_n 0, 1) := by decide +kernel
theorem dX7_type_14 : decode cX7_type 14 = .ok (.getfield 26, 3) := by decide +kernel
theorem dX7_type_17 : decode cX7_type 17 = .ok (.getfield 140, 3) := by decide +kernel
theorem dX7_type_20 : decode cX7_type 20 = .ok (.bipush 70, 2) := by decide +kernel
theorem dX7_type_22 : decode cX7_type 22 = .ok (.if_icmp .lt 6, 3) := by decide +kernel
theorem dX7_type_25 : decode cX7_type 25 = .ok (.bipush (-3), 2) := by decide +kernel
theorem dX7_type_27 : decode cX7_type 27 = .ok (.ireturn, 1) := by decide +kernel
theorem dX7_type_28 : decode cX7_type 28 = .ok (.aload_n 0, 1) := by decide +kernel
theorem dX7_type_29 : decode cX7_type 29 = .ok (.getfield 26, 3) := by decide +kernel
theorem dX7_type_32 : decode cX7_type 32 = .ok (.iload_n 1, 1) := by decide +kernel
theorem dX7_type_33 : decode cX7_type 33 = .ok (.i2c, 1) := by decide +kernel
theorem dX7_type_34 : decode cX7_type 34 = .ok (.invokevirtual 143, 3) := by decide +kernel
theorem dX7_type_37 : decode cX7_type 37 = .ok (.aload_n 0, 1) := by decide +kernel
theorem dX7_type_38 : decode cX7_type 38 = .ok (.getfield 26, 3) := by decide +kernel
theorem dX7_type_41 : decode cX7_type 41 = .ok (.getfield 140, 3) := by decide +kernel
theorem dX7_type_44 : decode cX7_type 44 = .ok (.ireturn, 1) := by decide +kernel
theorem dX7_read_0 : decode cX7_read 0 = .ok (.aload_n 0, 1) := by decide +kernel
theorem dX7_read_1 : decode cX7_read 1 = .ok (.getfield 26, 3) := by decide +kernel
theorem dX7_read_4 : decode cX7_read 4 = .ok (.invokevirtual 147, 3) := by decide +kernel
theorem dX7_read_7 : decode cX7_read 7 = .ok (.istore_n 1, 1) := by decide +kernel
theorem dX7_read_8 : decode cX7_read 8 = .ok (.aload_n 0, 1) := by decide +kernel
theorem dX7_read_9 : decode cX7_read 9 = .ok (.getfield 26, 3) := by decide +kernel
theorem dX7_read_12 : decode cX7_read 12 = .ok (.iconst 0, 1) := by decide +kernel
theorem dX7_read_13 : decode cX7_read 13 = .ok (.putfield 140, 3) := by decide +kernel
theorem dX7_read_16 : decode cX7_read 16 = .ok (.iload_n 1, 1) := by decide +kernel
theorem dX7_read_17 : decode cX7_read 17 = .ok (.ifCond .eq 5, 3) := by decide +kernel
theorem dX7_read_20 : decode cX7_read 20 = .ok (.iload_n 1, 1) := by decide +kernel
theorem dX7_read_21 : decode cX7_read 21 = .ok (.ireturn, 1) := by decide +kernel
theorem dX7_read_22 : decode cX7_read 22 = .ok (.aload_n 0, 1) := by decide +kernel
theorem dX7_read_23 : decode cX7_read 23 = .ok (.getfield 10, 3) := by decide +kernel
theorem dX7_read_26 : decode cX7_read 26 = .ok (.getfield 66, 3) := by decide +kernel
theorem dX7_read_29 : decode cX7_read 29 = .ok (.aload_n 0, 1) := by decide +kernel
theorem dX7_read_30 : decode cX7_read 30 = .ok (.getfield 26, 3) := by decide +kernel
theorem dX7_read_33 : decode cX7_read 33 = .ok (.getfield 151, 3) := by decide +kernel
theorem dX7_read_36 : decode cX7_read 36 = .ok (.invokevirtual 152, 3) := by decide +kernel
theorem dX7_read_39 : decode cX7_read 39 = .ok (.aload_n 0, 1) := by decide +kernel
theorem dX7_read_40 : decode cX7_read 40 = .ok (.getfield 10, 3) := by decide +kernel
theorem dX7_read_43 : decode cX7_read 43 = .ok (.getfield 66, 3) := by decide +kernel
theorem dX7_read_46 : decode cX7_read 46 = .ok (.invokevirtual 84, 3) := by decide +kernel
theorem dX7_read_49 : decode cX7_read 49 = .ok (.aload_n 0, 1) := by decide +kernel
theorem dX7_read_50 : decode cX7_read 50 = .ok (.getfield 10, 3) := by decide +kernel
theorem dX7_read_53 : decode cX7_read 53 = .ok (.getfield 87, 3) := by decide +kernel
theorem dX7_read_56 : decode cX7_read 56 = .ok (.aload_n 0, 1) := by decide +kernel
theorem dX7_read_57 : decode cX7_read 57 = .ok (.getfield 26, 3) := by decide +kernel
theorem dX7_read_60 : decode cX7_read 60 = .ok (.getfield 151, 3) := by decide +kernel
theorem dX7_read_63 : decode cX7_read 63 = .ok (.getfield 69, 3) := by decide +kernel
theorem dX7_read_66 : decode cX7_read 66 = .ok (.aload_n 0, 1) := by decide +kernel
theorem dX7_read_67 : decode cX7_read 67 = .ok (.getfield 26, 3) := by decide +kernel
theorem dX7_read_70 : decode cX7_read 70 = .ok (.getfield 156, 3) := by decide +kernel
theorem dX7_read_73 : decode cX7_read 73 = .ok (.invokevirtual 157, 3) := by decide +kernel
theorem dX7_read_76 : decode cX7_read 76 = .ok (.aload_n 0, 1) := by decide +kernel
theorem dX7_read_77 : decode cX7_read 77 = .ok (.getfield 10, 3) := by decide +kernel
theorem dX7_read_80 : decode cX7_read 80 = .ok (.getfield 94, 3) := by decide +kernel
theorem dX7_read_83 : decode cX7_read 83 = .ok (.invokevirtual 98, 3) := by decide +kernel
theorem dX7_read_86 : decode cX7_read 86 = .ok (.aload_n 0, 1) := by decide +kernel
theorem dX7_read_87 : decode cX7_read 87 = .ok (.getfield 10, 3) := by decide +kernel
theorem dX7_read_90 : decode cX7_read 90 = .ok (.getfield 66, 3) := by decide +kernel
theorem dX7_read_93 : decode cX7_read 93 = .ok (.getfield 69, 3) := by decide +kernel
theorem dX7_read_96 : decode cX7_read 96 = .ok (.ireturn, 1) := by decide +kernel
theorem dX7_count_0 : decode cX7_count 0 = .ok (.aload_n 0, 1) := by decide +kernel
theorem dX7_count_1 : decode cX7_count 1 = .ok (.getfield 10, 3) := by decide +kernel
theorem dX7_count_4 : decode cX7_count 4 = .ok (.getfield 87, 3) := by decide +kernel
theorem dX7_count_7 : decode cX7_count 7 = .ok (.astore_n 2, 1) := by decide +kernel
theorem dX7_count_8 : decode cX7_count 8 = .ok (.iload_n 1, 1) := by decide +kernel
theorem dX7_count_9 : decode cX7_count 9 = .ok (.tableswitch 104 0 6 #[43, 54, 59, 64, 69, 74, 93], 43) := by decide +kernel
theorem dX7_count_52 : decode cX7_count 52 = .ok (.aload_n 0, 1) := by decide +kernel
theorem dX7_count_53 : decode cX7_count 53 = .ok (.getfield 10, 3) := by decide +kernel
theorem dX7_count_56 : decode cX7_count 56 = .ok (.getfield 66, 3) := by decide +kernel
theorem dX7_count_59 : decode cX7_count 59 = .ok (.getfield 69, 3) := by decide +kernel
theorem dX7_count_62 : decode cX7_count 62 = .ok (.ireturn, 1) := by decide +kernel
theorem dX7_count_63 : decode cX7_count 63 = .ok (.aload_n 2, 1) := by decide +kernel
theorem dX7_count_64 : decode cX7_count 64 = .ok (.getfield 161, 3) := by decide +kernel
theorem dX7_count_67 : decode cX7_count 67 = .ok (.ireturn, 1) := by decide +kernel
theorem dX7_count_68 : decode cX7_count 68 = .ok (.aload_n 2, 1) := by decide +kernel
theorem dX7_count_69 : decode cX7_count 69 = .ok (.getfield 164, 3) := by decide +kernel
theorem dX7_count_72 : decode cX7_count 72 = .ok (.ireturn, 1) := by decide +kernel
theorem dX7_count_73 : decode cX7_count 73 = .ok (.aload_n 2, 1) := by decide +kernel
theorem dX7_count_74 : decode cX7_count 74 = .ok (.invokevirtual 167, 3) := by decide +kernel
theorem dX7_count_77 : decode cX7_count 77 = .ok (.ireturn, 1) := by decide +kernel
theorem dX7_count_78 : decode cX7_count 78 = .ok (.aload_n 2, 1) := by decide +kernel
theorem dX7_count_79 : decode cX7_count 79 = .ok (.invokevirtual 170, 3) := by decide +kernel
theorem dX7_count_82 : decode cX7_count 82 = .ok (.ireturn, 1) := by decide +kernel
theorem dX7_count_83 : decode cX7_count 83 = .ok (.aload_n 0, 1) := by decide +kernel
theorem dX7_count_84 : decode cX7_count 84 = .ok (.getfield 10, 3) := by decide +kernel
theorem dX7_count_87 : decode cX7_count 87 = .ok (.getfield 66, 3) := by decide +kernel
theorem dX7_count_90 : decode cX7_count 90 = .ok (.aload_n 2, 1) := by decide +kernel
theorem dX7_count_91 : decode cX7_count 91 = .ok (.getfield 173, 3) := by decide +kernel
theorem dX7_count_94 : decode cX7_count 94 = .ok (.aload_n 2, 1) := by decide +kernel
theorem dX7_count_95 : decode cX7_count 95 = .ok (.getfield 161, 3) := by decide +kernel
theorem dX7_count_98 : decode cX7_count 98 = .ok (.invokevirtual 176, 3) := by decide +kernel
theorem dX7_count_101 : decode cX7_count 101 = .ok (.ireturn, 1) := by decide +kernel
theorem dX7_count_102 : decode cX7_count 102 = .ok (.aload_n 0, 1) := by decide +kernel
theorem dX7_count_103 : decode cX7_count 103 = .ok (.getfield 10, 3) := by decide +kernel
theorem dX7_count_106 : decode cX7_count 106 = .ok (.getfield 94, 3) := by decide +kernel
theorem dX7_count_109 : decode cX7_count 109 = .ok (.getfield 180, 3) := by decide +kernel
theorem dX7_count_112 : decode cX7_count 112 = .ok (.ireturn, 1) := by decide +kernel
theorem dX7_count_113 : decode cX7_count 113 = .ok (.iconst (-1), 1) := by decide +kernel
theorem dX7_count_114 : decode cX7_count 114 = .ok (.ireturn, 1) := by decide +kernel
theorem dX7_years_0 : decode cX7_years 0 = .ok (.aload_n 0, 1) := by decide +kernel
theorem dX7_years_1 : decode cX7_years 1 = .ok (.iload_n 1, 1) := by decide +kernel
theorem dX7_years_2 : decode cX7_years 2 = .ok (.iconst 0, 1) := by decide +kernel
theorem dX7_years_3 : decode cX7_years 3 = .ok (.invokevirtual 183, 3) := by decide +kernel
theorem dX7_years_6 : decode cX7_years 6 = .ok (.ireturn, 1) := by decide +kernel
theorem dX7_move_0 : decode cX7_move 0 = .ok (.aload_n 0, 1) := by decide +kernel
theorem dX7_move_1 : decode cX7_move 1 = .ok (.getfield 10, 3) := by decide +kernel
theorem dX7_move_4 : decode cX7_move 4 = .ok (.getfield 87, 3) := by decide +kernel
theorem dX7_move_7 : decode cX7_move 7 = .ok (.astore_n 2, 1) := by decide +kernel
theorem dX7_move_8 : decode cX7_move 8 = .ok (.aload_n 2, 1) := by decide +kernel
theorem dX7_move_9 : decode cX7_move 9 = .ok (.iload_n 1, 1) := by decide +kernel
theorem dX7_move_10 : decode cX7_move 10 = .ok (.invokevirtual 187, 3) := by decide +kernel
theorem dX7_move_13 : decode cX7_move 13 = .ok (.ifCond .ne 5, 3) := by decide +kernel
theorem dX7_move_16 : decode cX7_move 16 = .ok (.iconst (-1), 1) := by decide +kernel
theorem dX7_move_17 : decode cX7_move 17 = .ok (.ireturn, 1) := by decide +kernel
theorem dX7_move_18 : decode cX7_move 18 = .ok (.aload_n 0, 1) := by decide +kernel
theorem dX7_move_19 : decode cX7_move 19 = .ok (.getfield 10, 3) := by decide +kernel
theorem dX7_move_22 : decode cX7_move 22 = .ok (.getfield 94, 3) := by decide +kernel
theorem dX7_move_25 : decode cX7_move 25 = .ok (.aload_n 2, 1) := by decide +kernel
theorem dX7_move_26 : decode cX7_move 26 = .ok (.invokevirtual 190, 3) := by decide +kernel
theorem dX7_move_29 : decode cX7_move 29 = .ok (.aload_n 2, 1) := by decide +kernel
theorem dX7_move_30 : decode cX7_move 30 = .ok (.iload_n 1, 1) := by decide +kernel
theorem dX7_move_31 : decode cX7_move 31 = .ok (.invokevirtual 194, 3) := by decide +kernel
theorem dX7_move_34 : decode cX7_move 34 = .ok (.aload_n 2, 1) := by decide +kernel
theorem dX7_move_35 : decode cX7_move 35 = .ok (.iload_n 1, 1) := by decide +kernel
theorem dX7_move_36 : decode cX7_move 36 = .ok (.invokevirtual 137, 3) := by decide +kernel
theorem dX7_move_39 : decode cX7_move 39 = .ok (.ireturn, 1) := by decide +kernel
theorem dX7_nurse_0 : decode cX7_nurse 0 = .ok (.aload_n 0, 1) := by decide +kernel
theorem dX7_nurse_1 : decode cX7_nurse 1 = .ok (.getfield 10, 3) := by decide +kernel
theorem dX7_nurse_4 : decode cX7_nurse 4 = .ok (.getfield 66, 3) := by decide +kernel
theorem dX7_nurse_7 : decode cX7_nurse 7 = .ok (.iload_n 1, 1) := by decide +kernel
theorem dX7_nurse_8 : decode cX7_nurse 8 = .ok (.invokevirtual 103, 3) := by decide +kernel
theorem dX7_nurse_11 : decode cX7_nurse 11 = .ok (.ifCond .eq 13, 3) := by decide +kernel
theorem dX7_nurse_14 : decode cX7_nurse 14 = .ok (.iload_n 2, 1) := by decide +kernel
theorem dX7_nurse_15 : decode cX7_nurse 15 = .ok (.iconst 1, 1) := by decide +kernel
theorem dX7_nurse_16 : decode cX7_nurse 16 = .ok (.bipush 60, 2) := by decide +kernel
theorem dX7_nurse_18 : decode cX7_nurse 18 = .ok (.invokestatic 62, 3) := by decide +kernel
theorem dX7_nurse_21 : decode cX7_nurse 21 = .ok (.ifCond .ne 5, 3) := by decide +kernel
theorem dX7_nurse_24 : decode cX7_nurse 24 = .ok (.iconst (-1), 1) := by decide +kernel
theorem dX7_nurse_25 : decode cX7_nurse 25 = .ok (.ireturn, 1) := by decide +kernel
theorem dX7_nurse_26 : decode cX7_nurse 26 = .ok (.aload_n 0, 1) := by decide +kernel
theorem dX7_nurse_27 : decode cX7_nurse 27 = .ok (.getfield 10, 3) := by decide +kernel
theorem dX7_nurse_30 : decode cX7_nurse 30 = .ok (.getfield 87, 3) := by decide +kernel
theorem dX7_nurse_33 : decode cX7_nurse 33 = .ok (.astore_n 3, 1) := by decide +kernel
theorem dX7_nurse_34 : decode cX7_nurse 34 = .ok (.aload_n 3, 1) := by decide +kernel
theorem dX7_nurse_35 : decode cX7_nurse 35 = .ok (.iload_n 1, 1) := by decide +kernel
theorem dX7_nurse_36 : decode cX7_nurse 36 = .ok (.invokevirtual 123, 3) := by decide +kernel
theorem dX7_nurse_39 : decode cX7_nurse 39 = .ok (.bipush (-4), 2) := by decide +kernel
theorem dX7_nurse_41 : decode cX7_nurse 41 = .ok (.if_icmp .ne 6, 3) := by decide +kernel
theorem dX7_nurse_44 : decode cX7_nurse 44 = .ok (.bipush (-2), 2) := by decide +kernel
theorem dX7_nurse_46 : decode cX7_nurse 46 = .ok (.ireturn, 1) := by decide +kernel
theorem dX7_nurse_47 : decode cX7_nurse 47 = .ok (.aload_n 0, 1) := by decide +kernel
theorem dX7_nurse_48 : decode cX7_nurse 48 = .ok (.getfield 10, 3) := by decide +kernel
theorem dX7_nurse_51 : decode cX7_nurse 51 = .ok (.getfield 94, 3) := by decide +kernel
theorem dX7_nurse_54 : decode cX7_nurse 54 = .ok (.aload_n 3, 1) := by decide +kernel
theorem dX7_nurse_55 : decode cX7_nurse 55 = .ok (.invokevirtual 190, 3) := by decide +kernel
theorem dX7_nurse_58 : decode cX7_nurse 58 = .ok (.aload_n 3, 1) := by decide +kernel
theorem dX7_nurse_59 : decode cX7_nurse 59 = .ok (.getfield 120, 3) := by decide +kernel
theorem dX7_nurse_62 : decode cX7_nurse 62 = .ok (.iload_n 1, 1) := by decide +kernel
theorem dX7_nurse_63 : decode cX7_nurse 63 = .ok (.bipush 60, 2) := by decide +kernel
theorem dX7_nurse_65 : decode cX7_nurse 65 = .ok (.aload_n 3, 1) := by decide +kernel
theorem dX7_nurse_66 : decode cX7_nurse 66 = .ok (.getfield 120, 3) := by decide +kernel
theorem dX7_nurse_69 : decode cX7_nurse 69 = .ok (.iload_n 1, 1) := by decide +kernel
theorem dX7_nurse_70 : decode cX7_nurse 70 = .ok (.iaload, 1) := by decide +kernel
theorem dX7_nurse_71 : decode cX7_nurse 71 = .ok (.iload_n 2, 1) := by decide +kernel
theorem dX7_nurse_72 : decode cX7_nurse 72 = .ok (.iadd, 1) := by decide +kernel
theorem dX7_nurse_73 : decode cX7_nurse 73 = .ok (.invokestatic 197, 3) := by decide +kernel
theorem dX7_nurse_76 : decode cX7_nurse 76 = .ok (.iastore, 1) := by decide +kernel
theorem dX7_nurse_77 : decode cX7_nurse 77 = .ok (.aload_n 3, 1) := by decide +kernel
theorem dX7_nurse_78 : decode cX7_nurse 78 = .ok (.getfield 120, 3) := by decide +kernel
theorem dX7_nurse_81 : decode cX7_nurse 81 = .ok (.iload_n 1, 1) := by decide +kernel
theorem dX7_nurse_82 : decode cX7_nurse 82 = .ok (.iaload, 1) := by decide +kernel
theorem dX7_nurse_83 : decode cX7_nurse 83 = .ok (.ireturn, 1) := by decide +kernel
theorem dX7_drift_0 : decode cX7_drift 0 = .ok (.aload_n 0, 1) := by decide +kernel
theorem dX7_drift_1 : decode cX7_drift 1 = .ok (.iload_n 1, 1) := by decide +kernel
theorem dX7_drift_2 : decode cX7_drift 2 = .ok (.iconst 1, 1) := by decide +kernel
theorem dX7_drift_3 : decode cX7_drift 3 = .ok (.invokevirtual 183, 3) := by decide +kernel
theorem dX7_drift_6 : decode cX7_drift 6 = .ok (.ireturn, 1) := by decide +kernel
theorem dX7_undo_0 : decode cX7_undo 0 = .ok (.aload_n 0, 1) := by decide +kernel
theorem dX7_undo_1 : decode cX7_undo 1 = .ok (.getfield 10, 3) := by decide +kernel
theorem dX7_undo_4 : decode cX7_undo 4 = .ok (.getfield 94, 3) := by decide +kernel
theorem dX7_undo_7 : decode cX7_undo 7 = .ok (.getfield 180, 3) := by decide +kernel
theorem dX7_undo_10 : decode cX7_undo 10 = .ok (.ifCond .ne 6, 3) := by decide +kernel
theorem dX7_undo_13 : decode cX7_undo 13 = .ok (.bipush (-4), 2) := by decide +kernel
theorem dX7_undo_15 : decode cX7_undo 15 = .ok (.ireturn, 1) := by decide +kernel
theorem dX7_undo_16 : decode cX7_undo 16 = .ok (.aload_n 0, 1) := by decide +kernel
theorem dX7_undo_17 : decode cX7_undo 17 = .ok (.getfield 10, 3) := by decide +kernel
theorem dX7_undo_20 : decode cX7_undo 20 = .ok (.getfield 94, 3) := by decide +kernel
theorem dX7_undo_23 : decode cX7_undo 23 = .ok (.aload_n 0, 1) := by decide +kernel
theorem dX7_undo_24 : decode cX7_undo 24 = .ok (.getfield 10, 3) := by decide +kernel
theorem dX7_undo_27 : decode cX7_undo 27 = .ok (.getfield 87, 3) := by decide +kernel
theorem dX7_undo_30 : decode cX7_undo 30 = .ok (.invokevirtual 203, 3) := by decide +kernel
theorem dX7_undo_33 : decode cX7_undo 33 = .ok (.aload_n 0, 1) := by decide +kernel
theorem dX7_undo_34 : decode cX7_undo 34 = .ok (.getfield 10, 3) := by decide +kernel
theorem dX7_undo_37 : decode cX7_undo 37 = .ok (.getfield 94, 3) := by decide +kernel
theorem dX7_undo_40 : decode cX7_undo 40 = .ok (.getfield 180, 3) := by decide +kernel
theorem dX7_undo_43 : decode cX7_undo 43 = .ok (.ireturn, 1) := by decide +kernel
theorem dX7_seed_0 : decode cX7_seed 0 = .ok (.iload_n 1, 1) := by decide +kernel
theorem dX7_seed_1 : decode cX7_seed 1 = .ok (.ifCond .ge 5, 3) := by decide +kernel
theorem dX7_seed_4 : decode cX7_seed 4 = .ok (.iconst (-1), 1) := by decide +kernel
theorem dX7_seed_5 : decode cX7_seed 5 = .ok (.ireturn, 1) := by decide +kernel
theorem dX7_seed_6 : decode cX7_seed 6 = .ok (.aload_n 0, 1) := by decide +kernel
theorem dX7_seed_7 : decode cX7_seed 7 = .ok (.getfield 10, 3) := by decide +kernel
theorem dX7_seed_10 : decode cX7_seed 10 = .ok (.getfield 87, 3) := by decide +kernel
theorem dX7_seed_13 : decode cX7_seed 13 = .ok (.getfield 206, 3) := by decide +kernel
theorem dX7_seed_16 : decode cX7_seed 16 = .ok (.istore_n 2, 1) := by decide +kernel
theorem dX7_seed_17 : decode cX7_seed 17 = .ok (.aload_n 0, 1) := by decide +kernel
theorem dX7_seed_18 : decode cX7_seed 18 = .ok (.getfield 10, 3) := by decide +kernel
theorem dX7_seed_21 : decode cX7_seed 21 = .ok (.getfield 87, 3) := by decide +kernel
theorem dX7_seed_24 : decode cX7_seed 24 = .ok (.iload_n 1, 1) := by decide +kernel
theorem dX7_seed_25 : decode cX7_seed 25 = .ok (.putfield 206, 3) := by decide +kernel
theorem dX7_seed_28 : decode cX7_seed 28 = .ok (.iload_n 2, 1) := by decide +kernel
theorem dX7_seed_29 : decode cX7_seed 29 = .ok (.ireturn, 1) := by decide +kernel
theorem dX7_goOn_0 : decode cX7_goOn 0 = .ok (.iload_n 1, 1) := by decide +kernel
theorem dX7_goOn_1 : decode cX7_goOn 1 = .ok (.iconst 1, 1) := by decide +kernel
theorem dX7_goOn_2 : decode cX7_goOn 2 = .ok (.bipush 40, 2) := by decide +kernel
theorem dX7_goOn_4 : decode cX7_goOn 4 = .ok (.invokestatic 62, 3) := by decide +kernel
theorem dX7_goOn_7 : decode cX7_goOn 7 = .ok (.ifCond .ne 5, 3) := by decide +kernel
theorem dX7_goOn_10 : decode cX7_goOn 10 = .ok (.iconst (-1), 1) := by decide +kernel
theorem dX7_goOn_11 : decode cX7_goOn 11 = .ok (.ireturn, 1) := by decide +kernel
theorem dX7_goOn_12 : decode cX7_goOn 12 = .ok (.aload_n 0, 1) := by decide +kernel
theorem dX7_goOn_13 : decode cX7_goOn 13 = .ok (.getfield 10, 3) := by decide +kernel
theorem dX7_goOn_16 : decode cX7_goOn 16 = .ok (.getfield 87, 3) := by decide +kernel
theorem dX7_goOn_19 : decode cX7_goOn 19 = .ok (.astore_n 3, 1) := by decide +kernel
theorem dX7_goOn_20 : decode cX7_goOn 20 = .ok (.aload_n 3, 1) := by decide +kernel
theorem dX7_goOn_21 : decode cX7_goOn 21 = .ok (.getfield 164, 3) := by decide +kernel
theorem dX7_goOn_24 : decode cX7_goOn 24 = .ok (.iload_n 1, 1) := by decide +kernel
theorem dX7_goOn_25 : decode cX7_goOn 25 = .ok (.iadd, 1) := by decide +kernel
theorem dX7_goOn_26 : decode cX7_goOn 26 = .ok (.sipush 9999, 3) := by decide +kernel
theorem dX7_goOn_29 : decode cX7_goOn 29 = .ok (.if_icmp .le 6, 3) := by decide +kernel
theorem dX7_goOn_32 : decode cX7_goOn 32 = .ok (.bipush (-3), 2) := by decide +kernel
theorem dX7_goOn_34 : decode cX7_goOn 34 = .ok (.ireturn, 1) := by decide +kernel
theorem dX7_goOn_35 : decode cX7_goOn 35 = .ok (.iconst 0, 1) := by decide +kernel
theorem dX7_goOn_36 : decode cX7_goOn 36 = .ok (.istore 4, 2) := by decide +kernel
theorem dX7_goOn_38 : decode cX7_goOn 38 = .ok (.iload 4, 2) := by decide +kernel
theorem dX7_goOn_40 : decode cX7_goOn 40 = .ok (.iload_n 1, 1) := by decide +kernel
theorem dX7_goOn_41 : decode cX7_goOn 41 = .ok (.if_icmp .ge 39, 3) := by decide +kernel
theorem dX7_goOn_44 : decode cX7_goOn 44 = .ok (.aload_n 0, 1) := by decide +kernel
theorem dX7_goOn_45 : decode cX7_goOn 45 = .ok (.getfield 10, 3) := by decide +kernel
theorem dX7_goOn_48 : decode cX7_goOn 48 = .ok (.getfield 94, 3) := by decide +kernel
theorem dX7_goOn_51 : decode cX7_goOn 51 = .ok (.aload_n 3, 1) := by decide +kernel
theorem dX7_goOn_52 : decode cX7_goOn 52 = .ok (.invokevirtual 190, 3) := by decide +kernel
theorem dX7_goOn_55 : decode cX7_goOn 55 = .ok (.iload_n 2, 1) := by decide +kernel
theorem dX7_goOn_56 : decode cX7_goOn 56 = .ok (.ifCond .eq 7, 3) := by decide +kernel
theorem dX7_goOn_59 : decode cX7_goOn 59 = .ok (.aload_n 3, 1) := by decide +kernel
theorem dX7_goOn_60 : decode cX7_goOn 60 = .ok (.invokevirtual 209, 3) := by decide +kernel
theorem dX7_goOn_63 : decode cX7_goOn 63 = .ok (.aload_n 3, 1) := by decide +kernel
theorem dX7_goOn_64 : decode cX7_goOn 64 = .ok (.aload_n 0, 1) := by decide +kernel
theorem dX7_goOn_65 : decode cX7_goOn 65 = .ok (.getfield 10, 3) := by decide +kernel
theorem dX7_goOn_68 : decode cX7_goOn 68 = .ok (.getfield 66, 3) := by decide +kernel
theorem dX7_goOn_71 : decode cX7_goOn 71 = .ok (.invokevirtual 212, 3) := by decide +kernel
theorem dX7_goOn_74 : decode cX7_goOn 74 = .ok (.iinc 4 1, 3) := by decide +kernel
theorem dX7_goOn_77 : decode cX7_goOn 77 = .ok (.goto (-39), 3) := by decide +kernel
theorem dX7_goOn_80 : decode cX7_goOn 80 = .ok (.aload_n 3, 1) := by decide +kernel
theorem dX7_goOn_81 : decode cX7_goOn 81 = .ok (.invokevirtual 167, 3) := by decide +kernel
theorem dX7_goOn_84 : decode cX7_goOn 84 = .ok (.ireturn, 1) := by decide +kernel
theorem dX7_ahead_0 : decode cX7_ahead 0 = .ok (.aload_n 0, 1) := by decide +kernel
theorem dX7_ahead_1 : decode cX7_ahead 1 = .ok (.getfield 10, 3) := by decide +kernel
theorem dX7_ahead_4 : decode cX7_ahead 4 = .ok (.getfield 66, 3) := by decide +kernel
theorem dX7_ahead_7 : decode cX7_ahead 7 = .ok (.iload_n 1, 1) := by decide +kernel
theorem dX7_ahead_8 : decode cX7_ahead 8 = .ok (.invokevirtual 103, 3) := by decide +kernel
theorem dX7_ahead_11 : decode cX7_ahead 11 = .ok (.ifCond .eq 13, 3) := by decide +kernel
theorem dX7_ahead_14 : decode cX7_ahead 14 = .ok (.iload_n 2, 1) := by decide +kernel
theorem dX7_ahead_15 : decode cX7_ahead 15 = .ok (.iconst 0, 1) := by decide +kernel
theorem dX7_ahead_16 : decode cX7_ahead 16 = .ok (.bipush 60, 2) := by decide +kernel
theorem dX7_ahead_18 : decode cX7_ahead 18 = .ok (.invokestatic 62, 3) := by decide +kernel
theorem dX7_ahead_21 : decode cX7_ahead 21 = .ok (.ifCond .ne 5, 3) := by decide +kernel
theorem dX7_ahead_24 : decode cX7_ahead 24 = .ok (.iconst (-1), 1) := by decide +kernel
theorem dX7_ahead_25 : decode cX7_ahead 25 = .ok (.ireturn, 1) := by decide +kernel
theorem dX7_ahead_26 : decode cX7_ahead 26 = .ok (.aload_n 0, 1) := by decide +kernel
theorem dX7_ahead_27 : decode cX7_ahead 27 = .ok (.iload_n 2, 1) := by decide +kernel
theorem dX7_ahead_28 : decode cX7_ahead 28 = .ok (.invokevirtual 215, 3) := by decide +kernel
theorem dX7_ahead_31 : decode cX7_ahead 31 = .ok (.aload_n 0, 1) := by decide +kernel
theorem dX7_ahead_32 : decode cX7_ahead 32 = .ok (.getfield 39, 3) := by decide +kernel
theorem dX7_ahead_35 : decode cX7_ahead 35 = .ok (.getfield 120, 3) := by decide +kernel
theorem dX7_ahead_38 : decode cX7_ahead 38 = .ok (.iload_n 1, 1) := by decide +kernel
theorem dX7_ahead_39 : decode cX7_ahead 39 = .ok (.iaload, 1) := by decide +kernel
theorem dX7_ahead_40 : decode cX7_ahead 40 = .ok (.ireturn, 1) := by decide +kernel
theorem dX7_then_0 : decode cX7_then 0 = .ok (.iload_n 1, 1) := by decide +kernel
theorem dX7_then_1 : decode cX7_then 1 = .ok (.iconst 0, 1) := by decide +kernel
theorem dX7_then_2 : decode cX7_then 2 = .ok (.bipush 60, 2) := by decide +kernel
theorem dX7_then_4 : decode cX7_then 4 = .ok (.invokestatic 62, 3) := by decide +kernel
theorem dX7_then_7 : decode cX7_then 7 = .ok (.ifCond .ne 5, 3) := by decide +kernel
theorem dX7_then_10 : decode cX7_then 10 = .ok (.iconst (-1), 1) := by decide +kernel
theorem dX7_then_11 : decode cX7_then 11 = .ok (.ireturn, 1) := by decide +kernel
theorem dX7_then_12 : decode cX7_then 12 = .ok (.aload_n 0, 1) := by decide +kernel
theorem dX7_then_13 : decode cX7_then 13 = .ok (.iload_n 1, 1) := by decide +kernel
theorem dX7_then_14 : decode cX7_then 14 = .ok (.invokevirtual 215, 3) := by decide +kernel
theorem dX7_then_17 : decode cX7_then 17 = .ok (.aload_n 0, 1) := by decide +kernel
theorem dX7_then_18 : decode cX7_then 18 = .ok (.getfield 39, 3) := by decide +kernel
theorem dX7_then_21 : decode cX7_then 21 = .ok (.invokevirtual 167, 3) := by decide +kernel
theorem dX7_then_24 : decode cX7_then 24 = .ok (.ireturn, 1) := by decide +kernel
theorem dX7_ends_0 : decode cX7_ends 0 = .ok (.aload_n 0, 1) := by decide +kernel
theorem dX7_ends_1 : decode cX7_ends 1 = .ok (.getfield 10, 3) := by decide +kernel
theorem dX7_ends_4 : decode cX7_ends 4 = .ok (.getfield 66, 3) := by decide +kernel
theorem dX7_ends_7 : decode cX7_ends 7 = .ok (.iload_n 1, 1) := by decide +kernel
theorem dX7_ends_8 : decode cX7_ends 8 = .ok (.invokevirtual 103, 3) := by decide +kernel
theorem dX7_ends_11 : decode cX7_ends 11 = .ok (.ifCond .ne 5, 3) := by decide +kernel
theorem dX7_ends_14 : decode cX7_ends 14 = .ok (.iconst (-1), 1) := by decide +kernel
theorem dX7_ends_15 : decode cX7_ends 15 = .ok (.ireturn, 1) := by decide +kernel
theorem dX7_ends_16 : decode cX7_ends 16 = .ok (.aload_n 0, 1) := by decide +kernel
theorem dX7_ends_17 : decode cX7_ends 17 = .ok (.getfield 39, 3) := by decide +kernel
theorem dX7_ends_20 : decode cX7_ends 20 = .ok (.aload_n 0, 1) := by decide +kernel
theorem dX7_ends_21 : decode cX7_ends 21 = .ok (.getfield 10, 3) := by decide +kernel
theorem dX7_ends_24 : decode cX7_ends 24 = .ok (.getfield 87, 3) := by decide +kernel
theorem dX7_ends_27 : decode cX7_ends 27 = .ok (.invokevirtual 218, 3) := by decide +kernel
theorem dX7_ends_30 : decode cX7_ends 30 = .ok (.iconst 0, 1) := by decide +kernel
theorem dX7_ends_31 : decode cX7_ends 31 = .ok (.istore_n 2, 1) := by decide +kernel
theorem dX7_ends_32 : decode cX7_ends 32 = .ok (.iload_n 2, 1) := by decide +kernel
theorem dX7_ends_33 : decode cX7_ends 33 = .ok (.bipush 60, 2) := by decide +kernel
theorem dX7_ends_35 : decode cX7_ends 35 = .ok (.if_icmp .gt 38, 3) := by decide +kernel
theorem dX7_ends_38 : decode cX7_ends 38 = .ok (.aload_n 0, 1) := by decide +kernel
theorem dX7_ends_39 : decode cX7_ends 39 = .ok (.getfield 39, 3) := by decide +kernel
theorem dX7_ends_42 : decode cX7_ends 42 = .ok (.iload_n 1, 1) := by decide +kernel
theorem dX7_ends_43 : decode cX7_ends 43 = .ok (.invokevirtual 123, 3) := by decide +kernel
theorem dX7_ends_46 : decode cX7_ends 46 = .ok (.bipush (-4), 2) := by decide +kernel
theorem dX7_ends_48 : decode cX7_ends 48 = .ok (.if_icmp .ne 5, 3) := by decide +kernel
theorem dX7_ends_51 : decode cX7_ends 51 = .ok (.iload_n 2, 1) := by decide +kernel
theorem dX7_ends_52 : decode cX7_ends 52 = .ok (.ireturn, 1) := by decide +kernel
theorem dX7_ends_53 : decode cX7_ends 53 = .ok (.aload_n 0, 1) := by decide +kernel
theorem dX7_ends_54 : decode cX7_ends 54 = .ok (.getfield 39, 3) := by decide +kernel
theorem dX7_ends_57 : decode cX7_ends 57 = .ok (.aload_n 0, 1) := by decide +kernel
theorem dX7_ends_58 : decode cX7_ends 58 = .ok (.getfield 10, 3) := by decide +kernel
theorem dX7_ends_61 : decode cX7_ends 61 = .ok (.getfield 66, 3) := by decide +kernel
theorem dX7_ends_64 : decode cX7_ends 64 = .ok (.invokevirtual 212, 3) := by decide +kernel
theorem dX7_ends_67 : decode cX7_ends 67 = .ok (.iinc 2 1, 3) := by decide +kernel
theorem dX7_ends_70 : decode cX7_ends 70 = .ok (.goto (-38), 3) := by decide +kernel
theorem dX7_ends_73 : decode cX7_ends 73 = .ok (.bipush (-4), 2) := by decide +kernel
theorem dX7_ends_75 : decode cX7_ends 75 = .ok (.ireturn, 1) := by decide +kernel
theorem dX7_lonely_0 : decode cX7_lonely 0 = .ok (.aload_n 0, 1) := by decide +kernel
theorem dX7_lonely_1 : decode cX7_lonely 1 = .ok (.getfield 39, 3) := by decide +kernel
theorem dX7_lonely_4 : decode cX7_lonely 4 = .ok (.aload_n 0, 1) := by decide +kernel
theorem dX7_lonely_5 : decode cX7_lonely 5 = .ok (.getfield 10, 3) := by decide +kernel
theorem dX7_lonely_8 : decode cX7_lonely 8 = .ok (.getfield 87, 3) := by decide +kernel
theorem dX7_lonely_11 : decode cX7_lonely 11 = .ok (.invokevirtual 218, 3) := by decide +kernel
theorem dX7_lonely_14 : decode cX7_lonely 14 = .ok (.iconst 0, 1) := by decide +kernel
theorem dX7_lonely_15 : decode cX7_lonely 15 = .ok (.istore_n 1, 1) := by decide +kernel
theorem dX7_lonely_16 : decode cX7_lonely 16 = .ok (.iload_n 1, 1) := by decide +kernel
theorem dX7_lonely_17 : decode cX7_lonely 17 = .ok (.bipush 60, 2) := by decide +kernel
theorem dX7_lonely_19 : decode cX7_lonely 19 = .ok (.if_icmp .gt 36, 3) := by decide +kernel
theorem dX7_lonely_22 : decode cX7_lonely 22 = .ok (.aload_n 0, 1) := by decide +kernel
theorem dX7_lonely_23 : decode cX7_lonely 23 = .ok (.getfield 39, 3) := by decide +kernel
theorem dX7_lonely_26 : decode cX7_lonely 26 = .ok (.getfield 161, 3) := by decide +kernel
theorem dX7_lonely_29 : decode cX7_lonely 29 = .ok (.iconst 1, 1) := by decide +kernel
theorem dX7_lonely_30 : decode cX7_lonely 30 = .ok (.if_icmp .gt 5, 3) := by decide +kernel
theorem dX7_lonely_33 : decode cX7_lonely 33 = .ok (.iload_n 1, 1) := by decide +kernel
theorem dX7_lonely_34 : decode cX7_lonely 34 = .ok (.ireturn, 1) := by decide +kernel
theorem dX7_lonely_35 : decode cX7_lonely 35 = .ok (.aload_n 0, 1) := by decide +kernel
theorem dX7_lonely_36 : decode cX7_lonely 36 = .ok (.getfield 39, 3) := by decide +kernel
theorem dX7_lonely_39 : decode cX7_lonely 39 = .ok (.aload_n 0, 1) := by decide +kernel
theorem dX7_lonely_40 : decode cX7_lonely 40 = .ok (.getfield 10, 3) := by decide +kernel
theorem dX7_lonely_43 : decode cX7_lonely 43 = .ok (.getfield 66, 3) := by decide +kernel
theorem dX7_lonely_46 : decode cX7_lonely 46 = .ok (.invokevirtual 212, 3) := by decide +kernel
theorem dX7_lonely_49 : decode cX7_lonely 49 = .ok (.iinc 1 1, 3) := by decide +kernel
theorem dX7_lonely_52 : decode cX7_lonely 52 = .ok (.goto (-36), 3) := by decide +kernel
theorem dX7_lonely_55 : decode cX7_lonely 55 = .ok (.bipush (-4), 2) := by decide +kernel
theorem dX7_lonely_57 : decode cX7_lonely 57 = .ok (.ireturn, 1) := by decide +kernel
theorem dX7_close_0 : decode cX7_close 0 = .ok (.aload_n 0, 1) := by decide +kernel
theorem dX7_close_1 : decode cX7_close 1 = .ok (.getfield 10, 3) := by decide +kernel
theorem dX7_close_4 : decode cX7_close 4 = .ok (.getfield 66, 3) := by decide +kernel
theorem dX7_close_7 : decode cX7_close 7 = .ok (.iload_n 1, 1) := by decide +kernel
theorem dX7_close_8 : decode cX7_close 8 = .ok (.invokevirtual 103, 3) := by decide +kernel
theorem dX7_close_11 : decode cX7_close 11 = .ok (.ifCond .eq 22, 3) := by decide +kernel
theorem dX7_close_14 : decode cX7_close 14 = .ok (.aload_n 0, 1) := by decide +kernel
theorem dX7_close_15 : decode cX7_close 15 = .ok (.getfield 10, 3) := by decide +kernel
theorem dX7_close_18 : decode cX7_close 18 = .ok (.getfield 66, 3) := by decide +kernel
theorem dX7_close_21 : decode cX7_close 21 = .ok (.iload_n 2, 1) := by decide +kernel
theorem dX7_close_22 : decode cX7_close 22 = .ok (.invokevirtual 103, 3) := by decide +kernel
theorem dX7_close_25 : decode cX7_close 25 = .ok (.ifCond .eq 8, 3) := by decide +kernel
theorem dX7_close_28 : decode cX7_close 28 = .ok (.iload_n 1, 1) := by decide +kernel
theorem dX7_close_29 : decode cX7_close 29 = .ok (.iload_n 2, 1) := by decide +kernel
theorem dX7_close_30 : decode cX7_close 30 = .ok (.if_icmp .ne 5, 3) := by decide +kernel
theorem dX7_close_33 : decode cX7_close 33 = .ok (.iconst (-1), 1) := by decide +kernel
theorem dX7_close_34 : decode cX7_close 34 = .ok (.ireturn, 1) := by decide +kernel
theorem dX7_close_35 : decode cX7_close 35 = .ok (.aload_n 0, 1) := by decide +kernel
theorem dX7_close_36 : decode cX7_close 36 = .ok (.getfield 39, 3) := by decide +kernel
theorem dX7_close_39 : decode cX7_close 39 = .ok (.aload_n 0, 1) := by decide +kernel
theorem dX7_close_40 : decode cX7_close 40 = .ok (.getfield 10, 3) := by decide +kernel
theorem dX7_close_43 : decode cX7_close 43 = .ok (.getfield 87, 3) := by decide +kernel
theorem dX7_close_46 : decode cX7_close 46 = .ok (.invokevirtual 218, 3) := by decide +kernel
theorem dX7_close_49 : decode cX7_close 49 = .ok (.iconst 0, 1) := by decide +kernel
theorem dX7_close_50 : decode cX7_close 50 = .ok (.istore_n 3, 1) := by decide +kernel
theorem dX7_close_51 : decode cX7_close 51 = .ok (.iload_n 3, 1) := by decide +kernel
theorem dX7_close_52 : decode cX7_close 52 = .ok (.bipush 60, 2) := by decide +kernel
theorem dX7_close_54 : decode cX7_close 54 = .ok (.if_icmp .gt 40, 3) := by decide +kernel
theorem dX7_close_57 : decode cX7_close 57 = .ok (.aload_n 0, 1) := by decide +kernel
theorem dX7_close_58 : decode cX7_close 58 = .ok (.getfield 39, 3) := by decide +kernel
theorem dX7_close_61 : decode cX7_close 61 = .ok (.iload_n 1, 1) := by decide +kernel
theorem dX7_close_62 : decode cX7_close 62 = .ok (.invokevirtual 130, 3) := by decide +kernel
theorem dX7_close_65 : decode cX7_close 65 = .ok (.iload_n 2, 1) := by decide +kernel
theorem dX7_close_66 : decode cX7_close 66 = .ok (.invokestatic 220, 3) := by decide +kernel
theorem dX7_close_69 : decode cX7_close 69 = .ok (.ifCond .eq 5, 3) := by decide +kernel
theorem dX7_close_72 : decode cX7_close 72 = .ok (.iload_n 3, 1) := by decide +kernel
theorem dX7_close_73 : decode cX7_close 73 = .ok (.ireturn, 1) := by decide +kernel
theorem dX7_close_74 : decode cX7_close 74 = .ok (.aload_n 0, 1) := by decide +kernel
theorem dX7_close_75 : decode cX7_close 75 = .ok (.getfield 39, 3) := by decide +kernel
theorem dX7_close_78 : decode cX7_close 78 = .ok (.aload_n 0, 1) := by decide +kernel
theorem dX7_close_79 : decode cX7_close 79 = .ok (.getfield 10, 3) := by decide +kernel
theorem dX7_close_82 : decode cX7_close 82 = .ok (.getfield 66, 3) := by decide +kernel
theorem dX7_close_85 : decode cX7_close 85 = .ok (.invokevirtual 212, 3) := by decide +kernel
theorem dX7_close_88 : decode cX7_close 88 = .ok (.iinc 3 1, 3) := by decide +kernel
theorem dX7_close_91 : decode cX7_close 91 = .ok (.goto (-40), 3) := by decide +kernel
theorem dX7_close_94 : decode cX7_close 94 = .ok (.bipush (-4), 2) := by decide +kernel
theorem dX7_close_96 : decode cX7_close 96 = .ok (.ireturn, 1) := by decide +kernel
theorem dX7_swaps_0 : decode cX7_swaps 0 = .ok (.iload_n 1, 1) := by decide +kernel
theorem dX7_swaps_1 : decode cX7_swaps 1 = .ok (.invokestatic 106, 3) := by decide +kernel
theorem dX7_swaps_4 : decode cX7_swaps 4 = .ok (.ifCond .ne 5, 3) := by decide +kernel
theorem dX7_swaps_7 : decode cX7_swaps 7 = .ok (.iconst (-1), 1) := by decide +kernel
theorem dX7_swaps_8 : decode cX7_swaps 8 = .ok (.ireturn, 1) := by decide +kernel
theorem dX7_swaps_9 : decode cX7_swaps 9 = .ok (.aload_n 0, 1) := by decide +kernel
theorem dX7_swaps_10 : decode cX7_swaps 10 = .ok (.getfield 10, 3) := by decide +kernel
theorem dX7_swaps_13 : decode cX7_swaps 13 = .ok (.getfield 87, 3) := by decide +kernel
theorem dX7_swaps_16 : decode cX7_swaps 16 = .ok (.astore_n 2, 1) := by decide +kernel
theorem dX7_swaps_17 : decode cX7_swaps 17 = .ok (.aload_n 0, 1) := by decide +kernel
theorem dX7_swaps_18 : decode cX7_swaps 18 = .ok (.getfield 10, 3) := by decide +kernel
theorem dX7_swaps_21 : decode cX7_swaps 21 = .ok (.getfield 66, 3) := by decide +kernel
theorem dX7_swaps_24 : decode cX7_swaps 24 = .ok (.getfield 113, 3) := by decide +kernel
theorem dX7_swaps_27 : decode cX7_swaps 27 = .ok (.iload_n 1, 1) := by decide +kernel
theorem dX7_swaps_28 : decode cX7_swaps 28 = .ok (.aaload, 1) := by decide +kernel
theorem dX7_swaps_29 : decode cX7_swaps 29 = .ok (.astore_n 3, 1) := by decide +kernel
theorem dX7_swaps_30 : decode cX7_swaps 30 = .ok (.iconst 0, 1) := by decide +kernel
theorem dX7_swaps_31 : decode cX7_swaps 31 = .ok (.istore 4, 2) := by decide +kernel
theorem dX7_swaps_33 : decode cX7_swaps 33 = .ok (.iconst 0, 1) := by decide +kernel
theorem dX7_swaps_34 : decode cX7_swaps 34 = .ok (.istore 5, 2) := by decide +kernel
theorem dX7_swaps_36 : decode cX7_swaps 36 = .ok (.iload 5, 2) := by decide +kernel
theorem dX7_swaps_38 : decode cX7_swaps 38 = .ok (.aload_n 2, 1) := by decide +kernel
theorem dX7_swaps_39 : decode cX7_swaps 39 = .ok (.getfield 161, 3) := by decide +kernel
theorem dX7_swaps_42 : decode cX7_swaps 42 = .ok (.if_icmp .ge 54, 3) := by decide +kernel
theorem dX7_swaps_45 : decode cX7_swaps 45 = .ok (.iload 5, 2) := by decide +kernel
theorem dX7_swaps_47 : decode cX7_swaps 47 = .ok (.iconst 1, 1) := by decide +kernel
theorem dX7_swaps_48 : decode cX7_swaps 48 = .ok (.iadd, 1) := by decide +kernel
theorem dX7_swaps_49 : decode cX7_swaps 49 = .ok (.istore 6, 2) := by decide +kernel
theorem dX7_swaps_51 : decode cX7_swaps 51 = .ok (.iload 6, 2) := by decide +kernel
theorem dX7_swaps_53 : decode cX7_swaps 53 = .ok (.aload_n 2, 1) := by decide +kernel
theorem dX7_swaps_54 : decode cX7_swaps 54 = .ok (.getfield 161, 3) := by decide +kernel
theorem dX7_swaps_57 : decode cX7_swaps 57 = .ok (.if_icmp .ge 33, 3) := by decide +kernel
theorem dX7_swaps_60 : decode cX7_swaps 60 = .ok (.aload_n 3, 1) := by decide +kernel
theorem dX7_swaps_61 : decode cX7_swaps 61 = .ok (.aload_n 2, 1) := by decide +kernel
theorem dX7_swaps_62 : decode cX7_swaps 62 = .ok (.getfield 173, 3) := by decide +kernel
theorem dX7_swaps_65 : decode cX7_swaps 65 = .ok (.iload 5, 2) := by decide +kernel
theorem dX7_swaps_67 : decode cX7_swaps 67 = .ok (.iaload, 1) := by decide +kernel
theorem dX7_swaps_68 : decode cX7_swaps 68 = .ok (.iaload, 1) := by decide +kernel
theorem dX7_swaps_69 : decode cX7_swaps 69 = .ok (.aload_n 3, 1) := by decide +kernel
theorem dX7_swaps_70 : decode cX7_swaps 70 = .ok (.aload_n 2, 1) := by decide +kernel
theorem dX7_swaps_71 : decode cX7_swaps 71 = .ok (.getfield 173, 3) := by decide +kernel
theorem dX7_swaps_74 : decode cX7_swaps 74 = .ok (.iload 6, 2) := by decide +kernel
theorem dX7_swaps_76 : decode cX7_swaps 76 = .ok (.iaload, 1) := by decide +kernel
theorem dX7_swaps_77 : decode cX7_swaps 77 = .ok (.iaload, 1) := by decide +kernel
theorem dX7_swaps_78 : decode cX7_swaps 78 = .ok (.if_icmp .le 6, 3) := by decide +kernel
theorem dX7_swaps_81 : decode cX7_swaps 81 = .ok (.iinc 4 1, 3) := by decide +kernel
theorem dX7_swaps_84 : decode cX7_swaps 84 = .ok (.iinc 6 1, 3) := by decide +kernel
theorem dX7_swaps_87 : decode cX7_swaps 87 = .ok (.goto (-36), 3) := by decide +kernel
theorem dX7_swaps_90 : decode cX7_swaps 90 = .ok (.iinc 5 1, 3) := by decide +kernel
theorem dX7_swaps_93 : decode cX7_swaps 93 = .ok (.goto (-57), 3) := by decide +kernel
theorem dX7_swaps_96 : decode cX7_swaps 96 = .ok (.iload 4, 2) := by decide +kernel
theorem dX7_swaps_98 : decode cX7_swaps 98 = .ok (.ireturn, 1) := by decide +kernel
theorem dX7_stay_0 : decode cX7_stay 0 = .ok (.iload_n 1, 1) := by decide +kernel
theorem dX7_stay_1 : decode cX7_stay 1 = .ok (.invokestatic 106, 3) := by decide +kernel
theorem dX7_stay_4 : decode cX7_stay 4 = .ok (.ifCond .eq 12, 3) := by decide +kernel
theorem dX7_stay_7 : decode cX7_stay 7 = .ok (.iload_n 2, 1) := by decide +kernel
theorem dX7_stay_8 : decode cX7_stay 8 = .ok (.iconst 0, 1) := by decide +kernel
theorem dX7_stay_9 : decode cX7_stay 9 = .ok (.iconst 1, 1) := by decide +kernel
theorem dX7_stay_10 : decode cX7_stay 10 = .ok (.invokestatic 62, 3) := by decide +kernel
theorem dX7_stay_13 : decode cX7_stay 13 = .ok (.ifCond .ne 5, 3) := by decide +kernel
theorem dX7_stay_16 : decode cX7_stay 16 = .ok (.iconst (-1), 1) := by decide +kernel
theorem dX7_stay_17 : decode cX7_stay 17 = .ok (.ireturn, 1) := by decide +kernel
theorem dX7_stay_18 : decode cX7_stay 18 = .ok (.aload_n 0, 1) := by decide +kernel
theorem dX7_stay_19 : decode cX7_stay 19 = .ok (.aload_n 0, 1) := by decide +kernel
theorem dX7_stay_20 : decode cX7_stay 20 = .ok (.getfield 10, 3) := by decide +kernel
theorem dX7_stay_23 : decode cX7_stay 23 = .ok (.getfield 66, 3) := by decide +kernel
theorem dX7_stay_26 : decode cX7_stay 26 = .ok (.getfield 113, 3) := by decide +kernel
theorem dX7_stay_29 : decode cX7_stay 29 = .ok (.iload_n 1, 1) := by decide +kernel
theorem dX7_stay_30 : decode cX7_stay 30 = .ok (.aaload, 1) := by decide +kernel
theorem dX7_stay_31 : decode cX7_stay 31 = .ok (.invokevirtual 223, 3) := by decide +kernel
theorem dX7_stay_34 : decode cX7_stay 34 = .ok (.istore_n 3, 1) := by decide +kernel
theorem dX7_stay_35 : decode cX7_stay 35 = .ok (.iload_n 2, 1) := by decide +kernel
theorem dX7_stay_36 : decode cX7_stay 36 = .ok (.ifCond .ne 10, 3) := by decide +kernel
theorem dX7_stay_39 : decode cX7_stay 39 = .ok (.iload_n 3, 1) := by decide +kernel
theorem dX7_stay_40 : decode cX7_stay 40 = .ok (.invokestatic 227, 3) := by decide +kernel
theorem dX7_stay_43 : decode cX7_stay 43 = .ok (.goto 4, 3) := by decide +kernel
theorem dX7_stay_46 : decode cX7_stay 46 = .ok (.iload_n 3, 1) := by decide +kernel
theorem dX7_stay_47 : decode cX7_stay 47 = .ok (.ireturn, 1) := by decide +kernel
theorem dX7_ways_0 : decode cX7_ways 0 = .ok (.aload_n 0, 1) := by decide +kernel
theorem dX7_ways_1 : decode cX7_ways 1 = .ok (.getfield 53, 3) := by decide +kernel
theorem dX7_ways_4 : decode cX7_ways 4 = .ok (.aload_n 0, 1) := by decide +kernel
theorem dX7_ways_5 : decode cX7_ways 5 = .ok (.getfield 10, 3) := by decide +kernel
theorem dX7_ways_8 : decode cX7_ways 8 = .ok (.getfield 87, 3) := by decide +kernel
theorem dX7_ways_11 : decode cX7_ways 11 = .ok (.invokevirtual 232, 3) := by decide +kernel
theorem dX7_ways_14 : decode cX7_ways 14 = .ok (.iconst 0, 1) := by decide +kernel
theorem dX7_ways_15 : decode cX7_ways 15 = .ok (.istore_n 1, 1) := by decide +kernel
theorem dX7_ways_16 : decode cX7_ways 16 = .ok (.iconst 0, 1) := by decide +kernel
theorem dX7_ways_17 : decode cX7_ways 17 = .ok (.istore_n 2, 1) := by decide +kernel
theorem dX7_ways_18 : decode cX7_ways 18 = .ok (.iload_n 2, 1) := by decide +kernel
theorem dX7_ways_19 : decode cX7_ways 19 = .ok (.sipush 720, 3) := by decide +kernel
theorem dX7_ways_22 : decode cX7_ways 22 = .ok (.if_icmp .ge 52, 3) := by decide +kernel
theorem dX7_ways_25 : decode cX7_ways 25 = .ok (.aload_n 0, 1) := by decide +kernel
theorem dX7_ways_26 : decode cX7_ways 26 = .ok (.getfield 10, 3) := by decide +kernel
theorem dX7_ways_29 : decode cX7_ways 29 = .ok (.getfield 66, 3) := by decide +kernel
theorem dX7_ways_32 : decode cX7_ways 32 = .ok (.aload_n 0, 1) := by decide +kernel
theorem dX7_ways_33 : decode cX7_ways 33 = .ok (.getfield 53, 3) := by decide +kernel
theorem dX7_ways_36 : decode cX7_ways 36 = .ok (.getfield 235, 3) := by decide +kernel
theorem dX7_ways_39 : decode cX7_ways 39 = .ok (.aload_n 0, 1) := by decide +kernel
theorem dX7_ways_40 : decode cX7_ways 40 = .ok (.getfield 53, 3) := by decide +kernel
theorem dX7_ways_43 : decode cX7_ways 43 = .ok (.getfield 237, 3) := by decide +kernel
theorem dX7_ways_46 : decode cX7_ways 46 = .ok (.invokevirtual 176, 3) := by decide +kernel
theorem dX7_ways_49 : decode cX7_ways 49 = .ok (.ifCond .ne 6, 3) := by decide +kernel
theorem dX7_ways_52 : decode cX7_ways 52 = .ok (.iinc 1 1, 3) := by decide +kernel
theorem dX7_ways_55 : decode cX7_ways 55 = .ok (.aload_n 0, 1) := by decide +kernel
theorem dX7_ways_56 : decode cX7_ways 56 = .ok (.getfield 53, 3) := by decide +kernel
theorem dX7_ways_59 : decode cX7_ways 59 = .ok (.invokevirtual 240, 3) := by decide +kernel
theorem dX7_ways_62 : decode cX7_ways 62 = .ok (.ifCond .ne 6, 3) := by decide +kernel
theorem dX7_ways_65 : decode cX7_ways 65 = .ok (.goto 9, 3) := by decide +kernel
theorem dX7_ways_68 : decode cX7_ways 68 = .ok (.iinc 2 1, 3) := by decide +kernel
theorem dX7_ways_71 : decode cX7_ways 71 = .ok (.goto (-53), 3) := by decide +kernel
theorem dX7_ways_74 : decode cX7_ways 74 = .ok (.iload_n 1, 1) := by decide +kernel
theorem dX7_ways_75 : decode cX7_ways 75 = .ok (.ireturn, 1) := by decide +kernel
theorem dX7_ease_0 : decode cX7_ease 0 = .ok (.iload_n 1, 1) := by decide +kernel
theorem dX7_ease_1 : decode cX7_ease 1 = .ok (.iconst (-1), 1) := by decide +kernel
theorem dX7_ease_2 : decode cX7_ease 2 = .ok (.if_icmp .ge 5, 3) := by decide +kernel
theorem dX7_ease_5 : decode cX7_ease 5 = .ok (.iconst (-1), 1) := by decide +kernel
theorem dX7_ease_6 : decode cX7_ease 6 = .ok (.ireturn, 1) := by decide +kernel
theorem dX7_ease_7 : decode cX7_ease 7 = .ok (.aload_n 0, 1) := by decide +kernel
theorem dX7_ease_8 : decode cX7_ease 8 = .ok (.invokevirtual 244, 3) := by decide +kernel
theorem dX7_ease_11 : decode cX7_ease 11 = .ok (.istore_n 2, 1) := by decide +kernel
theorem dX7_ease_12 : decode cX7_ease 12 = .ok (.iload_n 1, 1) := by decide +kernel
theorem dX7_ease_13 : decode cX7_ease 13 = .ok (.iconst (-1), 1) := by decide +kernel
theorem dX7_ease_14 : decode cX7_ease 14 = .ok (.if_icmp .ne 7, 3) := by decide +kernel
theorem dX7_ease_17 : decode cX7_ease 17 = .ok (.iload_n 2, 1) := by decide +kernel
theorem dX7_ease_18 : decode cX7_ease 18 = .ok (.goto 11, 3) := by decide +kernel
theorem dX7_ease_21 : decode cX7_ease 21 = .ok (.aload_n 0, 1) := by decide +kernel
theorem dX7_ease_22 : decode cX7_ease 22 = .ok (.getfield 53, 3) := by decide +kernel
theorem dX7_ease_25 : decode cX7_ease 25 = .ok (.iload_n 1, 1) := by decide +kernel
theorem dX7_ease_26 : decode cX7_ease 26 = .ok (.invokevirtual 247, 3) := by decide +kernel
theorem dX7_ease_29 : decode cX7_ease 29 = .ok (.ireturn, 1) := by decide +kernel
theorem dX7_left_0 : decode cX7_left 0 = .ok (.iload_n 1, 1) := by decide +kernel
theorem dX7_left_1 : decode cX7_left 1 = .ok (.iconst 0, 1) := by decide +kernel
theorem dX7_left_2 : decode cX7_left 2 = .ok (.bipush 30, 2) := by decide +kernel
theorem dX7_left_4 : decode cX7_left 4 = .ok (.invokestatic 62, 3) := by decide +kernel
theorem dX7_left_7 : decode cX7_left 7 = .ok (.ifCond .eq 9, 3) := by decide +kernel
theorem dX7_left_10 : decode cX7_left 10 = .ok (.iload_n 2, 1) := by decide +kernel
theorem dX7_left_11 : decode cX7_left 11 = .ok (.bipush (-2), 2) := by decide +kernel
theorem dX7_left_13 : decode cX7_left 13 = .ok (.if_icmp .ge 5, 3) := by decide +kernel
theorem dX7_left_16 : decode cX7_left 16 = .ok (.iconst (-1), 1) := by decide +kernel
theorem dX7_left_17 : decode cX7_left 17 = .ok (.ireturn, 1) := by decide +kernel
theorem dX7_left_18 : decode cX7_left 18 = .ok (.aload_n 0, 1) := by decide +kernel
theorem dX7_left_19 : decode cX7_left 19 = .ok (.iload_n 1, 1) := by decide +kernel
theorem dX7_left_20 : decode cX7_left 20 = .ok (.invokevirtual 250, 3) := by decide +kernel
theorem dX7_left_23 : decode cX7_left 23 = .ok (.iload_n 2, 1) := by decide +kernel
theorem dX7_left_24 : decode cX7_left 24 = .ok (.ifCond .lt 12, 3) := by decide +kernel
theorem dX7_left_27 : decode cX7_left 27 = .ok (.aload_n 0, 1) := by decide +kernel
theorem dX7_left_28 : decode cX7_left 28 = .ok (.getfield 53, 3) := by decide +kernel
theorem dX7_left_31 : decode cX7_left 31 = .ok (.iload_n 2, 1) := by decide +kernel
theorem dX7_left_32 : decode cX7_left 32 = .ok (.invokevirtual 247, 3) := by decide +kernel
theorem dX7_left_35 : decode cX7_left 35 = .ok (.ireturn, 1) := by decide +kernel
theorem dX7_left_36 : decode cX7_left 36 = .ok (.aload_n 0, 1) := by decide +kernel
theorem dX7_left_37 : decode cX7_left 37 = .ok (.aload_n 0, 1) := by decide +kernel
theorem dX7_left_38 : decode cX7_left 38 = .ok (.getfield 53, 3) := by decide +kernel
theorem dX7_left_41 : decode cX7_left 41 = .ok (.getfield 253, 3) := by decide +kernel
theorem dX7_left_44 : decode cX7_left 44 = .ok (.iload_n 1, 1) := by decide +kernel
theorem dX7_left_45 : decode cX7_left 45 = .ok (.invokevirtual 256, 3) := by decide +kernel
theorem dX7_left_48 : decode cX7_left 48 = .ok (.iload_n 2, 1) := by decide +kernel
theorem dX7_left_49 : decode cX7_left 49 = .ok (.iconst (-1), 1) := by decide +kernel
theorem dX7_left_50 : decode cX7_left 50 = .ok (.if_icmp .ne 13, 3) := by decide +kernel
theorem dX7_left_53 : decode cX7_left 53 = .ok (.aload_n 0, 1) := by decide +kernel
theorem dX7_left_54 : decode cX7_left 54 = .ok (.getfield 39, 3) := by decide +kernel
theorem dX7_left_57 : decode cX7_left 57 = .ok (.getfield 161, 3) := by decide +kernel
theorem dX7_left_60 : decode cX7_left 60 = .ok (.goto 10, 3) := by decide +kernel
theorem dX7_left_63 : decode cX7_left 63 = .ok (.aload_n 0, 1) := by decide +kernel
theorem dX7_left_64 : decode cX7_left 64 = .ok (.getfield 39, 3) := by decide +kernel
theorem dX7_left_67 : decode cX7_left 67 = .ok (.invokevirtual 170, 3) := by decide +kernel
theorem dX7_left_70 : decode cX7_left 70 = .ok (.ireturn, 1) := by decide +kernel
theorem dX7_winter_0 : decode cX7_winter 0 = .ok (.iload_n 1, 1) := by decide +kernel
theorem dX7_winter_1 : decode cX7_winter 1 = .ok (.iconst 0, 1) := by decide +kernel
theorem dX7_winter_2 : decode cX7_winter 2 = .ok (.bipush 6, 2) := by decide +kernel
theorem dX7_winter_4 : decode cX7_winter 4 = .ok (.invokestatic 62, 3) := by decide +kernel
theorem dX7_winter_7 : decode cX7_winter 7 = .ok (.ifCond .eq 22, 3) := by decide +kernel
theorem dX7_winter_10 : decode cX7_winter 10 = .ok (.iload_n 2, 1) := by decide +kernel
theorem dX7_winter_11 : decode cX7_winter 11 = .ok (.iconst 0, 1) := by decide +kernel
theorem dX7_winter_12 : decode cX7_winter 12 = .ok (.bipush 10, 2) := by decide +kernel
theorem dX7_winter_14 : decode cX7_winter 14 = .ok (.invokestatic 62, 3) := by decide +kernel
theorem dX7_winter_17 : decode cX7_winter 17 = .ok (.ifCond .eq 12, 3) := by decide +kernel
theorem dX7_winter_20 : decode cX7_winter 20 = .ok (.iload_n 3, 1) := by decide +kernel
theorem dX7_winter_21 : decode cX7_winter 21 = .ok (.iconst 0, 1) := by decide +kernel
theorem dX7_winter_22 : decode cX7_winter 22 = .ok (.iconst 1, 1) := by decide +kernel
theorem dX7_winter_23 : decode cX7_winter 23 = .ok (.invokestatic 62, 3) := by decide +kernel
theorem dX7_winter_26 : decode cX7_winter 26 = .ok (.ifCond .ne 5, 3) := by decide +kernel
theorem dX7_winter_29 : decode cX7_winter 29 = .ok (.iconst (-1), 1) := by decide +kernel
theorem dX7_winter_30 : decode cX7_winter 30 = .ok (.ireturn, 1) := by decide +kernel
theorem dX7_winter_31 : decode cX7_winter 31 = .ok (.aload_n 0, 1) := by decide +kernel
theorem dX7_winter_32 : decode cX7_winter 32 = .ok (.iload_n 1, 1) := by decide +kernel
theorem dX7_winter_33 : decode cX7_winter 33 = .ok (.iload_n 2, 1) := by decide +kernel
theorem dX7_winter_34 : decode cX7_winter 34 = .ok (.invokevirtual 260, 3) := by decide +kernel
theorem dX7_winter_37 : decode cX7_winter 37 = .ok (.istore 4, 2) := by decide +kernel
theorem dX7_winter_39 : decode cX7_winter 39 = .ok (.bipush 10, 2) := by decide +kernel
theorem dX7_winter_41 : decode cX7_winter 41 = .ok (.aload_n 0, 1) := by decide +kernel
theorem dX7_winter_42 : decode cX7_winter 42 = .ok (.getfield 10, 3) := by decide +kernel
theorem dX7_winter_45 : decode cX7_winter 45 = .ok (.getfield 87, 3) := by decide +kernel
theorem dX7_winter_48 : decode cX7_winter 48 = .ok (.getfield 161, 3) := by decide +kernel
theorem dX7_winter_51 : decode cX7_winter 51 = .ok (.invokestatic 263, 3) := by decide +kernel
theorem dX7_winter_54 : decode cX7_winter 54 = .ok (.istore 5, 2) := by decide +kernel
theorem dX7_winter_56 : decode cX7_winter 56 = .ok (.iload 4, 2) := by decide +kernel
theorem dX7_winter_58 : decode cX7_winter 58 = .ok (.iload 5, 2) := by decide +kernel
theorem dX7_winter_60 : decode cX7_winter 60 = .ok (.invokestatic 266, 3) := by decide +kernel
theorem dX7_winter_63 : decode cX7_winter 63 = .ok (.istore 6, 2) := by decide +kernel
theorem dX7_winter_65 : decode cX7_winter 65 = .ok (.iload 6, 2) := by decide +kernel
theorem dX7_winter_67 : decode cX7_winter 67 = .ok (.ifCond .gt 5, 3) := by decide +kernel
theorem dX7_winter_70 : decode cX7_winter 70 = .ok (.iconst (-1), 1) := by decide +kernel
theorem dX7_winter_71 : decode cX7_winter 71 = .ok (.ireturn, 1) := by decide +kernel
theorem dX7_winter_72 : decode cX7_winter 72 = .ok (.iload_n 3, 1) := by decide +kernel
theorem dX7_winter_73 : decode cX7_winter 73 = .ok (.ifCond .ne 8, 3) := by decide +kernel
theorem dX7_winter_76 : decode cX7_winter 76 = .ok (.iload 4, 2) := by decide +kernel
theorem dX7_winter_78 : decode cX7_winter 78 = .ok (.goto 5, 3) := by decide +kernel
theorem dX7_winter_81 : decode cX7_winter 81 = .ok (.iload 5, 2) := by decide +kernel
theorem dX7_winter_83 : decode cX7_winter 83 = .ok (.iload 6, 2) := by decide +kernel
theorem dX7_winter_85 : decode cX7_winter 85 = .ok (.idiv, 1) := by decide +kernel
theorem dX7_winter_86 : decode cX7_winter 86 = .ok (.ireturn, 1) := by decide +kernel
theorem dX7_image_0 : decode cX7_image 0 = .ok (.aload_n 0, 1) := by decide +kernel
theorem dX7_image_1 : decode cX7_image 1 = .ok (.getfield 16, 3) := by decide +kernel
theorem dX7_image_4 : decode cX7_image 4 = .ok (.aload_n 0, 1) := by decide +kernel
theorem dX7_image_5 : decode cX7_image 5 = .ok (.getfield 10, 3) := by decide +kernel
theorem dX7_image_8 : decode cX7_image 8 = .ok (.invokevirtual 269, 3) := by decide +kernel
theorem dX7_image_11 : decode cX7_image 11 = .ok (.aload_n 0, 1) := by decide +kernel
theorem dX7_image_12 : decode cX7_image 12 = .ok (.iconst 1, 1) := by decide +kernel
theorem dX7_image_13 : decode cX7_image 13 = .ok (.putfield 19, 3) := by decide +kernel
theorem dX7_image_16 : decode cX7_image 16 = .ok (.iconst 1, 1) := by decide +kernel
theorem dX7_image_17 : decode cX7_image 17 = .ok (.ireturn, 1) := by decide +kernel
theorem dX7_restore_0 : decode cX7_restore 0 = .ok (.aload_n 0, 1) := by decide +kernel
theorem dX7_restore_1 : decode cX7_restore 1 = .ok (.getfield 19, 3) := by decide +kernel
theorem dX7_restore_4 : decode cX7_restore 4 = .ok (.ifCond .ne 6, 3) := by decide +kernel
theorem dX7_restore_7 : decode cX7_restore 7 = .ok (.bipush (-4), 2) := by decide +kernel
theorem dX7_restore_9 : decode cX7_restore 9 = .ok (.ireturn, 1) := by decide +kernel
theorem dX7_restore_10 : decode cX7_restore 10 = .ok (.aload_n 0, 1) := by decide +kernel
theorem dX7_restore_11 : decode cX7_restore 11 = .ok (.getfield 10, 3) := by decide +kernel
theorem dX7_restore_14 : decode cX7_restore 14 = .ok (.aload_n 0, 1) := by decide +kernel
theorem dX7_restore_15 : decode cX7_restore 15 = .ok (.getfield 16, 3) := by decide +kernel
theorem dX7_restore_18 : decode cX7_restore 18 = .ok (.invokevirtual 269, 3) := by decide +kernel
theorem dX7_restore_21 : decode cX7_restore 21 = .ok (.iconst 1, 1) := by decide +kernel
theorem dX7_restore_22 : decode cX7_restore 22 = .ok (.ireturn, 1) := by decide +kernel
theorem dX7_failed_0 : decode cX7_failed 0 = .ok (.aload_n 0, 1) := by decide +kernel
theorem dX7_failed_1 : decode cX7_failed 1 = .ok (.getfield 10, 3) := by decide +kernel
theorem dX7_failed_4 : decode cX7_failed 4 = .ok (.getfield 66, 3) := by decide +kernel
theorem dX7_failed_7 : decode cX7_failed 7 = .ok (.iload_n 1, 1) := by decide +kernel
theorem dX7_failed_8 : decode cX7_failed 8 = .ok (.invokevirtual 103, 3) := by decide +kernel
theorem dX7_failed_11 : decode cX7_failed 11 = .ok (.ifCond .eq 38, 3) := by decide +kernel
theorem dX7_failed_14 : decode cX7_failed 14 = .ok (.iload_n 2, 1) := by decide +kernel
theorem dX7_failed_15 : decode cX7_failed 15 = .ok (.invokestatic 272, 3) := by decide +kernel
theorem dX7_failed_18 : decode cX7_failed 18 = .ok (.ifCond .eq 31, 3) := by decide +kernel
theorem dX7_failed_21 : decode cX7_failed 21 = .ok (.iload_n 3, 1) := by decide +kernel
theorem dX7_failed_22 : decode cX7_failed 22 = .ok (.invokestatic 275, 3) := by decide +kernel
theorem dX7_failed_25 : decode cX7_failed 25 = .ok (.ifCond .eq 24, 3) := by decide +kernel
theorem dX7_failed_28 : decode cX7_failed 28 = .ok (.iload 5, 2) := by decide +kernel
theorem dX7_failed_30 : decode cX7_failed 30 = .ok (.iconst 1, 1) := by decide +kernel
theorem dX7_failed_31 : decode cX7_failed 31 = .ok (.bipush 8, 2) := by decide +kernel
theorem dX7_failed_33 : decode cX7_failed 33 = .ok (.invokestatic 62, 3) := by decide +kernel
theorem dX7_failed_36 : decode cX7_failed 36 = .ok (.ifCond .eq 13, 3) := by decide +kernel
theorem dX7_failed_39 : decode cX7_failed 39 = .ok (.iload 6, 2) := by decide +kernel
theorem dX7_failed_41 : decode cX7_failed 41 = .ok (.iconst 0, 1) := by decide +kernel
theorem dX7_failed_42 : decode cX7_failed 42 = .ok (.iconst 2, 1) := by decide +kernel
theorem dX7_failed_43 : decode cX7_failed 43 = .ok (.invokestatic 62, 3) := by decide +kernel
theorem dX7_failed_46 : decode cX7_failed 46 = .ok (.ifCond .ne 5, 3) := by decide +kernel
theorem dX7_failed_49 : decode cX7_failed 49 = .ok (.iconst (-1), 1) := by decide +kernel
theorem dX7_failed_50 : decode cX7_failed 50 = .ok (.ireturn, 1) := by decide +kernel
theorem dX7_failed_51 : decode cX7_failed 51 = .ok (.aload_n 0, 1) := by decide +kernel
theorem dX7_failed_52 : decode cX7_failed 52 = .ok (.getfield 32, 3) := by decide +kernel
theorem dX7_failed_55 : decode cX7_failed 55 = .ok (.iload_n 2, 1) := by decide +kernel
theorem dX7_failed_56 : decode cX7_failed 56 = .ok (.aaload, 1) := by decide +kernel
theorem dX7_failed_57 : decode cX7_failed 57 = .ok (.astore 7, 2) := by decide +kernel
theorem dX7_failed_59 : decode cX7_failed 59 = .ok (.aload 7, 2) := by decide +kernel
theorem dX7_failed_61 : decode cX7_failed 61 = .ok (.iload_n 3, 1) := by decide +kernel
theorem dX7_failed_62 : decode cX7_failed 62 = .ok (.iload 4, 2) := by decide +kernel
theorem dX7_failed_64 : decode cX7_failed 64 = .ok (.iload 5, 2) := by decide +kernel
theorem dX7_failed_66 : decode cX7_failed 66 = .ok (.invokevirtual 278, 3) := by decide +kernel
theorem dX7_failed_69 : decode cX7_failed 69 = .ok (.istore 8, 2) := by decide +kernel
theorem dX7_failed_71 : decode cX7_failed 71 = .ok (.iload 8, 2) := by decide +kernel
theorem dX7_failed_73 : decode cX7_failed 73 = .ok (.ifCond .eq 6, 3) := by decide +kernel
theorem dX7_failed_76 : decode cX7_failed 76 = .ok (.iload 8, 2) := by decide +kernel
theorem dX7_failed_78 : decode cX7_failed 78 = .ok (.ireturn, 1) := by decide +kernel
theorem dX7_failed_79 : decode cX7_failed 79 = .ok (.aload_n 0, 1) := by decide +kernel
theorem dX7_failed_80 : decode cX7_failed 80 = .ok (.getfield 10, 3) := by decide +kernel
theorem dX7_failed_83 : decode cX7_failed 83 = .ok (.getfield 87, 3) := by decide +kernel
theorem dX7_failed_86 : decode cX7_failed 86 = .ok (.iload_n 1, 1) := by decide +kernel
theorem dX7_failed_87 : decode cX7_failed 87 = .ok (.invokevirtual 123, 3) := by decide +kernel
theorem dX7_failed_90 : decode cX7_failed 90 = .ok (.bipush (-4), 2) := by decide +kernel
theorem dX7_failed_92 : decode cX7_failed 92 = .ok (.if_icmp .ne 6, 3) := by decide +kernel
theorem dX7_failed_95 : decode cX7_failed 95 = .ok (.bipush (-2), 2) := by decide +kernel
theorem dX7_failed_97 : decode cX7_failed 97 = .ok (.ireturn, 1) := by decide +kernel
theorem dX7_failed_98 : decode cX7_failed 98 = .ok (.iload 6, 2) := by decide +kernel
theorem dX7_failed_100 : decode cX7_failed 100 = .ok (.lookupswitch 52 #[(0, 28), (1, 40)], 28) := by decide +kernel
theorem dX7_failed_128 : decode cX7_failed 128 = .ok (.aload_n 0, 1) := by decide +kernel
theorem dX7_failed_129 : decode cX7_failed 129 = .ok (.iload_n 1, 1) := by decide +kernel
theorem dX7_failed_130 : decode cX7_failed 130 = .ok (.aload 7, 2) := by decide +kernel
theorem dX7_failed_132 : decode cX7_failed 132 = .ok (.iload 4, 2) := by decide +kernel
theorem dX7_failed_134 : decode cX7_failed 134 = .ok (.iload 5, 2) := by decide +kernel
theorem dX7_failed_136 : decode cX7_failed 136 = .ok (.invokevirtual 282, 3) := by decide +kernel
theorem dX7_failed_139 : decode cX7_failed 139 = .ok (.ireturn, 1) := by decide +kernel
theorem dX7_failed_140 : decode cX7_failed 140 = .ok (.aload_n 0, 1) := by decide +kernel
theorem dX7_failed_141 : decode cX7_failed 141 = .ok (.iload_n 1, 1) := by decide +kernel
theorem dX7_failed_142 : decode cX7_failed 142 = .ok (.aload 7, 2) := by decide +kernel
theorem dX7_failed_144 : decode cX7_failed 144 = .ok (.iload 4, 2) := by decide +kernel
theorem dX7_failed_146 : decode cX7_failed 146 = .ok (.iload 5, 2) := by decide +kernel
theorem dX7_failed_148 : decode cX7_failed 148 = .ok (.invokevirtual 286, 3) := by decide +kernel
theorem dX7_failed_151 : decode cX7_failed 151 = .ok (.ireturn, 1) := by decide +kernel
theorem dX7_failed_152 : decode cX7_failed 152 = .ok (.aload_n 0, 1) := by decide +kernel
theorem dX7_failed_153 : decode cX7_failed 153 = .ok (.iload_n 1, 1) := by decide +kernel
theorem dX7_failed_154 : decode cX7_failed 154 = .ok (.aload 7, 2) := by decide +kernel
theorem dX7_failed_156 : decode cX7_failed 156 = .ok (.iload 4, 2) := by decide +kernel
theorem dX7_failed_158 : decode cX7_failed 158 = .ok (.iload 5, 2) := by decide +kernel
theorem dX7_failed_160 : decode cX7_failed 160 = .ok (.invokevirtual 289, 3) := by decide +kernel
theorem dX7_failed_163 : decode cX7_failed 163 = .ok (.ireturn, 1) := by decide +kernel
theorem dX7_film_0 : decode cX7_film 0 = .ok (.aload_n 0, 1) := by decide +kernel
theorem dX7_film_1 : decode cX7_film 1 = .ok (.getfield 10, 3) := by decide +kernel
theorem dX7_film_4 : decode cX7_film 4 = .ok (.getfield 66, 3) := by decide +kernel
theorem dX7_film_7 : decode cX7_film 7 = .ok (.iload_n 1, 1) := by decide +kernel
theorem dX7_film_8 : decode cX7_film 8 = .ok (.invokevirtual 103, 3) := by decide +kernel
theorem dX7_film_11 : decode cX7_film 11 = .ok (.ifCond .eq 28, 3) := by decide +kernel
theorem dX7_film_14 : decode cX7_film 14 = .ok (.iload_n 2, 1) := by decide +kernel
theorem dX7_film_15 : decode cX7_film 15 = .ok (.iconst 1, 1) := by decide +kernel
theorem dX7_film_16 : decode cX7_film 16 = .ok (.bipush 24, 2) := by decide +kernel
theorem dX7_film_18 : decode cX7_film 18 = .ok (.invokestatic 62, 3) := by decide +kernel
theorem dX7_film_21 : decode cX7_film 21 = .ok (.ifCond .eq 18, 3) := by decide +kernel
theorem dX7_film_24 : decode cX7_film 24 = .ok (.iload_n 3, 1) := by decide +kernel
theorem dX7_film_25 : decode cX7_film 25 = .ok (.invokestatic 272, 3) := by decide +kernel
theorem dX7_film_28 : decode cX7_film 28 = .ok (.ifCond .eq 11, 3) := by decide +kernel
theorem dX7_film_31 : decode cX7_film 31 = .ok (.iload 4, 2) := by decide +kernel
theorem dX7_film_33 : decode cX7_film 33 = .ok (.invokestatic 275, 3) := by decide +kernel
theorem dX7_film_36 : decode cX7_film 36 = .ok (.ifCond .ne 5, 3) := by decide +kernel
theorem dX7_film_39 : decode cX7_film 39 = .ok (.iconst (-1), 1) := by decide +kernel
theorem dX7_film_40 : decode cX7_film 40 = .ok (.ireturn, 1) := by decide +kernel
theorem dX7_film_41 : decode cX7_film 41 = .ok (.aload_n 0, 1) := by decide +kernel
theorem dX7_film_42 : decode cX7_film 42 = .ok (.getfield 32, 3) := by decide +kernel
theorem dX7_film_45 : decode cX7_film 45 = .ok (.iload_n 3, 1) := by decide +kernel
theorem dX7_film_46 : decode cX7_film 46 = .ok (.aaload, 1) := by decide +kernel
theorem dX7_film_47 : decode cX7_film 47 = .ok (.astore 6, 2) := by decide +kernel
theorem dX7_film_49 : decode cX7_film 49 = .ok (.aload 6, 2) := by decide +kernel
theorem dX7_film_51 : decode cX7_film 51 = .ok (.iload 4, 2) := by decide +kernel
theorem dX7_film_53 : decode cX7_film 53 = .ok (.iload 5, 2) := by decide +kernel
theorem dX7_film_55 : decode cX7_film 55 = .ok (.iload_n 2, 1) := by decide +kernel
theorem dX7_film_56 : decode cX7_film 56 = .ok (.invokevirtual 278, 3) := by decide +kernel
theorem dX7_film_59 : decode cX7_film 59 = .ok (.istore 7, 2) := by decide +kernel
theorem dX7_film_61 : decode cX7_film 61 = .ok (.iload 7, 2) := by decide +kernel
theorem dX7_film_63 : decode cX7_film 63 = .ok (.ifCond .eq 6, 3) := by decide +kernel
theorem dX7_film_66 : decode cX7_film 66 = .ok (.iload 7, 2) := by decide +kernel
theorem dX7_film_68 : decode cX7_film 68 = .ok (.ireturn, 1) := by decide +kernel
theorem dX7_film_69 : decode cX7_film 69 = .ok (.aload_n 0, 1) := by decide +kernel
theorem dX7_film_70 : decode cX7_film 70 = .ok (.getfield 39, 3) := by decide +kernel
theorem dX7_film_73 : decode cX7_film 73 = .ok (.aload_n 0, 1) := by decide +kernel
theorem dX7_film_74 : decode cX7_film 74 = .ok (.getfield 10, 3) := by decide +kernel
theorem dX7_film_77 : decode cX7_film 77 = .ok (.getfield 87, 3) := by decide +kernel
theorem dX7_film_80 : decode cX7_film 80 = .ok (.invokevirtual 218, 3) := by decide +kernel
theorem dX7_film_83 : decode cX7_film 83 = .ok (.iconst 0, 1) := by decide +kernel
theorem dX7_film_84 : decode cX7_film 84 = .ok (.istore 8, 2) := by decide +kernel
theorem dX7_film_86 : decode cX7_film 86 = .ok (.iload 8, 2) := by decide +kernel
theorem dX7_film_88 : decode cX7_film 88 = .ok (.iload_n 2, 1) := by decide +kernel
theorem dX7_film_89 : decode cX7_film 89 = .ok (.if_icmp .ge 43, 3) := by decide +kernel
theorem dX7_film_92 : decode cX7_film 92 = .ok (.aload_n 0, 1) := by decide +kernel
theorem dX7_film_93 : decode cX7_film 93 = .ok (.getfield 39, 3) := by decide +kernel
theorem dX7_film_96 : decode cX7_film 96 = .ok (.aload_n 0, 1) := by decide +kernel
theorem dX7_film_97 : decode cX7_film 97 = .ok (.getfield 10, 3) := by decide +kernel
theorem dX7_film_100 : decode cX7_film 100 = .ok (.getfield 66, 3) := by decide +kernel
theorem dX7_film_103 : decode cX7_film 103 = .ok (.invokevirtual 212, 3) := by decide +kernel
theorem dX7_film_106 : decode cX7_film 106 = .ok (.aload 6, 2) := by decide +kernel
theorem dX7_film_108 : decode cX7_film 108 = .ok (.iload 5, 2) := by decide +kernel
theorem dX7_film_110 : decode cX7_film 110 = .ok (.iload 8, 2) := by decide +kernel
theorem dX7_film_112 : decode cX7_film 112 = .ok (.iadd, 1) := by decide +kernel
theorem dX7_film_113 : decode cX7_film 113 = .ok (.aload_n 0, 1) := by decide +kernel
theorem dX7_film_114 : decode cX7_film 114 = .ok (.getfield 39, 3) := by decide +kernel
theorem dX7_film_117 : decode cX7_film 117 = .ok (.getfield 120, 3) := by decide +kernel
theorem dX7_film_120 : decode cX7_film 120 = .ok (.iload_n 1, 1) := by decide +kernel
theorem dX7_film_121 : decode cX7_film 121 = .ok (.iaload, 1) := by decide +kernel
theorem dX7_film_122 : decode cX7_film 122 = .ok (.i2l, 1) := by decide +kernel
theorem dX7_film_123 : decode cX7_film 123 = .ok (.invokevirtual 292, 3) := by decide +kernel
theorem dX7_film_126 : decode cX7_film 126 = .ok (.iinc 8 1, 3) := by decide +kernel
theorem dX7_film_129 : decode cX7_film 129 = .ok (.goto (-43), 3) := by decide +kernel
theorem dX7_film_132 : decode cX7_film 132 = .ok (.iload_n 2, 1) := by decide +kernel
theorem dX7_film_133 : decode cX7_film 133 = .ok (.ireturn, 1) := by decide +kernel
theorem dX7_sheet_0 : decode cX7_sheet 0 = .ok (.iload_n 1, 1) := by decide +kernel
theorem dX7_sheet_1 : decode cX7_sheet 1 = .ok (.invokestatic 272, 3) := by decide +kernel
theorem dX7_sheet_4 : decode cX7_sheet 4 = .ok (.ifCond .eq 16, 3) := by decide +kernel
theorem dX7_sheet_7 : decode cX7_sheet 7 = .ok (.iload_n 2, 1) := by decide +kernel
theorem dX7_sheet_8 : decode cX7_sheet 8 = .ok (.invokestatic 275, 3) := by decide +kernel
theorem dX7_sheet_11 : decode cX7_sheet 11 = .ok (.ifCond .eq 9, 3) := by decide +kernel
theorem dX7_sheet_14 : decode cX7_sheet 14 = .ok (.iload_n 3, 1) := by decide +kernel
theorem dX7_sheet_15 : decode cX7_sheet 15 = .ok (.bipush 24, 2) := by decide +kernel
theorem dX7_sheet_17 : decode cX7_sheet 17 = .ok (.if_icmp .le 5, 3) := by decide +kernel
theorem dX7_sheet_20 : decode cX7_sheet 20 = .ok (.iconst (-1), 1) := by decide +kernel
theorem dX7_sheet_21 : decode cX7_sheet 21 = .ok (.ireturn, 1) := by decide +kernel
theorem dX7_sheet_22 : decode cX7_sheet 22 = .ok (.iload_n 3, 1) := by decide +kernel
theorem dX7_sheet_23 : decode cX7_sheet 23 = .ok (.ifCond .ge 6, 3) := by decide +kernel
theorem dX7_sheet_26 : decode cX7_sheet 26 = .ok (.bipush (-14), 2) := by decide +kernel
theorem dX7_sheet_28 : decode cX7_sheet 28 = .ok (.ireturn, 1) := by decide +kernel
theorem dX7_sheet_29 : decode cX7_sheet 29 = .ok (.aload_n 0, 1) := by decide +kernel
theorem dX7_sheet_30 : decode cX7_sheet 30 = .ok (.getfield 32, 3) := by decide +kernel
theorem dX7_sheet_33 : decode cX7_sheet 33 = .ok (.iload_n 1, 1) := by decide +kernel
theorem dX7_sheet_34 : decode cX7_sheet 34 = .ok (.aaload, 1) := by decide +kernel
theorem dX7_sheet_35 : decode cX7_sheet 35 = .ok (.iload_n 2, 1) := by decide +kernel
theorem dX7_sheet_36 : decode cX7_sheet 36 = .ok (.iload_n 3, 1) := by decide +kernel
theorem dX7_sheet_37 : decode cX7_sheet 37 = .ok (.invokevirtual 296, 3) := by decide +kernel
theorem dX7_sheet_40 : decode cX7_sheet 40 = .ok (.iload_n 3, 1) := by decide +kernel
theorem dX7_sheet_41 : decode cX7_sheet 41 = .ok (.ireturn, 1) := by decide +kernel
theorem dX7_drop_0 : decode cX7_drop 0 = .ok (.iload_n 1, 1) := by decide +kernel
theorem dX7_drop_1 : decode cX7_drop 1 = .ok (.invokestatic 272, 3) := by decide +kernel
theorem dX7_drop_4 : decode cX7_drop 4 = .ok (.ifCond .ne 5, 3) := by decide +kernel
theorem dX7_drop_7 : decode cX7_drop 7 = .ok (.iconst (-1), 1) := by decide +kernel
theorem dX7_drop_8 : decode cX7_drop 8 = .ok (.ireturn, 1) := by decide +kernel
theorem dX7_drop_9 : decode cX7_drop 9 = .ok (.aload_n 0, 1) := by decide +kernel
theorem dX7_drop_10 : decode cX7_drop 10 = .ok (.getfield 32, 3) := by decide +kernel
theorem dX7_drop_13 : decode cX7_drop 13 = .ok (.iload_n 1, 1) := by decide +kernel
theorem dX7_drop_14 : decode cX7_drop 14 = .ok (.aaload, 1) := by decide +kernel
theorem dX7_drop_15 : decode cX7_drop 15 = .ok (.astore_n 2, 1) := by decide +kernel
theorem dX7_drop_16 : decode cX7_drop 16 = .ok (.aload_n 2, 1) := by decide +kernel
theorem dX7_drop_17 : decode cX7_drop 17 = .ok (.getfield 299, 3) := by decide +kernel
theorem dX7_drop_20 : decode cX7_drop 20 = .ok (.ifCond .ne 6, 3) := by decide +kernel
theorem dX7_drop_23 : decode cX7_drop 23 = .ok (.bipush (-11), 2) := by decide +kernel
theorem dX7_drop_25 : decode cX7_drop 25 = .ok (.ireturn, 1) := by decide +kernel
theorem dX7_drop_26 : decode cX7_drop 26 = .ok (.aload_n 2, 1) := by decide +kernel
theorem dX7_drop_27 : decode cX7_drop 27 = .ok (.iconst 0, 1) := by decide +kernel
theorem dX7_drop_28 : decode cX7_drop 28 = .ok (.putfield 299, 3) := by decide +kernel
theorem dX7_drop_31 : decode cX7_drop 31 = .ok (.aload_n 2, 1) := by decide +kernel
theorem dX7_drop_32 : decode cX7_drop 32 = .ok (.getfield 302, 3) := by decide +kernel
theorem dX7_drop_35 : decode cX7_drop 35 = .ok (.ireturn, 1) := by decide +kernel
theorem dX7_item_0 : decode cX7_item 0 = .ok (.iload_n 1, 1) := by decide +kernel
theorem dX7_item_1 : decode cX7_item 1 = .ok (.invokestatic 272, 3) := by decide +kernel
theorem dX7_item_4 : decode cX7_item 4 = .ok (.ifCond .eq 10, 3) := by decide +kernel
theorem dX7_item_7 : decode cX7_item 7 = .ok (.iload_n 2, 1) := by decide +kernel
theorem dX7_item_8 : decode cX7_item 8 = .ok (.invokestatic 275, 3) := by decide +kernel
theorem dX7_item_11 : decode cX7_item 11 = .ok (.ifCond .ne 5, 3) := by decide +kernel
theorem dX7_item_14 : decode cX7_item 14 = .ok (.iconst (-1), 1) := by decide +kernel
theorem dX7_item_15 : decode cX7_item 15 = .ok (.ireturn, 1) := by decide +kernel
theorem dX7_item_16 : decode cX7_item 16 = .ok (.aload_n 0, 1) := by decide +kernel
theorem dX7_item_17 : decode cX7_item 17 = .ok (.getfield 32, 3) := by decide +kernel
theorem dX7_item_20 : decode cX7_item 20 = .ok (.iload_n 1, 1) := by decide +kernel
theorem dX7_item_21 : decode cX7_item 21 = .ok (.aaload, 1) := by decide +kernel
theorem dX7_item_22 : decode cX7_item 22 = .ok (.iload_n 2, 1) := by decide +kernel
theorem dX7_item_23 : decode cX7_item 23 = .ok (.iload_n 3, 1) := by decide +kernel
theorem dX7_item_24 : decode cX7_item 24 = .ok (.iconst 1, 1) := by decide +kernel
theorem dX7_item_25 : decode cX7_item 25 = .ok (.invokevirtual 278, 3) := by decide +kernel
theorem dX7_item_28 : decode cX7_item 28 = .ok (.istore 6, 2) := by decide +kernel
theorem dX7_item_30 : decode cX7_item 30 = .ok (.iload 6, 2) := by decide +kernel
theorem dX7_item_32 : decode cX7_item 32 = .ok (.ifCond .eq 6, 3) := by decide +kernel
theorem dX7_item_35 : decode cX7_item 35 = .ok (.iload 6, 2) := by decide +kernel
theorem dX7_item_37 : decode cX7_item 37 = .ok (.ireturn, 1) := by decide +kernel
theorem dX7_item_38 : decode cX7_item 38 = .ok (.aload_n 0, 1) := by decide +kernel
theorem dX7_item_39 : decode cX7_item 39 = .ok (.getfield 32, 3) := by decide +kernel
theorem dX7_item_42 : decode cX7_item 42 = .ok (.iload_n 1, 1) := by decide +kernel
theorem dX7_item_43 : decode cX7_item 43 = .ok (.aaload, 1) := by decide +kernel
theorem dX7_item_44 : decode cX7_item 44 = .ok (.iload_n 3, 1) := by decide +kernel
theorem dX7_item_45 : decode cX7_item 45 = .ok (.lload 4, 2) := by decide +kernel
theorem dX7_item_47 : decode cX7_item 47 = .ok (.invokevirtual 292, 3) := by decide +kernel
theorem dX7_item_50 : decode cX7_item 50 = .ok (.iconst 1, 1) := by decide +kernel
theorem dX7_item_51 : decode cX7_item 51 = .ok (.ireturn, 1) := by decide +kernel
theorem dX7_copy_0 : decode cX7_copy 0 = .ok (.iload_n 1, 1) := by decide +kernel
theorem dX7_copy_1 : decode cX7_copy 1 = .ok (.invokestatic 272, 3) := by decide +kernel
theorem dX7_copy_4 : decode cX7_copy 4 = .ok (.ifCond .eq 10, 3) := by decide +kernel
theorem dX7_copy_7 : decode cX7_copy 7 = .ok (.iload_n 3, 1) := by decide +kernel
theorem dX7_copy_8 : decode cX7_copy 8 = .ok (.invokestatic 272, 3) := by decide +kernel
theorem dX7_copy_11 : decode cX7_copy 11 = .ok (.ifCond .ne 5, 3) := by decide +kernel
theorem dX7_copy_14 : decode cX7_copy 14 = .ok (.iconst (-1), 1) := by decide +kernel
theorem dX7_copy_15 : decode cX7_copy 15 = .ok (.ireturn, 1) := by decide +kernel
theorem dX7_copy_16 : decode cX7_copy 16 = .ok (.aload_n 0, 1) := by decide +kernel
theorem dX7_copy_17 : decode cX7_copy 17 = .ok (.getfield 32, 3) := by decide +kernel
theorem dX7_copy_20 : decode cX7_copy 20 = .ok (.iload_n 1, 1) := by decide +kernel
theorem dX7_copy_21 : decode cX7_copy 21 = .ok (.aaload, 1) := by decide +kernel
theorem dX7_copy_22 : decode cX7_copy 22 = .ok (.astore 6, 2) := by decide +kernel
theorem dX7_copy_24 : decode cX7_copy 24 = .ok (.aload_n 0, 1) := by decide +kernel
theorem dX7_copy_25 : decode cX7_copy 25 = .ok (.getfield 32, 3) := by decide +kernel
theorem dX7_copy_28 : decode cX7_copy 28 = .ok (.iload_n 3, 1) := by decide +kernel
theorem dX7_copy_29 : decode cX7_copy 29 = .ok (.aaload, 1) := by decide +kernel
theorem dX7_copy_30 : decode cX7_copy 30 = .ok (.astore 7, 2) := by decide +kernel
theorem dX7_copy_32 : decode cX7_copy 32 = .ok (.aload 6, 2) := by decide +kernel
theorem dX7_copy_34 : decode cX7_copy 34 = .ok (.getfield 299, 3) := by decide +kernel
theorem dX7_copy_37 : decode cX7_copy 37 = .ok (.ifCond .eq 11, 3) := by decide +kernel
theorem dX7_copy_40 : decode cX7_copy 40 = .ok (.aload 7, 2) := by decide +kernel
theorem dX7_copy_42 : decode cX7_copy 42 = .ok (.getfield 299, 3) := by decide +kernel
theorem dX7_copy_45 : decode cX7_copy 45 = .ok (.ifCond .ne 6, 3) := by decide +kernel
theorem dX7_copy_48 : decode cX7_copy 48 = .ok (.bipush (-11), 2) := by decide +kernel
theorem dX7_copy_50 : decode cX7_copy 50 = .ok (.ireturn, 1) := by decide +kernel
theorem dX7_copy_51 : decode cX7_copy 51 = .ok (.aload 6, 2) := by decide +kernel
theorem dX7_copy_53 : decode cX7_copy 53 = .ok (.getfield 303, 3) := by decide +kernel
theorem dX7_copy_56 : decode cX7_copy 56 = .ok (.aload 7, 2) := by decide +kernel
theorem dX7_copy_58 : decode cX7_copy 58 = .ok (.getfield 303, 3) := by decide +kernel
theorem dX7_copy_61 : decode cX7_copy 61 = .ok (.if_icmp .eq 6, 3) := by decide +kernel
theorem dX7_copy_64 : decode cX7_copy 64 = .ok (.bipush (-12), 2) := by decide +kernel
theorem dX7_copy_66 : decode cX7_copy 66 = .ok (.ireturn, 1) := by decide +kernel
theorem dX7_copy_67 : decode cX7_copy 67 = .ok (.aload 6, 2) := by decide +kernel
theorem dX7_copy_69 : decode cX7_copy 69 = .ok (.iload_n 2, 1) := by decide +kernel
theorem dX7_copy_70 : decode cX7_copy 70 = .ok (.iload 5, 2) := by decide +kernel
theorem dX7_copy_72 : decode cX7_copy 72 = .ok (.invokevirtual 306, 3) := by decide +kernel
theorem dX7_copy_75 : decode cX7_copy 75 = .ok (.ifCond .eq 15, 3) := by decide +kernel
theorem dX7_copy_78 : decode cX7_copy 78 = .ok (.aload 7, 2) := by decide +kernel
theorem dX7_copy_80 : decode cX7_copy 80 = .ok (.iload 4, 2) := by decide +kernel
theorem dX7_copy_82 : decode cX7_copy 82 = .ok (.iload 5, 2) := by decide +kernel
theorem dX7_copy_84 : decode cX7_copy 84 = .ok (.invokevirtual 306, 3) := by decide +kernel
theorem dX7_copy_87 : decode cX7_copy 87 = .ok (.ifCond .ne 6, 3) := by decide +kernel
theorem dX7_copy_90 : decode cX7_copy 90 = .ok (.bipush (-13), 2) := by decide +kernel
theorem dX7_copy_92 : decode cX7_copy 92 = .ok (.ireturn, 1) := by decide +kernel
theorem dX7_copy_93 : decode cX7_copy 93 = .ok (.aload 6, 2) := by decide +kernel
theorem dX7_copy_95 : decode cX7_copy 95 = .ok (.getfield 309, 3) := by decide +kernel
theorem dX7_copy_98 : decode cX7_copy 98 = .ok (.iload_n 2, 1) := by decide +kernel
theorem dX7_copy_99 : decode cX7_copy 99 = .ok (.aload 7, 2) := by decide +kernel
theorem dX7_copy_101 : decode cX7_copy 101 = .ok (.getfield 309, 3) := by decide +kernel
theorem dX7_copy_104 : decode cX7_copy 104 = .ok (.iload 4, 2) := by decide +kernel
theorem dX7_copy_106 : decode cX7_copy 106 = .ok (.iload 5, 2) := by decide +kernel
theorem dX7_copy_108 : decode cX7_copy 108 = .ok (.invokestatic 313, 3) := by decide +kernel
theorem dX7_copy_111 : decode cX7_copy 111 = .ok (.iload 5, 2) := by decide +kernel
theorem dX7_copy_113 : decode cX7_copy 113 = .ok (.ireturn, 1) := by decide +kernel
theorem dX7_foretell_0 : decode cX7_foretell 0 = .ok (.aload_n 0, 1) := by decide +kernel
theorem dX7_foretell_1 : decode cX7_foretell 1 = .ok (.getfield 39, 3) := by decide +kernel
theorem dX7_foretell_4 : decode cX7_foretell 4 = .ok (.aload_n 0, 1) := by decide +kernel
theorem dX7_foretell_5 : decode cX7_foretell 5 = .ok (.getfield 10, 3) := by decide +kernel
theorem dX7_foretell_8 : decode cX7_foretell 8 = .ok (.getfield 87, 3) := by decide +kernel
theorem dX7_foretell_11 : decode cX7_foretell 11 = .ok (.invokevirtual 218, 3) := by decide +kernel
theorem dX7_foretell_14 : decode cX7_foretell 14 = .ok (.aload_n 0, 1) := by decide +kernel
theorem dX7_foretell_15 : decode cX7_foretell 15 = .ok (.getfield 39, 3) := by decide +kernel
theorem dX7_foretell_18 : decode cX7_foretell 18 = .ok (.iload_n 1, 1) := by decide +kernel
theorem dX7_foretell_19 : decode cX7_foretell 19 = .ok (.aload_n 0, 1) := by decide +kernel
theorem dX7_foretell_20 : decode cX7_foretell 20 = .ok (.getfield 10, 3) := by decide +kernel
theorem dX7_foretell_23 : decode cX7_foretell 23 = .ok (.getfield 66, 3) := by decide +kernel
theorem dX7_foretell_26 : decode cX7_foretell 26 = .ok (.invokevirtual 319, 3) := by decide +kernel
theorem dX7_foretell_29 : decode cX7_foretell 29 = .ok (.return_, 1) := by decide +kernel
theorem dX7_foretellFor_0 : decode cX7_foretellFor 0 = .ok (.aload_n 0, 1) := by decide +kernel
theorem dX7_foretellFor_1 : decode cX7_foretellFor 1 = .ok (.getfield 39, 3) := by decide +kernel
theorem dX7_foretellFor_4 : decode cX7_foretellFor 4 = .ok (.aload_n 0, 1) := by decide +kernel
theorem dX7_foretellFor_5 : decode cX7_foretellFor 5 = .ok (.getfield 10, 3) := by decide +kernel
theorem dX7_foretellFor_8 : decode cX7_foretellFor 8 = .ok (.getfield 87, 3) := by decide +kernel
theorem dX7_foretellFor_11 : decode cX7_foretellFor 11 = .ok (.invokevirtual 218, 3) := by decide +kernel
theorem dX7_foretellFor_14 : decode cX7_foretellFor 14 = .ok (.aload_n 0, 1) := by decide +kernel
theorem dX7_foretellFor_15 : decode cX7_foretellFor 15 = .ok (.getfield 39, 3) := by decide +kernel
theorem dX7_foretellFor_18 : decode cX7_foretellFor 18 = .ok (.aload_n 1, 1) := by decide +kernel
theorem dX7_foretellFor_19 : decode cX7_foretellFor 19 = .ok (.invokevirtual 323, 3) := by decide +kernel
theorem dX7_foretellFor_22 : decode cX7_foretellFor 22 = .ok (.aload_n 0, 1) := by decide +kernel
theorem dX7_foretellFor_23 : decode cX7_foretellFor 23 = .ok (.getfield 39, 3) := by decide +kernel
theorem dX7_foretellFor_26 : decode cX7_foretellFor 26 = .ok (.iload_n 2, 1) := by decide +kernel
theorem dX7_foretellFor_27 : decode cX7_foretellFor 27 = .ok (.aload_n 0, 1) := by decide +kernel
theorem dX7_foretellFor_28 : decode cX7_foretellFor 28 = .ok (.getfield 10, 3) := by decide +kernel
theorem dX7_foretellFor_31 : decode cX7_foretellFor 31 = .ok (.getfield 66, 3) := by decide +kernel
theorem dX7_foretellFor_34 : decode cX7_foretellFor 34 = .ok (.invokevirtual 319, 3) := by decide +kernel
theorem dX7_foretellFor_37 : decode cX7_foretellFor 37 = .ok (.return_, 1) := by decide +kernel
theorem dX7_whoCouldStay_0 : decode cX7_whoCouldStay 0 = .ok (.aload_n 0, 1) := by decide +kernel
theorem dX7_whoCouldStay_1 : decode cX7_whoCouldStay 1 = .ok (.getfield 10, 3) := by decide +kernel
theorem dX7_whoCouldStay_4 : decode cX7_whoCouldStay 4 = .ok (.getfield 87, 3) := by decide +kernel
theorem dX7_whoCouldStay_7 : decode cX7_whoCouldStay 7 = .ok (.astore_n 2, 1) := by decide +kernel
theorem dX7_whoCouldStay_8 : decode cX7_whoCouldStay 8 = .ok (.aload_n 0, 1) := by decide +kernel
theorem dX7_whoCouldStay_9 : decode cX7_whoCouldStay 9 = .ok (.aload_n 1, 1) := by decide +kernel
theorem dX7_whoCouldStay_10 : decode cX7_whoCouldStay 10 = .ok (.invokevirtual 327, 3) := by decide +kernel
theorem dX7_whoCouldStay_13 : decode cX7_whoCouldStay 13 = .ok (.istore_n 3, 1) := by decide +kernel
theorem dX7_whoCouldStay_14 : decode cX7_whoCouldStay 14 = .ok (.iconst 0, 1) := by decide +kernel
theorem dX7_whoCouldStay_15 : decode cX7_whoCouldStay 15 = .ok (.istore 4, 2) := by decide +kernel
theorem dX7_whoCouldStay_17 : decode cX7_whoCouldStay 17 = .ok (.iconst (-1), 1) := by decide +kernel
theorem dX7_whoCouldStay_18 : decode cX7_whoCouldStay 18 = .ok (.istore 5, 2) := by decide +kernel
theorem dX7_whoCouldStay_20 : decode cX7_whoCouldStay 20 = .ok (.iconst 0, 1) := by decide +kernel
theorem dX7_whoCouldStay_21 : decode cX7_whoCouldStay 21 = .ok (.istore 6, 2) := by decide +kernel
theorem dX7_whoCouldStay_23 : decode cX7_whoCouldStay 23 = .ok (.iload 6, 2) := by decide +kernel
theorem dX7_whoCouldStay_25 : decode cX7_whoCouldStay 25 = .ok (.aload_n 2, 1) := by decide +kernel
theorem dX7_whoCouldStay_26 : decode cX7_whoCouldStay 26 = .ok (.getfield 161, 3) := by decide +kernel
theorem dX7_whoCouldStay_29 : decode cX7_whoCouldStay 29 = .ok (.if_icmp .ge 60, 3) := by decide +kernel
theorem dX7_whoCouldStay_32 : decode cX7_whoCouldStay 32 = .ok (.aload_n 2, 1) := by decide +kernel
theorem dX7_whoCouldStay_33 : decode cX7_whoCouldStay 33 = .ok (.getfield 173, 3) := by decide +kernel
theorem dX7_whoCouldStay_36 : decode cX7_whoCouldStay 36 = .ok (.iload 6, 2) := by decide +kernel
theorem dX7_whoCouldStay_38 : decode cX7_whoCouldStay 38 = .ok (.iaload, 1) := by decide +kernel
theorem dX7_whoCouldStay_39 : decode cX7_whoCouldStay 39 = .ok (.istore 7, 2) := by decide +kernel
theorem dX7_whoCouldStay_41 : decode cX7_whoCouldStay 41 = .ok (.iload_n 3, 1) := by decide +kernel
theorem dX7_whoCouldStay_42 : decode cX7_whoCouldStay 42 = .ok (.ifCond .le 41, 3) := by decide +kernel
theorem dX7_whoCouldStay_45 : decode cX7_whoCouldStay 45 = .ok (.aload_n 1, 1) := by decide +kernel
theorem dX7_whoCouldStay_46 : decode cX7_whoCouldStay 46 = .ok (.iload 7, 2) := by decide +kernel
theorem dX7_whoCouldStay_48 : decode cX7_whoCouldStay 48 = .ok (.iaload, 1) := by decide +kernel
theorem dX7_whoCouldStay_49 : decode cX7_whoCouldStay 49 = .ok (.iload 5, 2) := by decide +kernel
theorem dX7_whoCouldStay_51 : decode cX7_whoCouldStay 51 = .ok (.if_icmp .le 32, 3) := by decide +kernel
theorem dX7_whoCouldStay_54 : decode cX7_whoCouldStay 54 = .ok (.aload_n 0, 1) := by decide +kernel
theorem dX7_whoCouldStay_55 : decode cX7_whoCouldStay 55 = .ok (.getfield 57, 3) := by decide +kernel
theorem dX7_whoCouldStay_58 : decode cX7_whoCouldStay 58 = .ok (.iload 6, 2) := by decide +kernel
theorem dX7_whoCouldStay_60 : decode cX7_whoCouldStay 60 = .ok (.iaload, 1) := by decide +kernel
theorem dX7_whoCouldStay_61 : decode cX7_whoCouldStay 61 = .ok (.iload_n 3, 1) := by decide +kernel
theorem dX7_whoCouldStay_62 : decode cX7_whoCouldStay 62 = .ok (.if_icmp .ne 21, 3) := by decide +kernel
theorem dX7_whoCouldStay_65 : decode cX7_whoCouldStay 65 = .ok (.iload 4, 2) := by decide +kernel
theorem dX7_whoCouldStay_67 : decode cX7_whoCouldStay 67 = .ok (.iconst 1, 1) := by decide +kernel
theorem dX7_whoCouldStay_68 : decode cX7_whoCouldStay 68 = .ok (.iload 7, 2) := by decide +kernel
theorem dX7_whoCouldStay_70 : decode cX7_whoCouldStay 70 = .ok (.ishl, 1) := by decide +kernel
theorem dX7_whoCouldStay_71 : decode cX7_whoCouldStay 71 = .ok (.ior, 1) := by decide +kernel
theorem dX7_whoCouldStay_72 : decode cX7_whoCouldStay 72 = .ok (.istore 4, 2) := by decide +kernel
theorem dX7_whoCouldStay_74 : decode cX7_whoCouldStay 74 = .ok (.aload_n 1, 1) := by decide +kernel
theorem dX7_whoCouldStay_75 : decode cX7_whoCouldStay 75 = .ok (.iload 7, 2) := by decide +kernel
theorem dX7_whoCouldStay_77 : decode cX7_whoCouldStay 77 = .ok (.iaload, 1) := by decide +kernel
theorem dX7_whoCouldStay_78 : decode cX7_whoCouldStay 78 = .ok (.istore 5, 2) := by decide +kernel
theorem dX7_whoCouldStay_80 : decode cX7_whoCouldStay 80 = .ok (.iinc 3 (-1), 3) := by decide +kernel
theorem dX7_whoCouldStay_83 : decode cX7_whoCouldStay 83 = .ok (.iinc 6 1, 3) := by decide +kernel
theorem dX7_whoCouldStay_86 : decode cX7_whoCouldStay 86 = .ok (.goto (-63), 3) := by decide +kernel
theorem dX7_whoCouldStay_89 : decode cX7_whoCouldStay 89 = .ok (.iload 4, 2) := by decide +kernel
theorem dX7_whoCouldStay_91 : decode cX7_whoCouldStay 91 = .ok (.ireturn, 1) := by decide +kernel
theorem dX7_measureChains_0 : decode cX7_measureChains 0 = .ok (.aload_n 0, 1) := by decide +kernel
theorem dX7_measureChains_1 : decode cX7_measureChains 1 = .ok (.getfield 10, 3) := by decide +kernel
theorem dX7_measureChains_4 : decode cX7_measureChains 4 = .ok (.getfield 87, 3) := by decide +kernel
theorem dX7_measureChains_7 : decode cX7_measureChains 7 = .ok (.astore_n 2, 1) := by decide +kernel
theorem dX7_measureChains_8 : decode cX7_measureChains 8 = .ok (.iconst 0, 1) := by decide +kernel
theorem dX7_measureChains_9 : decode cX7_measureChains 9 = .ok (.istore_n 3, 1) := by decide +kernel
theorem dX7_measureChains_10 : decode cX7_measureChains 10 = .ok (.aload_n 2, 1) := by decide +kernel
theorem dX7_measureChains_11 : decode cX7_measureChains 11 = .ok (.getfield 161, 3) := by decide +kernel
theorem dX7_measureChains_14 : decode cX7_measureChains 14 = .ok (.iconst 1, 1) := by decide +kernel
theorem dX7_measureChains_15 : decode cX7_measureChains 15 = .ok (.isub, 1) := by decide +kernel
theorem dX7_measureChains_16 : decode cX7_measureChains 16 = .ok (.istore 4, 2) := by decide +kernel
theorem dX7_measureChains_18 : decode cX7_measureChains 18 = .ok (.iload 4, 2) := by decide +kernel
theorem dX7_measureChains_20 : decode cX7_measureChains 20 = .ok (.ifCond .lt 91, 3) := by decide +kernel
theorem dX7_measureChains_23 : decode cX7_measureChains 23 = .ok (.iconst 0, 1) := by decide +kernel
theorem dX7_measureChains_24 : decode cX7_measureChains 24 = .ok (.istore 5, 2) := by decide +kernel
theorem dX7_measureChains_26 : decode cX7_measureChains 26 = .ok (.iload 4, 2) := by decide +kernel
theorem dX7_measureChains_28 : decode cX7_measureChains 28 = .ok (.iconst 1, 1) := by decide +kernel
theorem dX7_measureChains_29 : decode cX7_measureChains 29 = .ok (.iadd, 1) := by decide +kernel
theorem dX7_measureChains_30 : decode cX7_measureChains 30 = .ok (.istore 6, 2) := by decide +kernel
theorem dX7_measureChains_32 : decode cX7_measureChains 32 = .ok (.iload 6, 2) := by decide +kernel
theorem dX7_measureChains_34 : decode cX7_measureChains 34 = .ok (.aload_n 2, 1) := by decide +kernel
theorem dX7_measureChains_35 : decode cX7_measureChains 35 = .ok (.getfield 161, 3) := by decide +kernel
theorem dX7_measureChains_38 : decode cX7_measureChains 38 = .ok (.if_icmp .ge 44, 3) := by decide +kernel
theorem dX7_measureChains_41 : decode cX7_measureChains 41 = .ok (.aload_n 1, 1) := by decide +kernel
theorem dX7_measureChains_42 : decode cX7_measureChains 42 = .ok (.aload_n 2, 1) := by decide +kernel
theorem dX7_measureChains_43 : decode cX7_measureChains 43 = .ok (.getfield 173, 3) := by decide +kernel
theorem dX7_measureChains_46 : decode cX7_measureChains 46 = .ok (.iload 6, 2) := by decide +kernel
theorem dX7_measureChains_48 : decode cX7_measureChains 48 = .ok (.iaload, 1) := by decide +kernel
theorem dX7_measureChains_49 : decode cX7_measureChains 49 = .ok (.iaload, 1) := by decide +kernel
theorem dX7_measureChains_50 : decode cX7_measureChains 50 = .ok (.aload_n 1, 1) := by decide +kernel
theorem dX7_measureChains_51 : decode cX7_measureChains 51 = .ok (.aload_n 2, 1) := by decide +kernel
theorem dX7_measureChains_52 : decode cX7_measureChains 52 = .ok (.getfield 173, 3) := by decide +kernel
theorem dX7_measureChains_55 : decode cX7_measureChains 55 = .ok (.iload 4, 2) := by decide +kernel
theorem dX7_measureChains_57 : decode cX7_measureChains 57 = .ok (.iaload, 1) := by decide +kernel
theorem dX7_measureChains_58 : decode cX7_measureChains 58 = .ok (.iaload, 1) := by decide +kernel
theorem dX7_measureChains_59 : decode cX7_measureChains 59 = .ok (.if_icmp .le 17, 3) := by decide +kernel
theorem dX7_measureChains_62 : decode cX7_measureChains 62 = .ok (.iload 5, 2) := by decide +kernel
theorem dX7_measureChains_64 : decode cX7_measureChains 64 = .ok (.aload_n 0, 1) := by decide +kernel
theorem dX7_measureChains_65 : decode cX7_measureChains 65 = .ok (.getfield 57, 3) := by decide +kernel
theorem dX7_measureChains_68 : decode cX7_measureChains 68 = .ok (.iload 6, 2) := by decide +kernel
theorem dX7_measureChains_70 : decode cX7_measureChains 70 = .ok (.iaload, 1) := by decide +kernel
theorem dX7_measureChains_71 : decode cX7_measureChains 71 = .ok (.invokestatic 330, 3) := by decide +kernel
theorem dX7_measureChains_74 : decode cX7_measureChains 74 = .ok (.istore 5, 2) := by decide +kernel
theorem dX7_measureChains_76 : decode cX7_measureChains 76 = .ok (.iinc 6 1, 3) := by decide +kernel
theorem dX7_measureChains_79 : decode cX7_measureChains 79 = .ok (.goto (-47), 3) := by decide +kernel
theorem dX7_measureChains_82 : decode cX7_measureChains 82 = .ok (.aload_n 0, 1) := by decide +kernel
theorem dX7_measureChains_83 : decode cX7_measureChains 83 = .ok (.getfield 57, 3) := by decide +kernel
theorem dX7_measureChains_86 : decode cX7_measureChains 86 = .ok (.iload 4, 2) := by decide +kernel
theorem dX7_measureChains_88 : decode cX7_measureChains 88 = .ok (.iload 5, 2) := by decide +kernel
theorem dX7_measureChains_90 : decode cX7_measureChains 90 = .ok (.iconst 1, 1) := by decide +kernel
theorem dX7_measureChains_91 : decode cX7_measureChains 91 = .ok (.iadd, 1) := by decide +kernel
theorem dX7_measureChains_92 : decode cX7_measureChains 92 = .ok (.iastore, 1) := by decide +kernel
theorem dX7_measureChains_93 : decode cX7_measureChains 93 = .ok (.iload_n 3, 1) := by decide +kernel
theorem dX7_measureChains_94 : decode cX7_measureChains 94 = .ok (.aload_n 0, 1) := by decide +kernel
theorem dX7_measureChains_95 : decode cX7_measureChains 95 = .ok (.getfield 57, 3) := by decide +kernel
theorem dX7_measureChains_98 : decode cX7_measureChains 98 = .ok (.iload 4, 2) := by decide +kernel
theorem dX7_measureChains_100 : decode cX7_measureChains 100 = .ok (.iaload, 1) := by decide +kernel
theorem dX7_measureChains_101 : decode cX7_measureChains 101 = .ok (.invokestatic 330, 3) := by decide +kernel
theorem dX7_measureChains_104 : decode cX7_measureChains 104 = .ok (.istore_n 3, 1) := by decide +kernel
theorem dX7_measureChains_105 : decode cX7_measureChains 105 = .ok (.iinc 4 (-1), 3) := by decide +kernel
theorem dX7_measureChains_108 : decode cX7_measureChains 108 = .ok (.goto (-90), 3) := by decide +kernel
theorem dX7_measureChains_111 : decode cX7_measureChains 111 = .ok (.iload_n 3, 1) := by decide +kernel
theorem dX7_measureChains_112 : decode cX7_measureChains 112 = .ok (.ireturn, 1) := by decide +kernel
theorem dX7_findEase_0 : decode cX7_findEase 0 = .ok (.aload_n 0, 1) := by decide +kernel
theorem dX7_findEase_1 : decode cX7_findEase 1 = .ok (.getfield 53, 3) := by decide +kernel
theorem dX7_findEase_4 : decode cX7_findEase 4 = .ok (.aload_n 0, 1) := by decide +kernel
theorem dX7_findEase_5 : decode cX7_findEase 5 = .ok (.getfield 10, 3) := by decide +kernel
theorem dX7_findEase_8 : decode cX7_findEase 8 = .ok (.getfield 87, 3) := by decide +kernel
theorem dX7_findEase_11 : decode cX7_findEase 11 = .ok (.invokevirtual 232, 3) := by decide +kernel
theorem dX7_findEase_14 : decode cX7_findEase 14 = .ok (.aload_n 0, 1) := by decide +kernel
theorem dX7_findEase_15 : decode cX7_findEase 15 = .ok (.getfield 53, 3) := by decide +kernel
theorem dX7_findEase_18 : decode cX7_findEase 18 = .ok (.getfield 237, 3) := by decide +kernel
theorem dX7_findEase_21 : decode cX7_findEase 21 = .ok (.istore_n 1, 1) := by decide +kernel
theorem dX7_findEase_22 : decode cX7_findEase 22 = .ok (.iconst 0, 1) := by decide +kernel
theorem dX7_findEase_23 : decode cX7_findEase 23 = .ok (.istore_n 2, 1) := by decide +kernel
theorem dX7_findEase_24 : decode cX7_findEase 24 = .ok (.iload_n 2, 1) := by decide +kernel
theorem dX7_findEase_25 : decode cX7_findEase 25 = .ok (.sipush 720, 3) := by decide +kernel
theorem dX7_findEase_28 : decode cX7_findEase 28 = .ok (.if_icmp .ge 65, 3) := by decide +kernel
theorem dX7_findEase_31 : decode cX7_findEase 31 = .ok (.aload_n 0, 1) := by decide +kernel
theorem dX7_findEase_32 : decode cX7_findEase 32 = .ok (.getfield 10, 3) := by decide +kernel
theorem dX7_findEase_35 : decode cX7_findEase 35 = .ok (.getfield 66, 3) := by decide +kernel
theorem dX7_findEase_38 : decode cX7_findEase 38 = .ok (.aload_n 0, 1) := by decide +kernel
theorem dX7_findEase_39 : decode cX7_findEase 39 = .ok (.getfield 53, 3) := by decide +kernel
theorem dX7_findEase_42 : decode cX7_findEase 42 = .ok (.getfield 235, 3) := by decide +kernel
theorem dX7_findEase_45 : decode cX7_findEase 45 = .ok (.aload_n 0, 1) := by decide +kernel
theorem dX7_findEase_46 : decode cX7_findEase 46 = .ok (.getfield 53, 3) := by decide +kernel
theorem dX7_findEase_49 : decode cX7_findEase 49 = .ok (.getfield 237, 3) := by decide +kernel
theorem dX7_findEase_52 : decode cX7_findEase 52 = .ok (.invokevirtual 176, 3) := by decide +kernel
theorem dX7_findEase_55 : decode cX7_findEase 55 = .ok (.istore_n 3, 1) := by decide +kernel
theorem dX7_findEase_56 : decode cX7_findEase 56 = .ok (.iload_n 3, 1) := by decide +kernel
theorem dX7_findEase_57 : decode cX7_findEase 57 = .ok (.iload_n 1, 1) := by decide +kernel
theorem dX7_findEase_58 : decode cX7_findEase 58 = .ok (.if_icmp .ge 12, 3) := by decide +kernel
theorem dX7_findEase_61 : decode cX7_findEase 61 = .ok (.iload_n 3, 1) := by decide +kernel
theorem dX7_findEase_62 : decode cX7_findEase 62 = .ok (.istore_n 1, 1) := by decide +kernel
theorem dX7_findEase_63 : decode cX7_findEase 63 = .ok (.aload_n 0, 1) := by decide +kernel
theorem dX7_findEase_64 : decode cX7_findEase 64 = .ok (.getfield 53, 3) := by decide +kernel
theorem dX7_findEase_67 : decode cX7_findEase 67 = .ok (.invokevirtual 333, 3) := by decide +kernel
theorem dX7_findEase_70 : decode cX7_findEase 70 = .ok (.iload_n 1, 1) := by decide +kernel
theorem dX7_findEase_71 : decode cX7_findEase 71 = .ok (.ifCond .eq 22, 3) := by decide +kernel
theorem dX7_findEase_74 : decode cX7_findEase 74 = .ok (.aload_n 0, 1) := by decide +kernel
theorem dX7_findEase_75 : decode cX7_findEase 75 = .ok (.getfield 53, 3) := by decide +kernel
theorem dX7_findEase_78 : decode cX7_findEase 78 = .ok (.invokevirtual 240, 3) := by decide +kernel
theorem dX7_findEase_81 : decode cX7_findEase 81 = .ok (.ifCond .ne 6, 3) := by decide +kernel
theorem dX7_findEase_84 : decode cX7_findEase 84 = .ok (.goto 9, 3) := by decide +kernel
theorem dX7_findEase_87 : decode cX7_findEase 87 = .ok (.iinc 2 1, 3) := by decide +kernel
theorem dX7_findEase_90 : decode cX7_findEase 90 = .ok (.goto (-66), 3) := by decide +kernel
theorem dX7_findEase_93 : decode cX7_findEase 93 = .ok (.iload_n 1, 1) := by decide +kernel
theorem dX7_findEase_94 : decode cX7_findEase 94 = .ok (.ireturn, 1) := by decide +kernel
theorem dX7_findMostLeft_0 : decode cX7_findMostLeft 0 = .ok (.aload_n 0, 1) := by decide +kernel
theorem dX7_findMostLeft_1 : decode cX7_findMostLeft 1 = .ok (.getfield 53, 3) := by decide +kernel
theorem dX7_findMostLeft_4 : decode cX7_findMostLeft 4 = .ok (.aload_n 0, 1) := by decide +kernel
theorem dX7_findMostLeft_5 : decode cX7_findMostLeft 5 = .ok (.getfield 10, 3) := by decide +kernel
theorem dX7_findMostLeft_8 : decode cX7_findMostLeft 8 = .ok (.getfield 87, 3) := by decide +kernel
theorem dX7_findMostLeft_11 : decode cX7_findMostLeft 11 = .ok (.invokevirtual 232, 3) := by decide +kernel
theorem dX7_findMostLeft_14 : decode cX7_findMostLeft 14 = .ok (.iconst (-1), 1) := by decide +kernel
theorem dX7_findMostLeft_15 : decode cX7_findMostLeft 15 = .ok (.istore_n 2, 1) := by decide +kernel
theorem dX7_findMostLeft_16 : decode cX7_findMostLeft 16 = .ok (.iconst (-1), 1) := by decide +kernel
theorem dX7_findMostLeft_17 : decode cX7_findMostLeft 17 = .ok (.istore_n 3, 1) := by decide +kernel
theorem dX7_findMostLeft_18 : decode cX7_findMostLeft 18 = .ok (.iconst 0, 1) := by decide +kernel
theorem dX7_findMostLeft_19 : decode cX7_findMostLeft 19 = .ok (.istore 4, 2) := by decide +kernel
theorem dX7_findMostLeft_21 : decode cX7_findMostLeft 21 = .ok (.iload 4, 2) := by decide +kernel
theorem dX7_findMostLeft_23 : decode cX7_findMostLeft 23 = .ok (.sipush 720, 3) := by decide +kernel
theorem dX7_findMostLeft_26 : decode cX7_findMostLeft 26 = .ok (.if_icmp .ge 99, 3) := by decide +kernel
theorem dX7_findMostLeft_29 : decode cX7_findMostLeft 29 = .ok (.aload_n 0, 1) := by decide +kernel
theorem dX7_findMostLeft_30 : decode cX7_findMostLeft 30 = .ok (.getfield 53, 3) := by decide +kernel
theorem dX7_findMostLeft_33 : decode cX7_findMostLeft 33 = .ok (.invokevirtual 336, 3) := by decide +kernel
theorem dX7_findMostLeft_36 : decode cX7_findMostLeft 36 = .ok (.ifCond .ne 70, 3) := by decide +kernel
theorem dX7_findMostLeft_39 : decode cX7_findMostLeft 39 = .ok (.aload_n 0, 1) := by decide +kernel
theorem dX7_findMostLeft_40 : decode cX7_findMostLeft 40 = .ok (.aload_n 0, 1) := by decide +kernel
theorem dX7_findMostLeft_41 : decode cX7_findMostLeft 41 = .ok (.getfield 53, 3) := by decide +kernel
theorem dX7_findMostLeft_44 : decode cX7_findMostLeft 44 = .ok (.getfield 235, 3) := by decide +kernel
theorem dX7_findMostLeft_47 : decode cX7_findMostLeft 47 = .ok (.iload_n 1, 1) := by decide +kernel
theorem dX7_findMostLeft_48 : decode cX7_findMostLeft 48 = .ok (.invokevirtual 256, 3) := by decide +kernel
theorem dX7_findMostLeft_51 : decode cX7_findMostLeft 51 = .ok (.aload_n 0, 1) := by decide +kernel
theorem dX7_findMostLeft_52 : decode cX7_findMostLeft 52 = .ok (.getfield 39, 3) := by decide +kernel
theorem dX7_findMostLeft_55 : decode cX7_findMostLeft 55 = .ok (.invokevirtual 170, 3) := by decide +kernel
theorem dX7_findMostLeft_58 : decode cX7_findMostLeft 58 = .ok (.istore 5, 2) := by decide +kernel
theorem dX7_findMostLeft_60 : decode cX7_findMostLeft 60 = .ok (.aload_n 0, 1) := by decide +kernel
theorem dX7_findMostLeft_61 : decode cX7_findMostLeft 61 = .ok (.getfield 39, 3) := by decide +kernel
theorem dX7_findMostLeft_64 : decode cX7_findMostLeft 64 = .ok (.getfield 161, 3) := by decide +kernel
theorem dX7_findMostLeft_67 : decode cX7_findMostLeft 67 = .ok (.iload_n 2, 1) := by decide +kernel
theorem dX7_findMostLeft_68 : decode cX7_findMostLeft 68 = .ok (.if_icmp .gt 20, 3) := by decide +kernel
theorem dX7_findMostLeft_71 : decode cX7_findMostLeft 71 = .ok (.aload_n 0, 1) := by decide +kernel
theorem dX7_findMostLeft_72 : decode cX7_findMostLeft 72 = .ok (.getfield 39, 3) := by decide +kernel
theorem dX7_findMostLeft_75 : decode cX7_findMostLeft 75 = .ok (.getfield 161, 3) := by decide +kernel
theorem dX7_findMostLeft_78 : decode cX7_findMostLeft 78 = .ok (.iload_n 2, 1) := by decide +kernel
theorem dX7_findMostLeft_79 : decode cX7_findMostLeft 79 = .ok (.if_icmp .ne 27, 3) := by decide +kernel
theorem dX7_findMostLeft_82 : decode cX7_findMostLeft 82 = .ok (.iload 5, 2) := by decide +kernel
theorem dX7_findMostLeft_84 : decode cX7_findMostLeft 84 = .ok (.iload_n 3, 1) := by decide +kernel
theorem dX7_findMostLeft_85 : decode cX7_findMostLeft 85 = .ok (.if_icmp .le 21, 3) := by decide +kernel
theorem dX7_findMostLeft_88 : decode cX7_findMostLeft 88 = .ok (.aload_n 0, 1) := by decide +kernel
theorem dX7_findMostLeft_89 : decode cX7_findMostLeft 89 = .ok (.getfield 39, 3) := by decide +kernel
theorem dX7_findMostLeft_92 : decode cX7_findMostLeft 92 = .ok (.getfield 161, 3) := by decide +kernel
theorem dX7_findMostLeft_95 : decode cX7_findMostLeft 95 = .ok (.istore_n 2, 1) := by decide +kernel
theorem dX7_findMostLeft_96 : decode cX7_findMostLeft 96 = .ok (.iload 5, 2) := by decide +kernel
theorem dX7_findMostLeft_98 : decode cX7_findMostLeft 98 = .ok (.istore_n 3, 1) := by decide +kernel
theorem dX7_findMostLeft_99 : decode cX7_findMostLeft 99 = .ok (.aload_n 0, 1) := by decide +kernel
theorem dX7_findMostLeft_100 : decode cX7_findMostLeft 100 = .ok (.getfield 53, 3) := by decide +kernel
theorem dX7_findMostLeft_103 : decode cX7_findMostLeft 103 = .ok (.invokevirtual 333, 3) := by decide +kernel
theorem dX7_findMostLeft_106 : decode cX7_findMostLeft 106 = .ok (.aload_n 0, 1) := by decide +kernel
theorem dX7_findMostLeft_107 : decode cX7_findMostLeft 107 = .ok (.getfield 53, 3) := by decide +kernel
theorem dX7_findMostLeft_110 : decode cX7_findMostLeft 110 = .ok (.invokevirtual 240, 3) := by decide +kernel
theorem dX7_findMostLeft_113 : decode cX7_findMostLeft 113 = .ok (.ifCond .ne 6, 3) := by decide +kernel
theorem dX7_findMostLeft_116 : decode cX7_findMostLeft 116 = .ok (.goto 9, 3) := by decide +kernel
theorem dX7_findMostLeft_119 : decode cX7_findMostLeft 119 = .ok (.iinc 4 1, 3) := by decide +kernel
theorem dX7_findMostLeft_122 : decode cX7_findMostLeft 122 = .ok (.goto (-101), 3) := by decide +kernel
theorem dX7_findMostLeft_125 : decode cX7_findMostLeft 125 = .ok (.return_, 1) := by decide +kernel
theorem dX7_weightOfWinters_0 : decode cX7_weightOfWinters 0 = .ok (.aload_n 0, 1) := by decide +kernel
theorem dX7_weightOfWinters_1 : decode cX7_weightOfWinters 1 = .ok (.getfield 10, 3) := by decide +kernel
theorem dX7_weightOfWinters_4 : decode cX7_weightOfWinters 4 = .ok (.getfield 87, 3) := by decide +kernel
theorem dX7_weightOfWinters_7 : decode cX7_weightOfWinters 7 = .ok (.getfield 161, 3) := by decide +kernel
theorem dX7_weightOfWinters_10 : decode cX7_weightOfWinters 10 = .ok (.istore_n 3, 1) := by decide +kernel
theorem dX7_weightOfWinters_11 : decode cX7_weightOfWinters 11 = .ok (.iconst 0, 1) := by decide +kernel
theorem dX7_weightOfWinters_12 : decode cX7_weightOfWinters 12 = .ok (.istore 4, 2) := by decide +kernel
theorem dX7_weightOfWinters_14 : decode cX7_weightOfWinters 14 = .ok (.iconst 0, 1) := by decide +kernel
theorem dX7_weightOfWinters_15 : decode cX7_weightOfWinters 15 = .ok (.istore 5, 2) := by decide +kernel
theorem dX7_weightOfWinters_17 : decode cX7_weightOfWinters 17 = .ok (.iload 5, 2) := by decide +kernel
theorem dX7_weightOfWinters_19 : decode cX7_weightOfWinters 19 = .ok (.iconst 1, 1) := by decide +kernel
theorem dX7_weightOfWinters_20 : decode cX7_weightOfWinters 20 = .ok (.iload_n 3, 1) := by decide +kernel
theorem dX7_weightOfWinters_21 : decode cX7_weightOfWinters 21 = .ok (.ishl, 1) := by decide +kernel
theorem dX7_weightOfWinters_22 : decode cX7_weightOfWinters 22 = .ok (.if_icmp .ge 54, 3) := by decide +kernel
theorem dX7_weightOfWinters_25 : decode cX7_weightOfWinters 25 = .ok (.iload 5, 2) := by decide +kernel
theorem dX7_weightOfWinters_27 : decode cX7_weightOfWinters 27 = .ok (.invokestatic 227, 3) := by decide +kernel
theorem dX7_weightOfWinters_30 : decode cX7_weightOfWinters 30 = .ok (.istore 6, 2) := by decide +kernel
theorem dX7_weightOfWinters_32 : decode cX7_weightOfWinters 32 = .ok (.iload 6, 2) := by decide +kernel
theorem dX7_weightOfWinters_34 : decode cX7_weightOfWinters 34 = .ok (.iload_n 1, 1) := by decide +kernel
theorem dX7_weightOfWinters_35 : decode cX7_weightOfWinters 35 = .ok (.if_icmp .lt 35, 3) := by decide +kernel
theorem dX7_weightOfWinters_38 : decode cX7_weightOfWinters 38 = .ok (.aload_n 0, 1) := by decide +kernel
theorem dX7_weightOfWinters_39 : decode cX7_weightOfWinters 39 = .ok (.iload 5, 2) := by decide +kernel
theorem dX7_weightOfWinters_41 : decode cX7_weightOfWinters 41 = .ok (.invokevirtual 339, 3) := by decide +kernel
theorem dX7_weightOfWinters_44 : decode cX7_weightOfWinters 44 = .ok (.ifCond .eq 26, 3) := by decide +kernel
theorem dX7_weightOfWinters_47 : decode cX7_weightOfWinters 47 = .ok (.iload 4, 2) := by decide +kernel
theorem dX7_weightOfWinters_49 : decode cX7_weightOfWinters 49 = .ok (.bipush 10, 2) := by decide +kernel
theorem dX7_weightOfWinters_51 : decode cX7_weightOfWinters 51 = .ok (.iload_n 2, 1) := by decide +kernel
theorem dX7_weightOfWinters_52 : decode cX7_weightOfWinters 52 = .ok (.isub, 1) := by decide +kernel
theorem dX7_weightOfWinters_53 : decode cX7_weightOfWinters 53 = .ok (.iload 6, 2) := by decide +kernel
theorem dX7_weightOfWinters_55 : decode cX7_weightOfWinters 55 = .ok (.invokestatic 263, 3) := by decide +kernel
theorem dX7_weightOfWinters_58 : decode cX7_weightOfWinters 58 = .ok (.iload_n 2, 1) := by decide +kernel
theorem dX7_weightOfWinters_59 : decode cX7_weightOfWinters 59 = .ok (.iload_n 3, 1) := by decide +kernel
theorem dX7_weightOfWinters_60 : decode cX7_weightOfWinters 60 = .ok (.iload 6, 2) := by decide +kernel
theorem dX7_weightOfWinters_62 : decode cX7_weightOfWinters 62 = .ok (.isub, 1) := by decide +kernel
theorem dX7_weightOfWinters_63 : decode cX7_weightOfWinters 63 = .ok (.invokestatic 263, 3) := by decide +kernel
theorem dX7_weightOfWinters_66 : decode cX7_weightOfWinters 66 = .ok (.imul, 1) := by decide +kernel
theorem dX7_weightOfWinters_67 : decode cX7_weightOfWinters 67 = .ok (.iadd, 1) := by decide +kernel
theorem dX7_weightOfWinters_68 : decode cX7_weightOfWinters 68 = .ok (.istore 4, 2) := by decide +kernel
theorem dX7_weightOfWinters_70 : decode cX7_weightOfWinters 70 = .ok (.iinc 5 1, 3) := by decide +kernel
theorem dX7_weightOfWinters_73 : decode cX7_weightOfWinters 73 = .ok (.goto (-56), 3) := by decide +kernel
theorem dX7_weightOfWinters_76 : decode cX7_weightOfWinters 76 = .ok (.iload 4, 2) := by decide +kernel
theorem dX7_weightOfWinters_78 : decode cX7_weightOfWinters 78 = .ok (.ireturn, 1) := by decide +kernel
theorem dX7_areAllByTheirOwn_0 : decode cX7_areAllByTheirOwn 0 = .ok (.iconst (-1), 1) := by decide +kernel
theorem dX7_areAllByTheirOwn_1 : decode cX7_areAllByTheirOwn 1 = .ok (.istore_n 2, 1) := by decide +kernel
theorem dX7_areAllByTheirOwn_2 : decode cX7_areAllByTheirOwn 2 = .ok (.iconst 0, 1) := by decide +kernel
theorem dX7_areAllByTheirOwn_3 : decode cX7_areAllByTheirOwn 3 = .ok (.istore_n 3, 1) := by decide +kernel
theorem dX7_areAllByTheirOwn_4 : decode cX7_areAllByTheirOwn 4 = .ok (.iload_n 3, 1) := by decide +kernel
theorem dX7_areAllByTheirOwn_5 : decode cX7_areAllByTheirOwn 5 = .ok (.aload_n 0, 1) := by decide +kernel
theorem dX7_areAllByTheirOwn_6 : decode cX7_areAllByTheirOwn 6 = .ok (.getfield 10, 3) := by decide +kernel
theorem dX7_areAllByTheirOwn_9 : decode cX7_areAllByTheirOwn 9 = .ok (.getfield 87, 3) := by decide +kernel
theorem dX7_areAllByTheirOwn_12 : decode cX7_areAllByTheirOwn 12 = .ok (.getfield 161, 3) := by decide +kernel
theorem dX7_areAllByTheirOwn_15 : decode cX7_areAllByTheirOwn 15 = .ok (.if_icmp .ge 61, 3) := by decide +kernel
theorem dX7_areAllByTheirOwn_18 : decode cX7_areAllByTheirOwn 18 = .ok (.iload_n 1, 1) := by decide +kernel
theorem dX7_areAllByTheirOwn_19 : decode cX7_areAllByTheirOwn 19 = .ok (.iload_n 3, 1) := by decide +kernel
theorem dX7_areAllByTheirOwn_20 : decode cX7_areAllByTheirOwn 20 = .ok (.invokestatic 220, 3) := by decide +kernel
theorem dX7_areAllByTheirOwn_23 : decode cX7_areAllByTheirOwn 23 = .ok (.ifCond .eq 47, 3) := by decide +kernel
theorem dX7_areAllByTheirOwn_26 : decode cX7_areAllByTheirOwn 26 = .ok (.aload_n 0, 1) := by decide +kernel
theorem dX7_areAllByTheirOwn_27 : decode cX7_areAllByTheirOwn 27 = .ok (.getfield 10, 3) := by decide +kernel
theorem dX7_areAllByTheirOwn_30 : decode cX7_areAllByTheirOwn 30 = .ok (.getfield 87, 3) := by decide +kernel
theorem dX7_areAllByTheirOwn_33 : decode cX7_areAllByTheirOwn 33 = .ok (.getfield 173, 3) := by decide +kernel
theorem dX7_areAllByTheirOwn_36 : decode cX7_areAllByTheirOwn 36 = .ok (.iload_n 3, 1) := by decide +kernel
theorem dX7_areAllByTheirOwn_37 : decode cX7_areAllByTheirOwn 37 = .ok (.iaload, 1) := by decide +kernel
theorem dX7_areAllByTheirOwn_38 : decode cX7_areAllByTheirOwn 38 = .ok (.istore 4, 2) := by decide +kernel
theorem dX7_areAllByTheirOwn_40 : decode cX7_areAllByTheirOwn 40 = .ok (.iload_n 2, 1) := by decide +kernel
theorem dX7_areAllByTheirOwn_41 : decode cX7_areAllByTheirOwn 41 = .ok (.iconst (-1), 1) := by decide +kernel
theorem dX7_areAllByTheirOwn_42 : decode cX7_areAllByTheirOwn 42 = .ok (.if_icmp .eq 25, 3) := by decide +kernel
theorem dX7_areAllByTheirOwn_45 : decode cX7_areAllByTheirOwn 45 = .ok (.aload_n 0, 1) := by decide +kernel
theorem dX7_areAllByTheirOwn_46 : decode cX7_areAllByTheirOwn 46 = .ok (.getfield 10, 3) := by decide +kernel
theorem dX7_areAllByTheirOwn_49 : decode cX7_areAllByTheirOwn 49 = .ok (.getfield 66, 3) := by decide +kernel
theorem dX7_areAllByTheirOwn_52 : decode cX7_areAllByTheirOwn 52 = .ok (.getfield 127, 3) := by decide +kernel
theorem dX7_areAllByTheirOwn_55 : decode cX7_areAllByTheirOwn 55 = .ok (.iload_n 2, 1) := by decide +kernel
theorem dX7_areAllByTheirOwn_56 : decode cX7_areAllByTheirOwn 56 = .ok (.iaload, 1) := by decide +kernel
theorem dX7_areAllByTheirOwn_57 : decode cX7_areAllByTheirOwn 57 = .ok (.iload 4, 2) := by decide +kernel
theorem dX7_areAllByTheirOwn_59 : decode cX7_areAllByTheirOwn 59 = .ok (.invokestatic 220, 3) := by decide +kernel
theorem dX7_areAllByTheirOwn_62 : decode cX7_areAllByTheirOwn 62 = .ok (.ifCond .ne 5, 3) := by decide +kernel
theorem dX7_areAllByTheirOwn_65 : decode cX7_areAllByTheirOwn 65 = .ok (.iconst 0, 1) := by decide +kernel
theorem dX7_areAllByTheirOwn_66 : decode cX7_areAllByTheirOwn 66 = .ok (.ireturn, 1) := by decide +kernel
theorem dX7_areAllByTheirOwn_67 : decode cX7_areAllByTheirOwn 67 = .ok (.iload 4, 2) := by decide +kernel
theorem dX7_areAllByTheirOwn_69 : decode cX7_areAllByTheirOwn 69 = .ok (.istore_n 2, 1) := by decide +kernel
theorem dX7_areAllByTheirOwn_70 : decode cX7_areAllByTheirOwn 70 = .ok (.iinc 3 1, 3) := by decide +kernel
theorem dX7_areAllByTheirOwn_73 : decode cX7_areAllByTheirOwn 73 = .ok (.goto (-69), 3) := by decide +kernel
theorem dX7_areAllByTheirOwn_76 : decode cX7_areAllByTheirOwn 76 = .ok (.iconst 1, 1) := by decide +kernel
theorem dX7_areAllByTheirOwn_77 : decode cX7_areAllByTheirOwn 77 = .ok (.ireturn, 1) := by decide +kernel
theorem dX7_kindsThatFit_0 : decode cX7_kindsThatFit 0 = .ok (.iconst 0, 1) := by decide +kernel
theorem dX7_kindsThatFit_1 : decode cX7_kindsThatFit 1 = .ok (.istore 5, 2) := by decide +kernel
theorem dX7_kindsThatFit_3 : decode cX7_kindsThatFit 3 = .ok (.iconst 0, 1) := by decide +kernel
theorem dX7_kindsThatFit_4 : decode cX7_kindsThatFit 4 = .ok (.istore 6, 2) := by decide +kernel
theorem dX7_kindsThatFit_6 : decode cX7_kindsThatFit 6 = .ok (.iload 6, 2) := by decide +kernel
theorem dX7_kindsThatFit_8 : decode cX7_kindsThatFit 8 = .ok (.iconst 5, 1) := by decide +kernel
theorem dX7_kindsThatFit_9 : decode cX7_kindsThatFit 9 = .ok (.if_icmp .ge 69, 3) := by decide +kernel
theorem dX7_kindsThatFit_12 : decode cX7_kindsThatFit 12 = .ok (.aload_n 0, 1) := by decide +kernel
theorem dX7_kindsThatFit_13 : decode cX7_kindsThatFit 13 = .ok (.getfield 46, 3) := by decide +kernel
theorem dX7_kindsThatFit_16 : decode cX7_kindsThatFit 16 = .ok (.aload_n 0, 1) := by decide +kernel
theorem dX7_kindsThatFit_17 : decode cX7_kindsThatFit 17 = .ok (.getfield 10, 3) := by decide +kernel
theorem dX7_kindsThatFit_20 : decode cX7_kindsThatFit 20 = .ok (.getfield 66, 3) := by decide +kernel
theorem dX7_kindsThatFit_23 : decode cX7_kindsThatFit 23 = .ok (.invokevirtual 152, 3) := by decide +kernel
theorem dX7_kindsThatFit_26 : decode cX7_kindsThatFit 26 = .ok (.aload_n 0, 1) := by decide +kernel
theorem dX7_kindsThatFit_27 : decode cX7_kindsThatFit 27 = .ok (.getfield 46, 3) := by decide +kernel
theorem dX7_kindsThatFit_30 : decode cX7_kindsThatFit 30 = .ok (.getfield 117, 3) := by decide +kernel
theorem dX7_kindsThatFit_33 : decode cX7_kindsThatFit 33 = .ok (.iload_n 1, 1) := by decide +kernel
theorem dX7_kindsThatFit_34 : decode cX7_kindsThatFit 34 = .ok (.iload 6, 2) := by decide +kernel
theorem dX7_kindsThatFit_36 : decode cX7_kindsThatFit 36 = .ok (.iastore, 1) := by decide +kernel
theorem dX7_kindsThatFit_37 : decode cX7_kindsThatFit 37 = .ok (.aload_n 0, 1) := by decide +kernel
theorem dX7_kindsThatFit_38 : decode cX7_kindsThatFit 38 = .ok (.getfield 39, 3) := by decide +kernel
theorem dX7_kindsThatFit_41 : decode cX7_kindsThatFit 41 = .ok (.aload_n 0, 1) := by decide +kernel
theorem dX7_kindsThatFit_42 : decode cX7_kindsThatFit 42 = .ok (.getfield 10, 3) := by decide +kernel
theorem dX7_kindsThatFit_45 : decode cX7_kindsThatFit 45 = .ok (.getfield 87, 3) := by decide +kernel
theorem dX7_kindsThatFit_48 : decode cX7_kindsThatFit 48 = .ok (.invokevirtual 218, 3) := by decide +kernel
theorem dX7_kindsThatFit_51 : decode cX7_kindsThatFit 51 = .ok (.aload_n 0, 1) := by decide +kernel
theorem dX7_kindsThatFit_52 : decode cX7_kindsThatFit 52 = .ok (.iload_n 1, 1) := by decide +kernel
theorem dX7_kindsThatFit_53 : decode cX7_kindsThatFit 53 = .ok (.aload_n 2, 1) := by decide +kernel
theorem dX7_kindsThatFit_54 : decode cX7_kindsThatFit 54 = .ok (.iload_n 3, 1) := by decide +kernel
theorem dX7_kindsThatFit_55 : decode cX7_kindsThatFit 55 = .ok (.iload 4, 2) := by decide +kernel
theorem dX7_kindsThatFit_57 : decode cX7_kindsThatFit 57 = .ok (.invokevirtual 342, 3) := by decide +kernel
theorem dX7_kindsThatFit_60 : decode cX7_kindsThatFit 60 = .ok (.ifCond .eq 12, 3) := by decide +kernel
theorem dX7_kindsThatFit_63 : decode cX7_kindsThatFit 63 = .ok (.iload 5, 2) := by decide +kernel
theorem dX7_kindsThatFit_65 : decode cX7_kindsThatFit 65 = .ok (.iconst 1, 1) := by decide +kernel
theorem dX7_kindsThatFit_66 : decode cX7_kindsThatFit 66 = .ok (.iload 6, 2) := by decide +kernel
theorem dX7_kindsThatFit_68 : decode cX7_kindsThatFit 68 = .ok (.ishl, 1) := by decide +kernel
theorem dX7_kindsThatFit_69 : decode cX7_kindsThatFit 69 = .ok (.ior, 1) := by decide +kernel
theorem dX7_kindsThatFit_70 : decode cX7_kindsThatFit 70 = .ok (.istore 5, 2) := by decide +kernel
theorem dX7_kindsThatFit_72 : decode cX7_kindsThatFit 72 = .ok (.iinc 6 1, 3) := by decide +kernel
theorem dX7_kindsThatFit_75 : decode cX7_kindsThatFit 75 = .ok (.goto (-69), 3) := by decide +kernel
theorem dX7_kindsThatFit_78 : decode cX7_kindsThatFit 78 = .ok (.iload 5, 2) := by decide +kernel
theorem dX7_kindsThatFit_80 : decode cX7_kindsThatFit 80 = .ok (.ireturn, 1) := by decide +kernel
theorem dX7_howManyLivesFit_0 : decode cX7_howManyLivesFit 0 = .ok (.iconst 0, 1) := by decide +kernel
theorem dX7_howManyLivesFit_1 : decode cX7_howManyLivesFit 1 = .ok (.istore 5, 2) := by decide +kernel
theorem dX7_howManyLivesFit_3 : decode cX7_howManyLivesFit 3 = .ok (.iconst 1, 1) := by decide +kernel
theorem dX7_howManyLivesFit_4 : decode cX7_howManyLivesFit 4 = .ok (.istore 6, 2) := by decide +kernel
theorem dX7_howManyLivesFit_6 : decode cX7_howManyLivesFit 6 = .ok (.iload 6, 2) := by decide +kernel
theorem dX7_howManyLivesFit_8 : decode cX7_howManyLivesFit 8 = .ok (.bipush 60, 2) := by decide +kernel
theorem dX7_howManyLivesFit_10 : decode cX7_howManyLivesFit 10 = .ok (.if_icmp .gt 26, 3) := by decide +kernel
theorem dX7_howManyLivesFit_13 : decode cX7_howManyLivesFit 13 = .ok (.aload_n 0, 1) := by decide +kernel
theorem dX7_howManyLivesFit_14 : decode cX7_howManyLivesFit 14 = .ok (.iload_n 1, 1) := by decide +kernel
theorem dX7_howManyLivesFit_15 : decode cX7_howManyLivesFit 15 = .ok (.iload 6, 2) := by decide +kernel
theorem dX7_howManyLivesFit_17 : decode cX7_howManyLivesFit 17 = .ok (.aload_n 2, 1) := by decide +kernel
theorem dX7_howManyLivesFit_18 : decode cX7_howManyLivesFit 18 = .ok (.iload_n 3, 1) := by decide +kernel
theorem dX7_howManyLivesFit_19 : decode cX7_howManyLivesFit 19 = .ok (.iload 4, 2) := by decide +kernel
theorem dX7_howManyLivesFit_21 : decode cX7_howManyLivesFit 21 = .ok (.invokevirtual 346, 3) := by decide +kernel
theorem dX7_howManyLivesFit_24 : decode cX7_howManyLivesFit 24 = .ok (.ifCond .eq 6, 3) := by decide +kernel
theorem dX7_howManyLivesFit_27 : decode cX7_howManyLivesFit 27 = .ok (.iinc 5 1, 3) := by decide +kernel
theorem dX7_howManyLivesFit_30 : decode cX7_howManyLivesFit 30 = .ok (.iinc 6 1, 3) := by decide +kernel
theorem dX7_howManyLivesFit_33 : decode cX7_howManyLivesFit 33 = .ok (.goto (-27), 3) := by decide +kernel
theorem dX7_howManyLivesFit_36 : decode cX7_howManyLivesFit 36 = .ok (.iload 5, 2) := by decide +kernel
theorem dX7_howManyLivesFit_38 : decode cX7_howManyLivesFit 38 = .ok (.ireturn, 1) := by decide +kernel
theorem dX7_leastLifeThatFits_0 : decode cX7_leastLifeThatFits 0 = .ok (.iconst 1, 1) := by decide +kernel
theorem dX7_leastLifeThatFits_1 : decode cX7_leastLifeThatFits 1 = .ok (.istore 5, 2) := by decide +kernel
theorem dX7_leastLifeThatFits_3 : decode cX7_leastLifeThatFits 3 = .ok (.iload 5, 2) := by decide +kernel
theorem dX7_leastLifeThatFits_5 : decode cX7_leastLifeThatFits 5 = .ok (.bipush 60, 2) := by decide +kernel
theorem dX7_leastLifeThatFits_7 : decode cX7_leastLifeThatFits 7 = .ok (.if_icmp .gt 26, 3) := by decide +kernel
theorem dX7_leastLifeThatFits_10 : decode cX7_leastLifeThatFits 10 = .ok (.aload_n 0, 1) := by decide +kernel
theorem dX7_leastLifeThatFits_11 : decode cX7_leastLifeThatFits 11 = .ok (.iload_n 1, 1) := by decide +kernel
theorem dX7_leastLifeThatFits_12 : decode cX7_leastLifeThatFits 12 = .ok (.iload 5, 2) := by decide +kernel
theorem dX7_leastLifeThatFits_14 : decode cX7_leastLifeThatFits 14 = .ok (.aload_n 2, 1) := by decide +kernel
theorem dX7_leastLifeThatFits_15 : decode cX7_leastLifeThatFits 15 = .ok (.iload_n 3, 1) := by decide +kernel
theorem dX7_leastLifeThatFits_16 : decode cX7_leastLifeThatFits 16 = .ok (.iload 4, 2) := by decide +kernel
theorem dX7_leastLifeThatFits_18 : decode cX7_leastLifeThatFits 18 = .ok (.invokevirtual 346, 3) := by decide +kernel
theorem dX7_leastLifeThatFits_21 : decode cX7_leastLifeThatFits 21 = .ok (.ifCond .eq 6, 3) := by decide +kernel
theorem dX7_leastLifeThatFits_24 : decode cX7_leastLifeThatFits 24 = .ok (.iload 5, 2) := by decide +kernel
theorem dX7_leastLifeThatFits_26 : decode cX7_leastLifeThatFits 26 = .ok (.ireturn, 1) := by decide +kernel
theorem dX7_leastLifeThatFits_27 : decode cX7_leastLifeThatFits 27 = .ok (.iinc 5 1, 3) := by decide +kernel
theorem dX7_leastLifeThatFits_30 : decode cX7_leastLifeThatFits 30 = .ok (.goto (-27), 3) := by decide +kernel
theorem dX7_leastLifeThatFits_33 : decode cX7_leastLifeThatFits 33 = .ok (.bipush (-4), 2) := by decide +kernel
theorem dX7_leastLifeThatFits_35 : decode cX7_leastLifeThatFits 35 = .ok (.ireturn, 1) := by decide +kernel
theorem dX7_doesLifeFit_0 : decode cX7_doesLifeFit 0 = .ok (.aload_n 0, 1) := by decide +kernel
theorem dX7_doesLifeFit_1 : decode cX7_doesLifeFit 1 = .ok (.getfield 46, 3) := by decide +kernel
theorem dX7_doesLifeFit_4 : decode cX7_doesLifeFit 4 = .ok (.aload_n 0, 1) := by decide +kernel
theorem dX7_doesLifeFit_5 : decode cX7_doesLifeFit 5 = .ok (.getfield 10, 3) := by decide +kernel
theorem dX7_doesLifeFit_8 : decode cX7_doesLifeFit 8 = .ok (.getfield 66, 3) := by decide +kernel
theorem dX7_doesLifeFit_11 : decode cX7_doesLifeFit 11 = .ok (.invokevirtual 152, 3) := by decide +kernel
theorem dX7_doesLifeFit_14 : decode cX7_doesLifeFit 14 = .ok (.aload_n 0, 1) := by decide +kernel
theorem dX7_doesLifeFit_15 : decode cX7_doesLifeFit 15 = .ok (.getfield 39, 3) := by decide +kernel
theorem dX7_doesLifeFit_18 : decode cX7_doesLifeFit 18 = .ok (.aload_n 0, 1) := by decide +kernel
theorem dX7_doesLifeFit_19 : decode cX7_doesLifeFit 19 = .ok (.getfield 10, 3) := by decide +kernel
theorem dX7_doesLifeFit_22 : decode cX7_doesLifeFit 22 = .ok (.getfield 87, 3) := by decide +kernel
theorem dX7_doesLifeFit_25 : decode cX7_doesLifeFit 25 = .ok (.invokevirtual 218, 3) := by decide +kernel
theorem dX7_doesLifeFit_28 : decode cX7_doesLifeFit 28 = .ok (.aload_n 0, 1) := by decide +kernel
theorem dX7_doesLifeFit_29 : decode cX7_doesLifeFit 29 = .ok (.getfield 39, 3) := by decide +kernel
theorem dX7_doesLifeFit_32 : decode cX7_doesLifeFit 32 = .ok (.getfield 120, 3) := by decide +kernel
theorem dX7_doesLifeFit_35 : decode cX7_doesLifeFit 35 = .ok (.iload_n 1, 1) := by decide +kernel
theorem dX7_doesLifeFit_36 : decode cX7_doesLifeFit 36 = .ok (.iload_n 2, 1) := by decide +kernel
theorem dX7_doesLifeFit_37 : decode cX7_doesLifeFit 37 = .ok (.iastore, 1) := by decide +kernel
theorem dX7_doesLifeFit_38 : decode cX7_doesLifeFit 38 = .ok (.aload_n 0, 1) := by decide +kernel
theorem dX7_doesLifeFit_39 : decode cX7_doesLifeFit 39 = .ok (.iload_n 1, 1) := by decide +kernel
theorem dX7_doesLifeFit_40 : decode cX7_doesLifeFit 40 = .ok (.aload_n 3, 1) := by decide +kernel
theorem dX7_doesLifeFit_41 : decode cX7_doesLifeFit 41 = .ok (.iload 4, 2) := by decide +kernel
theorem dX7_doesLifeFit_43 : decode cX7_doesLifeFit 43 = .ok (.iload 5, 2) := by decide +kernel
theorem dX7_doesLifeFit_45 : decode cX7_doesLifeFit 45 = .ok (.invokevirtual 342, 3) := by decide +kernel
theorem dX7_doesLifeFit_48 : decode cX7_doesLifeFit 48 = .ok (.ireturn, 1) := by decide +kernel
theorem dX7_doesFail_0 : decode cX7_doesFail 0 = .ok (.iconst 0, 1) := by decide +kernel
theorem dX7_doesFail_1 : decode cX7_doesFail 1 = .ok (.istore 5, 2) := by decide +kernel
theorem dX7_doesFail_3 : decode cX7_doesFail 3 = .ok (.iload 5, 2) := by decide +kernel
theorem dX7_doesFail_5 : decode cX7_doesFail 5 = .ok (.iload 4, 2) := by decide +kernel
theorem dX7_doesFail_7 : decode cX7_doesFail 7 = .ok (.if_icmp .ge 45, 3) := by decide +kernel
theorem dX7_doesFail_10 : decode cX7_doesFail 10 = .ok (.aload_n 0, 1) := by decide +kernel
theorem dX7_doesFail_11 : decode cX7_doesFail 11 = .ok (.getfield 39, 3) := by decide +kernel
theorem dX7_doesFail_14 : decode cX7_doesFail 14 = .ok (.aload_n 0, 1) := by decide +kernel
theorem dX7_doesFail_15 : decode cX7_doesFail 15 = .ok (.getfield 46, 3) := by decide +kernel
theorem dX7_doesFail_18 : decode cX7_doesFail 18 = .ok (.invokevirtual 212, 3) := by decide +kernel
theorem dX7_doesFail_21 : decode cX7_doesFail 21 = .ok (.aload_n 2, 1) := by decide +kernel
theorem dX7_doesFail_22 : decode cX7_doesFail 22 = .ok (.getfield 309, 3) := by decide +kernel
theorem dX7_doesFail_25 : decode cX7_doesFail 25 = .ok (.iload_n 3, 1) := by decide +kernel
theorem dX7_doesFail_26 : decode cX7_doesFail 26 = .ok (.iload 5, 2) := by decide +kernel
theorem dX7_doesFail_28 : decode cX7_doesFail 28 = .ok (.iadd, 1) := by decide +kernel
theorem dX7_doesFail_29 : decode cX7_doesFail 29 = .ok (.laload, 1) := by decide +kernel
theorem dX7_doesFail_30 : decode cX7_doesFail 30 = .ok (.aload_n 0, 1) := by decide +kernel
theorem dX7_doesFail_31 : decode cX7_doesFail 31 = .ok (.getfield 39, 3) := by decide +kernel
theorem dX7_doesFail_34 : decode cX7_doesFail 34 = .ok (.getfield 120, 3) := by decide +kernel
theorem dX7_doesFail_37 : decode cX7_doesFail 37 = .ok (.iload_n 1, 1) := by decide +kernel
theorem dX7_doesFail_38 : decode cX7_doesFail 38 = .ok (.iaload, 1) := by decide +kernel
theorem dX7_doesFail_39 : decode cX7_doesFail 39 = .ok (.i2l, 1) := by decide +kernel
theorem dX7_doesFail_40 : decode cX7_doesFail 40 = .ok (.lcmp, 1) := by decide +kernel
theorem dX7_doesFail_41 : decode cX7_doesFail 41 = .ok (.ifCond .eq 5, 3) := by decide +kernel
theorem dX7_doesFail_44 : decode cX7_doesFail 44 = .ok (.iconst 0, 1) := by decide +kernel
theorem dX7_doesFail_45 : decode cX7_doesFail 45 = .ok (.ireturn, 1) := by decide +kernel
theorem dX7_doesFail_46 : decode cX7_doesFail 46 = .ok (.iinc 5 1, 3) := by decide +kernel
theorem dX7_doesFail_49 : decode cX7_doesFail 49 = .ok (.goto (-46), 3) := by decide +kernel
theorem dX7_doesFail_52 : decode cX7_doesFail 52 = .ok (.iconst 1, 1) := by decide +kernel
theorem dX7_doesFail_53 : decode cX7_doesFail 53 = .ok (.ireturn, 1) := by decide +kernel
theorem dX7_within_0 : decode cX7_within 0 = .ok (.iload_n 0, 1) := by decide +kernel
theorem dX7_within_1 : decode cX7_within 1 = .ok (.iload_n 1, 1) := by decide +kernel
theorem dX7_within_2 : decode cX7_within 2 = .ok (.if_icmp .lt 12, 3) := by decide +kernel
theorem dX7_within_5 : decode cX7_within 5 = .ok (.iload_n 0, 1) := by decide +kernel
theorem dX7_within_6 : decode cX7_within 6 = .ok (.iload_n 2, 1) := by decide +kernel
theorem dX7_within_7 : decode cX7_within 7 = .ok (.if_icmp .gt 7, 3) := by decide +kernel
theorem dX7_within_10 : decode cX7_within 10 = .ok (.iconst 1, 1) := by decide +kernel
theorem dX7_within_11 : decode cX7_within 11 = .ok (.goto 4, 3) := by decide +kernel
theorem dX7_within_14 : decode cX7_within 14 = .ok (.iconst 0, 1) := by decide +kernel
theorem dX7_within_15 : decode cX7_within 15 = .ok (.ireturn, 1) := by decide +kernel
theorem dX7_isHour_0 : decode cX7_isHour 0 = .ok (.iload_n 0, 1) := by decide +kernel
theorem dX7_isHour_1 : decode cX7_isHour 1 = .ok (.iconst 0, 1) := by decide +kernel
theorem dX7_isHour_2 : decode cX7_isHour 2 = .ok (.iconst 2, 1) := by decide +kernel
theorem dX7_isHour_3 : decode cX7_isHour 3 = .ok (.invokestatic 62, 3) := by decide +kernel
theorem dX7_isHour_6 : decode cX7_isHour 6 = .ok (.ireturn, 1) := by decide +kernel
theorem dX7_isSheet_0 : decode cX7_isSheet 0 = .ok (.iload_n 0, 1) := by decide +kernel
theorem dX7_isSheet_1 : decode cX7_isSheet 1 = .ok (.iconst 0, 1) := by decide +kernel
theorem dX7_isSheet_2 : decode cX7_isSheet 2 = .ok (.iconst 3, 1) := by decide +kernel
theorem dX7_isSheet_3 : decode cX7_isSheet 3 = .ok (.invokestatic 62, 3) := by decide +kernel
theorem dX7_isSheet_6 : decode cX7_isSheet 6 = .ok (.ireturn, 1) := by decide +kernel
theorem dX7_isLane_0 : decode cX7_isLane 0 = .ok (.iload_n 0, 1) := by decide +kernel
theorem dX7_isLane_1 : decode cX7_isLane 1 = .ok (.iconst 0, 1) := by decide +kernel
theorem dX7_isLane_2 : decode cX7_isLane 2 = .ok (.iconst 3, 1) := by decide +kernel
theorem dX7_isLane_3 : decode cX7_isLane 3 = .ok (.invokestatic 62, 3) := by decide +kernel
theorem dX7_isLane_6 : decode cX7_isLane 6 = .ok (.ireturn, 1) := by decide +kernel
theorem dX7_holds_0 : decode cX7_holds 0 = .ok (.iload_n 0, 1) := by decide +kernel
theorem dX7_holds_1 : decode cX7_holds 1 = .ok (.iload_n 1, 1) := by decide +kernel
theorem dX7_holds_2 : decode cX7_holds 2 = .ok (.ishr, 1) := by decide +kernel
theorem dX7_holds_3 : decode cX7_holds 3 = .ok (.iconst 1, 1) := by decide +kernel
theorem dX7_holds_4 : decode cX7_holds 4 = .ok (.iand, 1) := by decide +kernel
theorem dX7_holds_5 : decode cX7_holds 5 = .ok (.iconst 1, 1) := by decide +kernel
theorem dX7_holds_6 : decode cX7_holds 6 = .ok (.if_icmp .ne 7, 3) := by decide +kernel
theorem dX7_holds_9 : decode cX7_holds 9 = .ok (.iconst 1, 1) := by decide +kernel
theorem dX7_holds_10 : decode cX7_holds 10 = .ok (.goto 4, 3) := by decide +kernel
theorem dX7_holds_13 : decode cX7_holds 13 = .ok (.iconst 0, 1) := by decide +kernel
theorem dX7_holds_14 : decode cX7_holds 14 = .ok (.ireturn, 1) := by decide +kernel
theorem dX7_power_0 : decode cX7_power 0 = .ok (.iconst 1, 1) := by decide +kernel
theorem dX7_power_1 : decode cX7_power 1 = .ok (.istore_n 2, 1) := by decide +kernel
theorem dX7_power_2 : decode cX7_power 2 = .ok (.iconst 0, 1) := by decide +kernel
theorem dX7_power_3 : decode cX7_power 3 = .ok (.istore_n 3, 1) := by decide +kernel
theorem dX7_power_4 : decode cX7_power 4 = .ok (.iload_n 3, 1) := by decide +kernel
theorem dX7_power_5 : decode cX7_power 5 = .ok (.iload_n 1, 1) := by decide +kernel
theorem dX7_power_6 : decode cX7_power 6 = .ok (.if_icmp .ge 13, 3) := by decide +kernel
theorem dX7_power_9 : decode cX7_power 9 = .ok (.iload_n 2, 1) := by decide +kernel
theorem dX7_power_10 : decode cX7_power 10 = .ok (.iload_n 0, 1) := by decide +kernel
theorem dX7_power_11 : decode cX7_power 11 = .ok (.imul, 1) := by decide +kernel
theorem dX7_power_12 : decode cX7_power 12 = .ok (.istore_n 2, 1) := by decide +kernel
theorem dX7_power_13 : decode cX7_power 13 = .ok (.iinc 3 1, 3) := by decide +kernel
theorem dX7_power_16 : decode cX7_power 16 = .ok (.goto (-12), 3) := by decide +kernel
theorem dX7_power_19 : decode cX7_power 19 = .ok (.iload_n 2, 1) := by decide +kernel
theorem dX7_power_20 : decode cX7_power 20 = .ok (.ireturn, 1) := by decide +kernel
theorem dX7_commonDivisor_0 : decode cX7_commonDivisor 0 = .ok (.iload_n 0, 1) := by decide +kernel
theorem dX7_commonDivisor_1 : decode cX7_commonDivisor 1 = .ok (.istore_n 2, 1) := by decide +kernel
theorem dX7_commonDivisor_2 : decode cX7_commonDivisor 2 = .ok (.iload_n 1, 1) := by decide +kernel
theorem dX7_commonDivisor_3 : decode cX7_commonDivisor 3 = .ok (.istore_n 3, 1) := by decide +kernel
theorem dX7_commonDivisor_4 : decode cX7_commonDivisor 4 = .ok (.iconst 0, 1) := by decide +kernel
theorem dX7_commonDivisor_5 : decode cX7_commonDivisor 5 = .ok (.istore 4, 2) := by decide +kernel
theorem dX7_commonDivisor_7 : decode cX7_commonDivisor 7 = .ok (.iload 4, 2) := by decide +kernel
theorem dX7_commonDivisor_9 : decode cX7_commonDivisor 9 = .ok (.bipush 100, 2) := by decide +kernel
theorem dX7_commonDivisor_11 : decode cX7_commonDivisor 11 = .ok (.if_icmp .ge 23, 3) := by decide +kernel
theorem dX7_commonDivisor_14 : decode cX7_commonDivisor 14 = .ok (.iload_n 3, 1) := by decide +kernel
theorem dX7_commonDivisor_15 : decode cX7_commonDivisor 15 = .ok (.ifCond .eq 19, 3) := by decide +kernel
theorem dX7_commonDivisor_18 : decode cX7_commonDivisor 18 = .ok (.iload_n 2, 1) := by decide +kernel
theorem dX7_commonDivisor_19 : decode cX7_commonDivisor 19 = .ok (.iload_n 3, 1) := by decide +kernel
theorem dX7_commonDivisor_20 : decode cX7_commonDivisor 20 = .ok (.irem, 1) := by decide +kernel
theorem dX7_commonDivisor_21 : decode cX7_commonDivisor 21 = .ok (.istore 5, 2) := by decide +kernel
theorem dX7_commonDivisor_23 : decode cX7_commonDivisor 23 = .ok (.iload_n 3, 1) := by decide +kernel
theorem dX7_commonDivisor_24 : decode cX7_commonDivisor 24 = .ok (.istore_n 2, 1) := by decide +kernel
theorem dX7_commonDivisor_25 : decode cX7_commonDivisor 25 = .ok (.iload 5, 2) := by decide +kernel
theorem dX7_commonDivisor_27 : decode cX7_commonDivisor 27 = .ok (.istore_n 3, 1) := by decide +kernel
theorem dX7_commonDivisor_28 : decode cX7_commonDivisor 28 = .ok (.iinc 4 1, 3) := by decide +kernel
theorem dX7_commonDivisor_31 : decode cX7_commonDivisor 31 = .ok (.goto (-24), 3) := by decide +kernel
theorem dX7_commonDivisor_34 : decode cX7_commonDivisor 34 = .ok (.iload_n 2, 1) := by decide +kernel
theorem dX7_commonDivisor_35 : decode cX7_commonDivisor 35 = .ok (.ireturn, 1) := by decide +kernel
end
section
theorem dX8_init_0 : decode cX8_init 0 = .ok (.aload_n 0, 1) := by decide +kernel
theorem dX8_init_1 : decode cX8_init 1 = .ok (.invokespecial 1, 3) := by decide +kernel
theorem dX8_init_4 : decode cX8_init 4 = .ok (.aload_n 0, 1) := by decide +kernel
theorem dX8_init_5 : decode cX8_init 5 = .ok (.sipush 161, 3) := by decide +kernel
theorem dX8_init_8 : decode cX8_init 8 = .ok (.newarray .int, 2) := by decide +kernel
theorem dX8_init_10 : decode cX8_init 10 = .ok (.putfield 7, 3) := by decide +kernel
theorem dX8_init_13 : decode cX8_init 13 = .ok (.aload_n 0, 1) := by decide +kernel
theorem dX8_init_14 : decode cX8_init 14 = .ok (.sipush 161, 3) := by decide +kernel
theorem dX8_init_17 : decode cX8_init 17 = .ok (.newarray .int, 2) := by decide +kernel
theorem dX8_init_19 : decode cX8_init 19 = .ok (.putfield 13, 3) := by decide +kernel
theorem dX8_init_22 : decode cX8_init 22 = .ok (.aload_n 0, 1) := by decide +kernel
theorem dX8_init_23 : decode cX8_init 23 = .ok (.bipush 70, 2) := by decide +kernel
theorem dX8_init_25 : decode cX8_init 25 = .ok (.newarray .int, 2) := by decide +kernel
theorem dX8_init_27 : decode cX8_init 27 = .ok (.putfield 16, 3) := by decide +kernel
theorem dX8_init_30 : decode cX8_init 30 = .ok (.aload_n 0, 1) := by decide +kernel
theorem dX8_init_31 : decode cX8_init 31 = .ok (.bipush 40, 2) := by decide +kernel
theorem dX8_init_33 : decode cX8_init 33 = .ok (.newarray .int, 2) := by decide +kernel
theorem dX8_init_35 : decode cX8_init 35 = .ok (.putfield 19, 3) := by decide +kernel
theorem dX8_init_38 : decode cX8_init 38 = .ok (.aload_n 0, 1) := by decide +kernel
theorem dX8_init_39 : decode cX8_init 39 = .ok (.bipush 96, 2) := by decide +kernel
theorem dX8_init_41 : decode cX8_init 41 = .ok (.newarray .long, 2) := by decide +kernel
theorem dX8_init_43 : decode cX8_init 43 = .ok (.putfield 22, 3) := by decide +kernel
theorem dX8_init_46 : decode cX8_init 46 = .ok (.aload_n 0, 1) := by decide +kernel
theorem dX8_init_47 : decode cX8_init 47 = .ok (.bipush 24, 2) := by decide +kernel
theorem dX8_init_49 : decode cX8_init 49 = .ok (.newarray .long, 2) := by decide +kernel
theorem dX8_init_51 : decode cX8_init 51 = .ok (.putfield 26, 3) := by decide +kernel
theorem dX8_init_54 : decode cX8_init 54 = .ok (.aload_n 0, 1) := by decide +kernel
theorem dX8_init_55 : decode cX8_init 55 = .ok (.iconst 4, 1) := by decide +kernel
theorem dX8_init_56 : decode cX8_init 56 = .ok (.newarray .int, 2) := by decide +kernel
theorem dX8_init_58 : decode cX8_init 58 = .ok (.putfield 29, 3) := by decide +kernel
theorem dX8_init_61 : decode cX8_init 61 = .ok (.aload_n 0, 1) := by decide +kernel
theorem dX8_init_62 : decode cX8_init 62 = .ok (.iconst 4, 1) := by decide +kernel
theorem dX8_init_63 : decode cX8_init 63 = .ok (.newarray .int, 2) := by decide +kernel
theorem dX8_init_65 : decode cX8_init 65 = .ok (.putfield 32, 3) := by decide +kernel
theorem dX8_init_68 : decode cX8_init 68 = .ok (.aload_n 0, 1) := by decide +kernel
theorem dX8_init_69 : decode cX8_init 69 = .ok (.bipush 6, 2) := by decide +kernel
theorem dX8_init_71 : decode cX8_init 71 = .ok (.newarray .int, 2) := by decide +kernel
theorem dX8_init_73 : decode cX8_init 73 = .ok (.putfield 35, 3) := by decide +kernel
theorem dX8_init_76 : decode cX8_init 76 = .ok (.aload_n 0, 1) := by decide +kernel
theorem dX8_init_77 : decode cX8_init 77 = .ok (.bipush 40, 2) := by decide +kernel
theorem dX8_init_79 : decode cX8_init 79 = .ok (.newarray .int, 2) := by decide +kernel
theorem dX8_init_81 : decode cX8_init 81 = .ok (.putfield 38, 3) := by decide +kernel
theorem dX8_init_84 : decode cX8_init 84 = .ok (.aload_n 0, 1) := by decide +kernel
theorem dX8_init_85 : decode cX8_init 85 = .ok (.bipush 40, 2) := by decide +kernel
theorem dX8_init_87 : decode cX8_init 87 = .ok (.newarray .int, 2) := by decide +kernel
theorem dX8_init_89 : decode cX8_init 89 = .ok (.putfield 41, 3) := by decide +kernel
theorem dX8_init_92 : decode cX8_init 92 = .ok (.aload_n 0, 1) := by decide +kernel
theorem dX8_init_93 : decode cX8_init 93 = .ok (.getfield 7, 3) := by decide +kernel
theorem dX8_init_96 : decode cX8_init 96 = .ok (.iconst 3, 1) := by decide +kernel
theorem dX8_init_97 : decode cX8_init 97 = .ok (.iconst 1, 1) := by decide +kernel
theorem dX8_init_98 : decode cX8_init 98 = .ok (.iastore, 1) := by decide +kernel
theorem dX8_init_99 : decode cX8_init 99 = .ok (.iconst 0, 1) := by decide +kernel
theorem dX8_init_100 : decode cX8_init 100 = .ok (.istore_n 1, 1) := by decide +kernel
theorem dX8_init_101 : decode cX8_init 101 = .ok (.iload_n 1, 1) := by decide +kernel
theorem dX8_init_102 : decode cX8_init 102 = .ok (.iconst 4, 1) := by decide +kernel
theorem dX8_init_103 : decode cX8_init 103 = .ok (.if_icmp .ge 16, 3) := by decide +kernel
theorem dX8_init_106 : decode cX8_init 106 = .ok (.aload_n 0, 1) := by decide +kernel
theorem dX8_init_107 : decode cX8_init 107 = .ok (.getfield 29, 3) := by decide +kernel
theorem dX8_init_110 : decode cX8_init 110 = .ok (.iload_n 1, 1) := by decide +kernel
theorem dX8_init_111 : decode cX8_init 111 = .ok (.iconst (-1), 1) := by decide +kernel
theorem dX8_init_112 : decode cX8_init 112 = .ok (.iastore, 1) := by decide +kernel
theorem dX8_init_113 : decode cX8_init 113 = .ok (.iinc 1 1, 3) := by decide +kernel
theorem dX8_init_116 : decode cX8_init 116 = .ok (.goto (-15), 3) := by decide +kernel
theorem dX8_init_119 : decode cX8_init 119 = .ok (.return_, 1) := by decide +kernel
theorem dX8_in_0 : decode cX8_in 0 = .ok (.iload_n 0, 1) := by decide +kernel
theorem dX8_in_1 : decode cX8_in 1 = .ok (.iload_n 1, 1) := by decide +kernel
theorem dX8_in_2 : decode cX8_in 2 = .ok (.if_icmp .lt 12, 3) := by decide +kernel
theorem dX8_in_5 : decode cX8_in 5 = .ok (.iload_n 0, 1) := by decide +kernel
theorem dX8_in_6 : decode cX8_in 6 = .ok (.iload_n 2, 1) := by decide +kernel
theorem dX8_in_7 : decode cX8_in 7 = .ok (.if_icmp .gt 7, 3) := by decide +kernel
theorem dX8_in_10 : decode cX8_in 10 = .ok (.iconst 1, 1) := by decide +kernel
theorem dX8_in_11 : decode cX8_in 11 = .ok (.goto 4, 3) := by decide +kernel
theorem dX8_in_14 : decode cX8_in 14 = .ok (.iconst 0, 1) := by decide +kernel
theorem dX8_in_15 : decode cX8_in 15 = .ok (.ireturn, 1) := by decide +kernel
theorem dX8_has_0 : decode cX8_has 0 = .ok (.iload_n 0, 1) := by decide +kernel
theorem dX8_has_1 : decode cX8_has 1 = .ok (.iload_n 1, 1) := by decide +kernel
theorem dX8_has_2 : decode cX8_has 2 = .ok (.ishr, 1) := by decide +kernel
theorem dX8_has_3 : decode cX8_has 3 = .ok (.iconst 1, 1) := by decide +kernel
theorem dX8_has_4 : decode cX8_has 4 = .ok (.iand, 1) := by decide +kernel
theorem dX8_has_5 : decode cX8_has 5 = .ok (.iconst 1, 1) := by decide +kernel
theorem dX8_has_6 : decode cX8_has 6 = .ok (.if_icmp .ne 7, 3) := by decide +kernel
theorem dX8_has_9 : decode cX8_has 9 = .ok (.iconst 1, 1) := by decide +kernel
theorem dX8_has_10 : decode cX8_has 10 = .ok (.goto 4, 3) := by decide +kernel
theorem dX8_has_13 : decode cX8_has 13 = .ok (.iconst 0, 1) := by decide +kernel
theorem dX8_has_14 : decode cX8_has 14 = .ok (.ireturn, 1) := by decide +kernel
theorem dX8_isMan_0 : decode cX8_isMan 0 = .ok (.iload_n 1, 1) := by decide +kernel
theorem dX8_isMan_1 : decode cX8_isMan 1 = .ok (.iconst 0, 1) := by decide +kernel
theorem dX8_isMan_2 : decode cX8_isMan 2 = .ok (.aload_n 0, 1) := by decide +kernel
theorem dX8_isMan_3 : decode cX8_isMan 3 = .ok (.getfield 7, 3) := by decide +kernel
theorem dX8_isMan_6 : decode cX8_isMan 6 = .ok (.iconst 0, 1) := by decide +kernel
theorem dX8_isMan_7 : decode cX8_isMan 7 = .ok (.iaload, 1) := by decide +kernel
theorem dX8_isMan_8 : decode cX8_isMan 8 = .ok (.iconst 1, 1) := by decide +kernel
theorem dX8_isMan_9 : decode cX8_isMan 9 = .ok (.isub, 1) := by decide +kernel
theorem dX8_isMan_10 : decode cX8_isMan 10 = .ok (.invokestatic 44, 3) := by decide +kernel
theorem dX8_isMan_13 : decode cX8_isMan 13 = .ok (.ireturn, 1) := by decide +kernel
theorem dX8_seatOf_0 : decode cX8_seatOf 0 = .ok (.bipush (-4), 2) := by decide +kernel
theorem dX8_seatOf_2 : decode cX8_seatOf 2 = .ok (.istore_n 2, 1) := by decide +kernel
theorem dX8_seatOf_3 : decode cX8_seatOf 3 = .ok (.iconst 0, 1) := by decide +kernel
theorem dX8_seatOf_4 : decode cX8_seatOf 4 = .ok (.istore_n 3, 1) := by decide +kernel
theorem dX8_seatOf_5 : decode cX8_seatOf 5 = .ok (.iload_n 3, 1) := by decide +kernel
theorem dX8_seatOf_6 : decode cX8_seatOf 6 = .ok (.aload_n 0, 1) := by decide +kernel
theorem dX8_seatOf_7 : decode cX8_seatOf 7 = .ok (.getfield 7, 3) := by decide +kernel
theorem dX8_seatOf_10 : decode cX8_seatOf 10 = .ok (.iconst 1, 1) := by decide +kernel
theorem dX8_seatOf_11 : decode cX8_seatOf 11 = .ok (.iaload, 1) := by decide +kernel
theorem dX8_seatOf_12 : decode cX8_seatOf 12 = .ok (.if_icmp .ge 28, 3) := by decide +kernel
theorem dX8_seatOf_15 : decode cX8_seatOf 15 = .ok (.aload_n 0, 1) := by decide +kernel
theorem dX8_seatOf_16 : decode cX8_seatOf 16 = .ok (.getfield 7, 3) := by decide +kernel
theorem dX8_seatOf_19 : decode cX8_seatOf 19 = .ok (.bipush 10, 2) := by decide +kernel
theorem dX8_seatOf_21 : decode cX8_seatOf 21 = .ok (.iload_n 3, 1) := by decide +kernel
theorem dX8_seatOf_22 : decode cX8_seatOf 22 = .ok (.iadd, 1) := by decide +kernel
theorem dX8_seatOf_23 : decode cX8_seatOf 23 = .ok (.iaload, 1) := by decide +kernel
theorem dX8_seatOf_24 : decode cX8_seatOf 24 = .ok (.iload_n 1, 1) := by decide +kernel
theorem dX8_seatOf_25 : decode cX8_seatOf 25 = .ok (.if_icmp .ne 7, 3) := by decide +kernel
theorem dX8_seatOf_28 : decode cX8_seatOf 28 = .ok (.iload_n 3, 1) := by decide +kernel
theorem dX8_seatOf_29 : decode cX8_seatOf 29 = .ok (.goto 4, 3) := by decide +kernel
theorem dX8_seatOf_32 : decode cX8_seatOf 32 = .ok (.iload_n 2, 1) := by decide +kernel
theorem dX8_seatOf_33 : decode cX8_seatOf 33 = .ok (.istore_n 2, 1) := by decide +kernel
theorem dX8_seatOf_34 : decode cX8_seatOf 34 = .ok (.iinc 3 1, 3) := by decide +kernel
theorem dX8_seatOf_37 : decode cX8_seatOf 37 = .ok (.goto (-32), 3) := by decide +kernel
theorem dX8_seatOf_40 : decode cX8_seatOf 40 = .ok (.iload_n 2, 1) := by decide +kernel
theorem dX8_seatOf_41 : decode cX8_seatOf 41 = .ok (.ireturn, 1) := by decide +kernel
theorem dX8_onSeat_0 : decode cX8_onSeat 0 = .ok (.iload_n 1, 1) := by decide +kernel
theorem dX8_onSeat_1 : decode cX8_onSeat 1 = .ok (.iconst 0, 1) := by decide +kernel
theorem dX8_onSeat_2 : decode cX8_onSeat 2 = .ok (.aload_n 0, 1) := by decide +kernel
theorem dX8_onSeat_3 : decode cX8_onSeat 3 = .ok (.getfield 7, 3) := by decide +kernel
theorem dX8_onSeat_6 : decode cX8_onSeat 6 = .ok (.iconst 1, 1) := by decide +kernel
theorem dX8_onSeat_7 : decode cX8_onSeat 7 = .ok (.iaload, 1) := by decide +kernel
theorem dX8_onSeat_8 : decode cX8_onSeat 8 = .ok (.iconst 1, 1) := by decide +kernel
theorem dX8_onSeat_9 : decode cX8_onSeat 9 = .ok (.isub, 1) := by decide +kernel
theorem dX8_onSeat_10 : decode cX8_onSeat 10 = .ok (.invokestatic 44, 3) := by decide +kernel
theorem dX8_onSeat_13 : decode cX8_onSeat 13 = .ok (.ifCond .eq 15, 3) := by decide +kernel
theorem dX8_onSeat_16 : decode cX8_onSeat 16 = .ok (.aload_n 0, 1) := by decide +kernel
theorem dX8_onSeat_17 : decode cX8_onSeat 17 = .ok (.getfield 7, 3) := by decide +kernel
theorem dX8_onSeat_20 : decode cX8_onSeat 20 = .ok (.bipush 10, 2) := by decide +kernel
theorem dX8_onSeat_22 : decode cX8_onSeat 22 = .ok (.iload_n 1, 1) := by decide +kernel
theorem dX8_onSeat_23 : decode cX8_onSeat 23 = .ok (.iadd, 1) := by decide +kernel
theorem dX8_onSeat_24 : decode cX8_onSeat 24 = .ok (.iaload, 1) := by decide +kernel
theorem dX8_onSeat_25 : decode cX8_onSeat 25 = .ok (.goto 5, 3) := by decide +kernel
theorem dX8_onSeat_28 : decode cX8_onSeat 28 = .ok (.bipush (-4), 2) := by decide +kernel
theorem dX8_onSeat_30 : decode cX8_onSeat 30 = .ok (.ireturn, 1) := by decide +kernel
theorem dX8_bench_0 : decode cX8_bench 0 = .ok (.iconst 0, 1) := by decide +kernel
theorem dX8_bench_1 : decode cX8_bench 1 = .ok (.istore_n 1, 1) := by decide +kernel
theorem dX8_bench_2 : decode cX8_bench 2 = .ok (.iconst 0, 1) := by decide +kernel
theorem dX8_bench_3 : decode cX8_bench 3 = .ok (.istore_n 2, 1) := by decide +kernel
theorem dX8_bench_4 : decode cX8_bench 4 = .ok (.iload_n 2, 1) := by decide +kernel
theorem dX8_bench_5 : decode cX8_bench 5 = .ok (.aload_n 0, 1) := by decide +kernel
theorem dX8_bench_6 : decode cX8_bench 6 = .ok (.getfield 7, 3) := by decide +kernel
theorem dX8_bench_9 : decode cX8_bench 9 = .ok (.iconst 1, 1) := by decide +kernel
theorem dX8_bench_10 : decode cX8_bench 10 = .ok (.iaload, 1) := by decide +kernel
theorem dX8_bench_11 : decode cX8_bench 11 = .ok (.if_icmp .ge 23, 3) := by decide +kernel
theorem dX8_bench_14 : decode cX8_bench 14 = .ok (.iload_n 1, 1) := by decide +kernel
theorem dX8_bench_15 : decode cX8_bench 15 = .ok (.iconst 1, 1) := by decide +kernel
theorem dX8_bench_16 : decode cX8_bench 16 = .ok (.aload_n 0, 1) := by decide +kernel
theorem dX8_bench_17 : decode cX8_bench 17 = .ok (.getfield 7, 3) := by decide +kernel
theorem dX8_bench_20 : decode cX8_bench 20 = .ok (.bipush 10, 2) := by decide +kernel
theorem dX8_bench_22 : decode cX8_bench 22 = .ok (.iload_n 2, 1) := by decide +kernel
theorem dX8_bench_23 : decode cX8_bench 23 = .ok (.iadd, 1) := by decide +kernel
theorem dX8_bench_24 : decode cX8_bench 24 = .ok (.iaload, 1) := by decide +kernel
theorem dX8_bench_25 : decode cX8_bench 25 = .ok (.ishl, 1) := by decide +kernel
theorem dX8_bench_26 : decode cX8_bench 26 = .ok (.ior, 1) := by decide +kernel
theorem dX8_bench_27 : decode cX8_bench 27 = .ok (.istore_n 1, 1) := by decide +kernel
theorem dX8_bench_28 : decode cX8_bench 28 = .ok (.iinc 2 1, 3) := by decide +kernel
theorem dX8_bench_31 : decode cX8_bench 31 = .ok (.goto (-27), 3) := by decide +kernel
theorem dX8_bench_34 : decode cX8_bench 34 = .ok (.iload_n 1, 1) := by decide +kernel
theorem dX8_bench_35 : decode cX8_bench 35 = .ok (.ireturn, 1) := by decide +kernel
theorem dX8_isTaken_0 : decode cX8_isTaken 0 = .ok (.iconst 0, 1) := by decide +kernel
theorem dX8_isTaken_1 : decode cX8_isTaken 1 = .ok (.istore_n 3, 1) := by decide +kernel
theorem dX8_isTaken_2 : decode cX8_isTaken 2 = .ok (.iconst 0, 1) := by decide +kernel
theorem dX8_isTaken_3 : decode cX8_isTaken 3 = .ok (.istore 4, 2) := by decide +kernel
theorem dX8_isTaken_5 : decode cX8_isTaken 5 = .ok (.iload 4, 2) := by decide +kernel
theorem dX8_isTaken_7 : decode cX8_isTaken 7 = .ok (.aload_n 0, 1) := by decide +kernel
theorem dX8_isTaken_8 : decode cX8_isTaken 8 = .ok (.getfield 7, 3) := by decide +kernel
theorem dX8_isTaken_11 : decode cX8_isTaken 11 = .ok (.iconst 0, 1) := by decide +kernel
theorem dX8_isTaken_12 : decode cX8_isTaken 12 = .ok (.iaload, 1) := by decide +kernel
theorem dX8_isTaken_13 : decode cX8_isTaken 13 = .ok (.if_icmp .ge 37, 3) := by decide +kernel
theorem dX8_isTaken_16 : decode cX8_isTaken 16 = .ok (.iload_n 3, 1) := by decide +kernel
theorem dX8_isTaken_17 : decode cX8_isTaken 17 = .ok (.ifCond .ne 21, 3) := by decide +kernel
theorem dX8_isTaken_20 : decode cX8_isTaken 20 = .ok (.aload_n 0, 1) := by decide +kernel
theorem dX8_isTaken_21 : decode cX8_isTaken 21 = .ok (.getfield 7, 3) := by decide +kernel
theorem dX8_isTaken_24 : decode cX8_isTaken 24 = .ok (.bipush 22, 2) := by decide +kernel
theorem dX8_isTaken_26 : decode cX8_isTaken 26 = .ok (.iconst 3, 1) := by decide +kernel
theorem dX8_isTaken_27 : decode cX8_isTaken 27 = .ok (.iload 4, 2) := by decide +kernel
theorem dX8_isTaken_29 : decode cX8_isTaken 29 = .ok (.imul, 1) := by decide +kernel
theorem dX8_isTaken_30 : decode cX8_isTaken 30 = .ok (.iadd, 1) := by decide +kernel
theorem dX8_isTaken_31 : decode cX8_isTaken 31 = .ok (.iload_n 1, 1) := by decide +kernel
theorem dX8_isTaken_32 : decode cX8_isTaken 32 = .ok (.iadd, 1) := by decide +kernel
theorem dX8_isTaken_33 : decode cX8_isTaken 33 = .ok (.iaload, 1) := by decide +kernel
theorem dX8_isTaken_34 : decode cX8_isTaken 34 = .ok (.iload_n 2, 1) := by decide +kernel
theorem dX8_isTaken_35 : decode cX8_isTaken 35 = .ok (.if_icmp .ne 7, 3) := by decide +kernel
theorem dX8_isTaken_38 : decode cX8_isTaken 38 = .ok (.iconst 1, 1) := by decide +kernel
theorem dX8_isTaken_39 : decode cX8_isTaken 39 = .ok (.goto 4, 3) := by decide +kernel
theorem dX8_isTaken_42 : decode cX8_isTaken 42 = .ok (.iconst 0, 1) := by decide +kernel
theorem dX8_isTaken_43 : decode cX8_isTaken 43 = .ok (.istore_n 3, 1) := by decide +kernel
theorem dX8_isTaken_44 : decode cX8_isTaken 44 = .ok (.iinc 4 1, 3) := by decide +kernel
theorem dX8_isTaken_47 : decode cX8_isTaken 47 = .ok (.goto (-42), 3) := by decide +kernel
theorem dX8_isTaken_50 : decode cX8_isTaken 50 = .ok (.iload_n 3, 1) := by decide +kernel
theorem dX8_isTaken_51 : decode cX8_isTaken 51 = .ok (.ireturn, 1) := by decide +kernel
theorem dX8_man_0 : decode cX8_man 0 = .ok (.iload_n 1, 1) := by decide +kernel
theorem dX8_man_1 : decode cX8_man 1 = .ok (.iconst 0, 1) := by decide +kernel
theorem dX8_man_2 : decode cX8_man 2 = .ok (.iconst 4, 1) := by decide +kernel
theorem dX8_man_3 : decode cX8_man 3 = .ok (.invokestatic 44, 3) := by decide +kernel
theorem dX8_man_6 : decode cX8_man 6 = .ok (.ifCond .eq 13, 3) := by decide +kernel
theorem dX8_man_9 : decode cX8_man 9 = .ok (.iload_n 2, 1) := by decide +kernel
theorem dX8_man_10 : decode cX8_man 10 = .ok (.iconst 1, 1) := by decide +kernel
theorem dX8_man_11 : decode cX8_man 11 = .ok (.bipush 60, 2) := by decide +kernel
theorem dX8_man_13 : decode cX8_man 13 = .ok (.invokestatic 44, 3) := by decide +kernel
theorem dX8_man_16 : decode cX8_man 16 = .ok (.ifCond .ne 5, 3) := by decide +kernel
theorem dX8_man_19 : decode cX8_man 19 = .ok (.iconst (-1), 1) := by decide +kernel
theorem dX8_man_20 : decode cX8_man 20 = .ok (.ireturn, 1) := by decide +kernel
theorem dX8_man_21 : decode cX8_man 21 = .ok (.aload_n 0, 1) := by decide +kernel
theorem dX8_man_22 : decode cX8_man 22 = .ok (.getfield 7, 3) := by decide +kernel
theorem dX8_man_25 : decode cX8_man 25 = .ok (.iconst 0, 1) := by decide +kernel
theorem dX8_man_26 : decode cX8_man 26 = .ok (.iaload, 1) := by decide +kernel
theorem dX8_man_27 : decode cX8_man 27 = .ok (.istore_n 3, 1) := by decide +kernel
theorem dX8_man_28 : decode cX8_man 28 = .ok (.iload_n 3, 1) := by decide +kernel
theorem dX8_man_29 : decode cX8_man 29 = .ok (.bipush 6, 2) := by decide +kernel
theorem dX8_man_31 : decode cX8_man 31 = .ok (.if_icmp .ne 6, 3) := by decide +kernel
theorem dX8_man_34 : decode cX8_man 34 = .ok (.bipush (-3), 2) := by decide +kernel
theorem dX8_man_36 : decode cX8_man 36 = .ok (.ireturn, 1) := by decide +kernel
theorem dX8_man_37 : decode cX8_man 37 = .ok (.aload_n 0, 1) := by decide +kernel
theorem dX8_man_38 : decode cX8_man 38 = .ok (.iconst 0, 1) := by decide +kernel
theorem dX8_man_39 : decode cX8_man 39 = .ok (.iload_n 3, 1) := by decide +kernel
theorem dX8_man_40 : decode cX8_man 40 = .ok (.invokevirtual 48, 3) := by decide +kernel
theorem dX8_man_43 : decode cX8_man 43 = .ok (.ifCond .ne 21, 3) := by decide +kernel
theorem dX8_man_46 : decode cX8_man 46 = .ok (.aload_n 0, 1) := by decide +kernel
theorem dX8_man_47 : decode cX8_man 47 = .ok (.iconst 1, 1) := by decide +kernel
theorem dX8_man_48 : decode cX8_man 48 = .ok (.iload_n 3, 1) := by decide +kernel
theorem dX8_man_49 : decode cX8_man 49 = .ok (.invokevirtual 48, 3) := by decide +kernel
theorem dX8_man_52 : decode cX8_man 52 = .ok (.ifCond .ne 12, 3) := by decide +kernel
theorem dX8_man_55 : decode cX8_man 55 = .ok (.aload_n 0, 1) := by decide +kernel
theorem dX8_man_56 : decode cX8_man 56 = .ok (.iconst 2, 1) := by decide +kernel
theorem dX8_man_57 : decode cX8_man 57 = .ok (.iload_n 3, 1) := by decide +kernel
theorem dX8_man_58 : decode cX8_man 58 = .ok (.invokevirtual 48, 3) := by decide +kernel
theorem dX8_man_61 : decode cX8_man 61 = .ok (.ifCond .eq 6, 3) := by decide +kernel
theorem dX8_man_64 : decode cX8_man 64 = .ok (.bipush (-2), 2) := by decide +kernel
theorem dX8_man_66 : decode cX8_man 66 = .ok (.ireturn, 1) := by decide +kernel
theorem dX8_man_67 : decode cX8_man 67 = .ok (.aload_n 0, 1) := by decide +kernel
theorem dX8_man_68 : decode cX8_man 68 = .ok (.getfield 7, 3) := by decide +kernel
theorem dX8_man_71 : decode cX8_man 71 = .ok (.bipush 16, 2) := by decide +kernel
theorem dX8_man_73 : decode cX8_man 73 = .ok (.iload_n 3, 1) := by decide +kernel
theorem dX8_man_74 : decode cX8_man 74 = .ok (.iadd, 1) := by decide +kernel
theorem dX8_man_75 : decode cX8_man 75 = .ok (.iload_n 1, 1) := by decide +kernel
theorem dX8_man_76 : decode cX8_man 76 = .ok (.iastore, 1) := by decide +kernel
theorem dX8_man_77 : decode cX8_man 77 = .ok (.aload_n 0, 1) := by decide +kernel
theorem dX8_man_78 : decode cX8_man 78 = .ok (.getfield 7, 3) := by decide +kernel
theorem dX8_man_81 : decode cX8_man 81 = .ok (.iconst 4, 1) := by decide +kernel
theorem dX8_man_82 : decode cX8_man 82 = .ok (.iload_n 3, 1) := by decide +kernel
theorem dX8_man_83 : decode cX8_man 83 = .ok (.iadd, 1) := by decide +kernel
theorem dX8_man_84 : decode cX8_man 84 = .ok (.iload_n 2, 1) := by decide +kernel
theorem dX8_man_85 : decode cX8_man 85 = .ok (.iastore, 1) := by decide +kernel
theorem dX8_man_86 : decode cX8_man 86 = .ok (.iconst 0, 1) := by decide +kernel
theorem dX8_man_87 : decode cX8_man 87 = .ok (.istore 4, 2) := by decide +kernel
theorem dX8_man_89 : decode cX8_man 89 = .ok (.iload 4, 2) := by decide +kernel
theorem dX8_man_91 : decode cX8_man 91 = .ok (.iconst 3, 1) := by decide +kernel
theorem dX8_man_92 : decode cX8_man 92 = .ok (.if_icmp .ge 24, 3) := by decide +kernel
theorem dX8_man_95 : decode cX8_man 95 = .ok (.aload_n 0, 1) := by decide +kernel
theorem dX8_man_96 : decode cX8_man 96 = .ok (.getfield 7, 3) := by decide +kernel
theorem dX8_man_99 : decode cX8_man 99 = .ok (.bipush 22, 2) := by decide +kernel
theorem dX8_man_101 : decode cX8_man 101 = .ok (.iconst 3, 1) := by decide +kernel
theorem dX8_man_102 : decode cX8_man 102 = .ok (.iload_n 3, 1) := by decide +kernel
theorem dX8_man_103 : decode cX8_man 103 = .ok (.imul, 1) := by decide +kernel
theorem dX8_man_104 : decode cX8_man 104 = .ok (.iadd, 1) := by decide +kernel
theorem dX8_man_105 : decode cX8_man 105 = .ok (.iload 4, 2) := by decide +kernel
theorem dX8_man_107 : decode cX8_man 107 = .ok (.iadd, 1) := by decide +kernel
theorem dX8_man_108 : decode cX8_man 108 = .ok (.iload_n 3, 1) := by decide +kernel
theorem dX8_man_109 : decode cX8_man 109 = .ok (.iastore, 1) := by decide +kernel
theorem dX8_man_110 : decode cX8_man 110 = .ok (.iinc 4 1, 3) := by decide +kernel
theorem dX8_man_113 : decode cX8_man 113 = .ok (.goto (-24), 3) := by decide +kernel
theorem dX8_man_116 : decode cX8_man 116 = .ok (.aload_n 0, 1) := by decide +kernel
theorem dX8_man_117 : decode cX8_man 117 = .ok (.getfield 7, 3) := by decide +kernel
theorem dX8_man_120 : decode cX8_man 120 = .ok (.bipush 10, 2) := by decide +kernel
theorem dX8_man_122 : decode cX8_man 122 = .ok (.aload_n 0, 1) := by decide +kernel
theorem dX8_man_123 : decode cX8_man 123 = .ok (.getfield 7, 3) := by decide +kernel
theorem dX8_man_126 : decode cX8_man 126 = .ok (.iconst 1, 1) := by decide +kernel
theorem dX8_man_127 : decode cX8_man 127 = .ok (.iaload, 1) := by decide +kernel
theorem dX8_man_128 : decode cX8_man 128 = .ok (.iadd, 1) := by decide +kernel
theorem dX8_man_129 : decode cX8_man 129 = .ok (.iload_n 3, 1) := by decide +kernel
theorem dX8_man_130 : decode cX8_man 130 = .ok (.iastore, 1) := by decide +kernel
theorem dX8_man_131 : decode cX8_man 131 = .ok (.aload_n 0, 1) := by decide +kernel
theorem dX8_man_132 : decode cX8_man 132 = .ok (.getfield 7, 3) := by decide +kernel
theorem dX8_man_135 : decode cX8_man 135 = .ok (.iconst 1, 1) := by decide +kernel
theorem dX8_man_136 : decode cX8_man 136 = .ok (.dup2, 1) := by decide +kernel
theorem dX8_man_137 : decode cX8_man 137 = .ok (.iaload, 1) := by decide +kernel
theorem dX8_man_138 : decode cX8_man 138 = .ok (.iconst 1, 1) := by decide +kernel
theorem dX8_man_139 : decode cX8_man 139 = .ok (.iadd, 1) := by decide +kernel
theorem dX8_man_140 : decode cX8_man 140 = .ok (.iastore, 1) := by decide +kernel
theorem dX8_man_141 : decode cX8_man 141 = .ok (.aload_n 0, 1) := by decide +kernel
theorem dX8_man_142 : decode cX8_man 142 = .ok (.getfield 7, 3) := by decide +kernel
theorem dX8_man_145 : decode cX8_man 145 = .ok (.iconst 0, 1) := by decide +kernel
theorem dX8_man_146 : decode cX8_man 146 = .ok (.dup2, 1) := by decide +kernel
theorem dX8_man_147 : decode cX8_man 147 = .ok (.iaload, 1) := by decide +kernel
theorem dX8_man_148 : decode cX8_man 148 = .ok (.iconst 1, 1) := by decide +kernel
theorem dX8_man_149 : decode cX8_man 149 = .ok (.iadd, 1) := by decide +kernel
theorem dX8_man_150 : decode cX8_man 150 = .ok (.iastore, 1) := by decide +kernel
theorem dX8_man_151 : decode cX8_man 151 = .ok (.aload_n 0, 1) := by decide +kernel
theorem dX8_man_152 : decode cX8_man 152 = .ok (.getfield 7, 3) := by decide +kernel
theorem dX8_man_155 : decode cX8_man 155 = .ok (.bipush 40, 2) := by decide +kernel
theorem dX8_man_157 : decode cX8_man 157 = .ok (.iconst 0, 1) := by decide +kernel
theorem dX8_man_158 : decode cX8_man 158 = .ok (.iastore, 1) := by decide +kernel
theorem dX8_man_159 : decode cX8_man 159 = .ok (.iload_n 3, 1) := by decide +kernel
theorem dX8_man_160 : decode cX8_man 160 = .ok (.ireturn, 1) := by decide +kernel
theorem dX8_stood_0 : decode cX8_stood 0 = .ok (.aload_n 0, 1) := by decide +kernel
theorem dX8_stood_1 : decode cX8_stood 1 = .ok (.iload_n 1, 1) := by decide +kernel
theorem dX8_stood_2 : decode cX8_stood 2 = .ok (.invokevirtual 52, 3) := by decide +kernel
theorem dX8_stood_5 : decode cX8_stood 5 = .ok (.ifCond .eq 22, 3) := by decide +kernel
theorem dX8_stood_8 : decode cX8_stood 8 = .ok (.iload_n 2, 1) := by decide +kernel
theorem dX8_stood_9 : decode cX8_stood 9 = .ok (.iconst 0, 1) := by decide +kernel
theorem dX8_stood_10 : decode cX8_stood 10 = .ok (.iconst 2, 1) := by decide +kernel
theorem dX8_stood_11 : decode cX8_stood 11 = .ok (.invokestatic 44, 3) := by decide +kernel
theorem dX8_stood_14 : decode cX8_stood 14 = .ok (.ifCond .eq 13, 3) := by decide +kernel
theorem dX8_stood_17 : decode cX8_stood 17 = .ok (.iload_n 3, 1) := by decide +kernel
theorem dX8_stood_18 : decode cX8_stood 18 = .ok (.iconst 0, 1) := by decide +kernel
theorem dX8_stood_19 : decode cX8_stood 19 = .ok (.bipush 9, 2) := by decide +kernel
theorem dX8_stood_21 : decode cX8_stood 21 = .ok (.invokestatic 44, 3) := by decide +kernel
theorem dX8_stood_24 : decode cX8_stood 24 = .ok (.ifCond .ne 5, 3) := by decide +kernel
theorem dX8_stood_27 : decode cX8_stood 27 = .ok (.iconst (-1), 1) := by decide +kernel
theorem dX8_stood_28 : decode cX8_stood 28 = .ok (.ireturn, 1) := by decide +kernel
theorem dX8_stood_29 : decode cX8_stood 29 = .ok (.aload_n 0, 1) := by decide +kernel
theorem dX8_stood_30 : decode cX8_stood 30 = .ok (.iload_n 2, 1) := by decide +kernel
theorem dX8_stood_31 : decode cX8_stood 31 = .ok (.iload_n 3, 1) := by decide +kernel
theorem dX8_stood_32 : decode cX8_stood 32 = .ok (.invokevirtual 48, 3) := by decide +kernel
theorem dX8_stood_35 : decode cX8_stood 35 = .ok (.ifCond .eq 6, 3) := by decide +kernel
theorem dX8_stood_38 : decode cX8_stood 38 = .ok (.bipush (-2), 2) := by decide +kernel
theorem dX8_stood_40 : decode cX8_stood 40 = .ok (.ireturn, 1) := by decide +kernel
theorem dX8_stood_41 : decode cX8_stood 41 = .ok (.aload_n 0, 1) := by decide +kernel
theorem dX8_stood_42 : decode cX8_stood 42 = .ok (.getfield 7, 3) := by decide +kernel
theorem dX8_stood_45 : decode cX8_stood 45 = .ok (.bipush 22, 2) := by decide +kernel
theorem dX8_stood_47 : decode cX8_stood 47 = .ok (.iconst 3, 1) := by decide +kernel
theorem dX8_stood_48 : decode cX8_stood 48 = .ok (.iload_n 1, 1) := by decide +kernel
theorem dX8_stood_49 : decode cX8_stood 49 = .ok (.imul, 1) := by decide +kernel
theorem dX8_stood_50 : decode cX8_stood 50 = .ok (.iadd, 1) := by decide +kernel
theorem dX8_stood_51 : decode cX8_stood 51 = .ok (.iload_n 2, 1) := by decide +kernel
theorem dX8_stood_52 : decode cX8_stood 52 = .ok (.iadd, 1) := by decide +kernel
theorem dX8_stood_53 : decode cX8_stood 53 = .ok (.iaload, 1) := by decide +kernel
theorem dX8_stood_54 : decode cX8_stood 54 = .ok (.istore 4, 2) := by decide +kernel
theorem dX8_stood_56 : decode cX8_stood 56 = .ok (.aload_n 0, 1) := by decide +kernel
theorem dX8_stood_57 : decode cX8_stood 57 = .ok (.getfield 7, 3) := by decide +kernel
theorem dX8_stood_60 : decode cX8_stood 60 = .ok (.bipush 22, 2) := by decide +kernel
theorem dX8_stood_62 : decode cX8_stood 62 = .ok (.iconst 3, 1) := by decide +kernel
theorem dX8_stood_63 : decode cX8_stood 63 = .ok (.iload_n 1, 1) := by decide +kernel
theorem dX8_stood_64 : decode cX8_stood 64 = .ok (.imul, 1) := by decide +kernel
theorem dX8_stood_65 : decode cX8_stood 65 = .ok (.iadd, 1) := by decide +kernel
theorem dX8_stood_66 : decode cX8_stood 66 = .ok (.iload_n 2, 1) := by decide +kernel
theorem dX8_stood_67 : decode cX8_stood 67 = .ok (.iadd, 1) := by decide +kernel
theorem dX8_stood_68 : decode cX8_stood 68 = .ok (.iload_n 3, 1) := by decide +kernel
theorem dX8_stood_69 : decode cX8_stood 69 = .ok (.iastore, 1) := by decide +kernel
theorem dX8_stood_70 : decode cX8_stood 70 = .ok (.iload 4, 2) := by decide +kernel
theorem dX8_stood_72 : decode cX8_stood 72 = .ok (.ireturn, 1) := by decide +kernel
theorem dX8_stoodBy_0 : decode cX8_stoodBy 0 = .ok (.iconst 0, 1) := by decide +kernel
theorem dX8_stoodBy_1 : decode cX8_stoodBy 1 = .ok (.istore_n 3, 1) := by decide +kernel
theorem dX8_stoodBy_2 : decode cX8_stoodBy 2 = .ok (.iconst 0, 1) := by decide +kernel
theorem dX8_stoodBy_3 : decode cX8_stoodBy 3 = .ok (.istore 4, 2) := by decide +kernel
theorem dX8_stoodBy_5 : decode cX8_stoodBy 5 = .ok (.iload 4, 2) := by decide +kernel
theorem dX8_stoodBy_7 : decode cX8_stoodBy 7 = .ok (.iconst 3, 1) := by decide +kernel
theorem dX8_stoodBy_8 : decode cX8_stoodBy 8 = .ok (.if_icmp .ge 136, 3) := by decide +kernel
theorem dX8_stoodBy_11 : decode cX8_stoodBy 11 = .ok (.aload_n 0, 1) := by decide +kernel
theorem dX8_stoodBy_12 : decode cX8_stoodBy 12 = .ok (.getfield 7, 3) := by decide +kernel
theorem dX8_stoodBy_15 : decode cX8_stoodBy 15 = .ok (.bipush 22, 2) := by decide +kernel
theorem dX8_stoodBy_17 : decode cX8_stoodBy 17 = .ok (.iconst 3, 1) := by decide +kernel
theorem dX8_stoodBy_18 : decode cX8_stoodBy 18 = .ok (.iload_n 1, 1) := by decide +kernel
theorem dX8_stoodBy_19 : decode cX8_stoodBy 19 = .ok (.imul, 1) := by decide +kernel
theorem dX8_stoodBy_20 : decode cX8_stoodBy 20 = .ok (.iadd, 1) := by decide +kernel
theorem dX8_stoodBy_21 : decode cX8_stoodBy 21 = .ok (.iload 4, 2) := by decide +kernel
theorem dX8_stoodBy_23 : decode cX8_stoodBy 23 = .ok (.iadd, 1) := by decide +kernel
theorem dX8_stoodBy_24 : decode cX8_stoodBy 24 = .ok (.iaload, 1) := by decide +kernel
theorem dX8_stoodBy_25 : decode cX8_stoodBy 25 = .ok (.istore 5, 2) := by decide +kernel
theorem dX8_stoodBy_27 : decode cX8_stoodBy 27 = .ok (.aload_n 0, 1) := by decide +kernel
theorem dX8_stoodBy_28 : decode cX8_stoodBy 28 = .ok (.getfield 7, 3) := by decide +kernel
theorem dX8_stoodBy_31 : decode cX8_stoodBy 31 = .ok (.bipush 22, 2) := by decide +kernel
theorem dX8_stoodBy_33 : decode cX8_stoodBy 33 = .ok (.iconst 3, 1) := by decide +kernel
theorem dX8_stoodBy_34 : decode cX8_stoodBy 34 = .ok (.iload_n 2, 1) := by decide +kernel
theorem dX8_stoodBy_35 : decode cX8_stoodBy 35 = .ok (.imul, 1) := by decide +kernel
theorem dX8_stoodBy_36 : decode cX8_stoodBy 36 = .ok (.iadd, 1) := by decide +kernel
theorem dX8_stoodBy_37 : decode cX8_stoodBy 37 = .ok (.iload 4, 2) := by decide +kernel
theorem dX8_stoodBy_39 : decode cX8_stoodBy 39 = .ok (.iadd, 1) := by decide +kernel
theorem dX8_stoodBy_40 : decode cX8_stoodBy 40 = .ok (.iaload, 1) := by decide +kernel
theorem dX8_stoodBy_41 : decode cX8_stoodBy 41 = .ok (.istore 6, 2) := by decide +kernel
theorem dX8_stoodBy_43 : decode cX8_stoodBy 43 = .ok (.iconst 1, 1) := by decide +kernel
theorem dX8_stoodBy_44 : decode cX8_stoodBy 44 = .ok (.istore 7, 2) := by decide +kernel
theorem dX8_stoodBy_46 : decode cX8_stoodBy 46 = .ok (.iconst 0, 1) := by decide +kernel
theorem dX8_stoodBy_47 : decode cX8_stoodBy 47 = .ok (.istore 8, 2) := by decide +kernel
theorem dX8_stoodBy_49 : decode cX8_stoodBy 49 = .ok (.iload 8, 2) := by decide +kernel
theorem dX8_stoodBy_51 : decode cX8_stoodBy 51 = .ok (.aload_n 0, 1) := by decide +kernel
theorem dX8_stoodBy_52 : decode cX8_stoodBy 52 = .ok (.getfield 7, 3) := by decide +kernel
theorem dX8_stoodBy_55 : decode cX8_stoodBy 55 = .ok (.iconst 0, 1) := by decide +kernel
theorem dX8_stoodBy_56 : decode cX8_stoodBy 56 = .ok (.iaload, 1) := by decide +kernel
theorem dX8_stoodBy_57 : decode cX8_stoodBy 57 = .ok (.if_icmp .ge 66, 3) := by decide +kernel
theorem dX8_stoodBy_60 : decode cX8_stoodBy 60 = .ok (.aload_n 0, 1) := by decide +kernel
theorem dX8_stoodBy_61 : decode cX8_stoodBy 61 = .ok (.getfield 7, 3) := by decide +kernel
theorem dX8_stoodBy_64 : decode cX8_stoodBy 64 = .ok (.bipush 22, 2) := by decide +kernel
theorem dX8_stoodBy_66 : decode cX8_stoodBy 66 = .ok (.iconst 3, 1) := by decide +kernel
theorem dX8_stoodBy_67 : decode cX8_stoodBy 67 = .ok (.iload 8, 2) := by decide +kernel
theorem dX8_stoodBy_69 : decode cX8_stoodBy 69 = .ok (.imul, 1) := by decide +kernel
theorem dX8_stoodBy_70 : decode cX8_stoodBy 70 = .ok (.iadd, 1) := by decide +kernel
theorem dX8_stoodBy_71 : decode cX8_stoodBy 71 = .ok (.iload 4, 2) := by decide +kernel
theorem dX8_stoodBy_73 : decode cX8_stoodBy 73 = .ok (.iadd, 1) := by decide +kernel
theorem dX8_stoodBy_74 : decode cX8_stoodBy 74 = .ok (.iaload, 1) := by decide +kernel
theorem dX8_stoodBy_75 : decode cX8_stoodBy 75 = .ok (.istore 9, 2) := by decide +kernel
theorem dX8_stoodBy_77 : decode cX8_stoodBy 77 = .ok (.iload 7, 2) := by decide +kernel
theorem dX8_stoodBy_79 : decode cX8_stoodBy 79 = .ok (.ifCond .eq 35, 3) := by decide +kernel
theorem dX8_stoodBy_82 : decode cX8_stoodBy 82 = .ok (.iload 9, 2) := by decide +kernel
theorem dX8_stoodBy_84 : decode cX8_stoodBy 84 = .ok (.iload 5, 2) := by decide +kernel
theorem dX8_stoodBy_86 : decode cX8_stoodBy 86 = .ok (.if_icmp .le 10, 3) := by decide +kernel
theorem dX8_stoodBy_89 : decode cX8_stoodBy 89 = .ok (.iload 9, 2) := by decide +kernel
theorem dX8_stoodBy_91 : decode cX8_stoodBy 91 = .ok (.iload 6, 2) := by decide +kernel
theorem dX8_stoodBy_93 : decode cX8_stoodBy 93 = .ok (.if_icmp .lt 21, 3) := by decide +kernel
theorem dX8_stoodBy_96 : decode cX8_stoodBy 96 = .ok (.iload 9, 2) := by decide +kernel
theorem dX8_stoodBy_98 : decode cX8_stoodBy 98 = .ok (.iload 6, 2) := by decide +kernel
theorem dX8_stoodBy_100 : decode cX8_stoodBy 100 = .ok (.if_icmp .le 10, 3) := by decide +kernel
theorem dX8_stoodBy_103 : decode cX8_stoodBy 103 = .ok (.iload 9, 2) := by decide +kernel
theorem dX8_stoodBy_105 : decode cX8_stoodBy 105 = .ok (.iload 5, 2) := by decide +kernel
theorem dX8_stoodBy_107 : decode cX8_stoodBy 107 = .ok (.if_icmp .lt 7, 3) := by decide +kernel
theorem dX8_stoodBy_110 : decode cX8_stoodBy 110 = .ok (.iconst 1, 1) := by decide +kernel
theorem dX8_stoodBy_111 : decode cX8_stoodBy 111 = .ok (.goto 4, 3) := by decide +kernel
theorem dX8_stoodBy_114 : decode cX8_stoodBy 114 = .ok (.iconst 0, 1) := by decide +kernel
theorem dX8_stoodBy_115 : decode cX8_stoodBy 115 = .ok (.istore 7, 2) := by decide +kernel
theorem dX8_stoodBy_117 : decode cX8_stoodBy 117 = .ok (.iinc 8 1, 3) := by decide +kernel
theorem dX8_stoodBy_120 : decode cX8_stoodBy 120 = .ok (.goto (-71), 3) := by decide +kernel
theorem dX8_stoodBy_123 : decode cX8_stoodBy 123 = .ok (.iload_n 3, 1) := by decide +kernel
theorem dX8_stoodBy_124 : decode cX8_stoodBy 124 = .ok (.ifCond .ne 8, 3) := by decide +kernel
theorem dX8_stoodBy_127 : decode cX8_stoodBy 127 = .ok (.iload 7, 2) := by decide +kernel
theorem dX8_stoodBy_129 : decode cX8_stoodBy 129 = .ok (.ifCond .eq 7, 3) := by decide +kernel
theorem dX8_stoodBy_132 : decode cX8_stoodBy 132 = .ok (.iconst 1, 1) := by decide +kernel
theorem dX8_stoodBy_133 : decode cX8_stoodBy 133 = .ok (.goto 4, 3) := by decide +kernel
theorem dX8_stoodBy_136 : decode cX8_stoodBy 136 = .ok (.iconst 0, 1) := by decide +kernel
theorem dX8_stoodBy_137 : decode cX8_stoodBy 137 = .ok (.istore_n 3, 1) := by decide +kernel
theorem dX8_stoodBy_138 : decode cX8_stoodBy 138 = .ok (.iinc 4 1, 3) := by decide +kernel
theorem dX8_stoodBy_141 : decode cX8_stoodBy 141 = .ok (.goto (-136), 3) := by decide +kernel
theorem dX8_stoodBy_144 : decode cX8_stoodBy 144 = .ok (.iload_n 3, 1) := by decide +kernel
theorem dX8_stoodBy_145 : decode cX8_stoodBy 145 = .ok (.ireturn, 1) := by decide +kernel
theorem dX8_allStoodBy_0 : decode cX8_allStoodBy 0 = .ok (.iconst 0, 1) := by decide +kernel
theorem dX8_allStoodBy_1 : decode cX8_allStoodBy 1 = .ok (.istore_n 2, 1) := by decide +kernel
theorem dX8_allStoodBy_2 : decode cX8_allStoodBy 2 = .ok (.iconst 0, 1) := by decide +kernel
theorem dX8_allStoodBy_3 : decode cX8_allStoodBy 3 = .ok (.istore_n 3, 1) := by decide +kernel
theorem dX8_allStoodBy_4 : decode cX8_allStoodBy 4 = .ok (.iload_n 3, 1) := by decide +kernel
theorem dX8_allStoodBy_5 : decode cX8_allStoodBy 5 = .ok (.aload_n 0, 1) := by decide +kernel
theorem dX8_allStoodBy_6 : decode cX8_allStoodBy 6 = .ok (.getfield 7, 3) := by decide +kernel
theorem dX8_allStoodBy_9 : decode cX8_allStoodBy 9 = .ok (.iconst 0, 1) := by decide +kernel
theorem dX8_allStoodBy_10 : decode cX8_allStoodBy 10 = .ok (.iaload, 1) := by decide +kernel
theorem dX8_allStoodBy_11 : decode cX8_allStoodBy 11 = .ok (.if_icmp .ge 33, 3) := by decide +kernel
theorem dX8_allStoodBy_14 : decode cX8_allStoodBy 14 = .ok (.iload_n 2, 1) := by decide +kernel
theorem dX8_allStoodBy_15 : decode cX8_allStoodBy 15 = .ok (.iload_n 3, 1) := by decide +kernel
theorem dX8_allStoodBy_16 : decode cX8_allStoodBy 16 = .ok (.iload_n 1, 1) := by decide +kernel
theorem dX8_allStoodBy_17 : decode cX8_allStoodBy 17 = .ok (.if_icmp .eq 18, 3) := by decide +kernel
theorem dX8_allStoodBy_20 : decode cX8_allStoodBy 20 = .ok (.aload_n 0, 1) := by decide +kernel
theorem dX8_allStoodBy_21 : decode cX8_allStoodBy 21 = .ok (.iload_n 1, 1) := by decide +kernel
theorem dX8_allStoodBy_22 : decode cX8_allStoodBy 22 = .ok (.iload_n 3, 1) := by decide +kernel
theorem dX8_allStoodBy_23 : decode cX8_allStoodBy 23 = .ok (.invokevirtual 56, 3) := by decide +kernel
theorem dX8_allStoodBy_26 : decode cX8_allStoodBy 26 = .ok (.ifCond .eq 9, 3) := by decide +kernel
theorem dX8_allStoodBy_29 : decode cX8_allStoodBy 29 = .ok (.iconst 1, 1) := by decide +kernel
theorem dX8_allStoodBy_30 : decode cX8_allStoodBy 30 = .ok (.iload_n 3, 1) := by decide +kernel
theorem dX8_allStoodBy_31 : decode cX8_allStoodBy 31 = .ok (.ishl, 1) := by decide +kernel
theorem dX8_allStoodBy_32 : decode cX8_allStoodBy 32 = .ok (.goto 4, 3) := by decide +kernel
theorem dX8_allStoodBy_35 : decode cX8_allStoodBy 35 = .ok (.iconst 0, 1) := by decide +kernel
theorem dX8_allStoodBy_36 : decode cX8_allStoodBy 36 = .ok (.ior, 1) := by decide +kernel
theorem dX8_allStoodBy_37 : decode cX8_allStoodBy 37 = .ok (.istore_n 2, 1) := by decide +kernel
theorem dX8_allStoodBy_38 : decode cX8_allStoodBy 38 = .ok (.iinc 3 1, 3) := by decide +kernel
theorem dX8_allStoodBy_41 : decode cX8_allStoodBy 41 = .ok (.goto (-37), 3) := by decide +kernel
theorem dX8_allStoodBy_44 : decode cX8_allStoodBy 44 = .ok (.iload_n 2, 1) := by decide +kernel
theorem dX8_allStoodBy_45 : decode cX8_allStoodBy 45 = .ok (.ireturn, 1) := by decide +kernel
theorem dX8_allSitBy_0 : decode cX8_allSitBy 0 = .ok (.aload_n 0, 1) := by decide +kernel
theorem dX8_allSitBy_1 : decode cX8_allSitBy 1 = .ok (.iload_n 1, 1) := by decide +kernel
theorem dX8_allSitBy_2 : decode cX8_allSitBy 2 = .ok (.invokevirtual 59, 3) := by decide +kernel
theorem dX8_allSitBy_5 : decode cX8_allSitBy 5 = .ok (.istore_n 2, 1) := by decide +kernel
theorem dX8_allSitBy_6 : decode cX8_allSitBy 6 = .ok (.iload_n 2, 1) := by decide +kernel
theorem dX8_allSitBy_7 : decode cX8_allSitBy 7 = .ok (.bipush (-4), 2) := by decide +kernel
theorem dX8_allSitBy_9 : decode cX8_allSitBy 9 = .ok (.if_icmp .ne 5, 3) := by decide +kernel
theorem dX8_allSitBy_12 : decode cX8_allSitBy 12 = .ok (.iconst 0, 1) := by decide +kernel
theorem dX8_allSitBy_13 : decode cX8_allSitBy 13 = .ok (.ireturn, 1) := by decide +kernel
theorem dX8_allSitBy_14 : decode cX8_allSitBy 14 = .ok (.aload_n 0, 1) := by decide +kernel
theorem dX8_allSitBy_15 : decode cX8_allSitBy 15 = .ok (.iload_n 2, 1) := by decide +kernel
theorem dX8_allSitBy_16 : decode cX8_allSitBy 16 = .ok (.iconst 1, 1) := by decide +kernel
theorem dX8_allSitBy_17 : decode cX8_allSitBy 17 = .ok (.isub, 1) := by decide +kernel
theorem dX8_allSitBy_18 : decode cX8_allSitBy 18 = .ok (.invokevirtual 63, 3) := by decide +kernel
theorem dX8_allSitBy_21 : decode cX8_allSitBy 21 = .ok (.istore_n 3, 1) := by decide +kernel
theorem dX8_allSitBy_22 : decode cX8_allSitBy 22 = .ok (.aload_n 0, 1) := by decide +kernel
theorem dX8_allSitBy_23 : decode cX8_allSitBy 23 = .ok (.iload_n 2, 1) := by decide +kernel
theorem dX8_allSitBy_24 : decode cX8_allSitBy 24 = .ok (.iconst 1, 1) := by decide +kernel
theorem dX8_allSitBy_25 : decode cX8_allSitBy 25 = .ok (.iadd, 1) := by decide +kernel
theorem dX8_allSitBy_26 : decode cX8_allSitBy 26 = .ok (.invokevirtual 63, 3) := by decide +kernel
theorem dX8_allSitBy_29 : decode cX8_allSitBy 29 = .ok (.istore 4, 2) := by decide +kernel
theorem dX8_allSitBy_31 : decode cX8_allSitBy 31 = .ok (.iload_n 3, 1) := by decide +kernel
theorem dX8_allSitBy_32 : decode cX8_allSitBy 32 = .ok (.bipush (-4), 2) := by decide +kernel
theorem dX8_allSitBy_34 : decode cX8_allSitBy 34 = .ok (.if_icmp .ne 7, 3) := by decide +kernel
theorem dX8_allSitBy_37 : decode cX8_allSitBy 37 = .ok (.iconst 0, 1) := by decide +kernel
theorem dX8_allSitBy_38 : decode cX8_allSitBy 38 = .ok (.goto 6, 3) := by decide +kernel
theorem dX8_allSitBy_41 : decode cX8_allSitBy 41 = .ok (.iconst 1, 1) := by decide +kernel
theorem dX8_allSitBy_42 : decode cX8_allSitBy 42 = .ok (.iload_n 3, 1) := by decide +kernel
theorem dX8_allSitBy_43 : decode cX8_allSitBy 43 = .ok (.ishl, 1) := by decide +kernel
theorem dX8_allSitBy_44 : decode cX8_allSitBy 44 = .ok (.iload 4, 2) := by decide +kernel
theorem dX8_allSitBy_46 : decode cX8_allSitBy 46 = .ok (.bipush (-4), 2) := by decide +kernel
theorem dX8_allSitBy_48 : decode cX8_allSitBy 48 = .ok (.if_icmp .ne 7, 3) := by decide +kernel
theorem dX8_allSitBy_51 : decode cX8_allSitBy 51 = .ok (.iconst 0, 1) := by decide +kernel
theorem dX8_allSitBy_52 : decode cX8_allSitBy 52 = .ok (.goto 7, 3) := by decide +kernel
theorem dX8_allSitBy_55 : decode cX8_allSitBy 55 = .ok (.iconst 1, 1) := by decide +kernel
theorem dX8_allSitBy_56 : decode cX8_allSitBy 56 = .ok (.iload 4, 2) := by decide +kernel
theorem dX8_allSitBy_58 : decode cX8_allSitBy 58 = .ok (.ishl, 1) := by decide +kernel
theorem dX8_allSitBy_59 : decode cX8_allSitBy 59 = .ok (.ior, 1) := by decide +kernel
theorem dX8_allSitBy_60 : decode cX8_allSitBy 60 = .ok (.ireturn, 1) := by decide +kernel
theorem dX8_ones_0 : decode cX8_ones 0 = .ok (.iconst 0, 1) := by decide +kernel
theorem dX8_ones_1 : decode cX8_ones 1 = .ok (.istore_n 1, 1) := by decide +kernel
theorem dX8_ones_2 : decode cX8_ones 2 = .ok (.iconst 0, 1) := by decide +kernel
theorem dX8_ones_3 : decode cX8_ones 3 = .ok (.istore_n 2, 1) := by decide +kernel
theorem dX8_ones_4 : decode cX8_ones 4 = .ok (.iload_n 2, 1) := by decide +kernel
theorem dX8_ones_5 : decode cX8_ones 5 = .ok (.bipush 6, 2) := by decide +kernel
theorem dX8_ones_7 : decode cX8_ones 7 = .ok (.if_icmp .ge 17, 3) := by decide +kernel
theorem dX8_ones_10 : decode cX8_ones 10 = .ok (.iload_n 1, 1) := by decide +kernel
theorem dX8_ones_11 : decode cX8_ones 11 = .ok (.iload_n 0, 1) := by decide +kernel
theorem dX8_ones_12 : decode cX8_ones 12 = .ok (.iload_n 2, 1) := by decide +kernel
theorem dX8_ones_13 : decode cX8_ones 13 = .ok (.ishr, 1) := by decide +kernel
theorem dX8_ones_14 : decode cX8_ones 14 = .ok (.iconst 1, 1) := by decide +kernel
theorem dX8_ones_15 : decode cX8_ones 15 = .ok (.iand, 1) := by decide +kernel
theorem dX8_ones_16 : decode cX8_ones 16 = .ok (.iadd, 1) := by decide +kernel
theorem dX8_ones_17 : decode cX8_ones 17 = .ok (.istore_n 1, 1) := by decide +kernel
theorem dX8_ones_18 : decode cX8_ones 18 = .ok (.iinc 2 1, 3) := by decide +kernel
theorem dX8_ones_21 : decode cX8_ones 21 = .ok (.goto (-17), 3) := by decide +kernel
theorem dX8_ones_24 : decode cX8_ones 24 = .ok (.iload_n 1, 1) := by decide +kernel
theorem dX8_ones_25 : decode cX8_ones 25 = .ok (.ireturn, 1) := by decide +kernel
theorem dX8_fails_0 : decode cX8_fails 0 = .ok (.aload_n 0, 1) := by decide +kernel
theorem dX8_fails_1 : decode cX8_fails 1 = .ok (.getfield 7, 3) := by decide +kernel
theorem dX8_fails_4 : decode cX8_fails 4 = .ok (.iconst 2, 1) := by decide +kernel
theorem dX8_fails_5 : decode cX8_fails 5 = .ok (.iaload, 1) := by decide +kernel
theorem dX8_fails_6 : decode cX8_fails 6 = .ok (.iconst 2, 1) := by decide +kernel
theorem dX8_fails_7 : decode cX8_fails 7 = .ok (.irem, 1) := by decide +kernel
theorem dX8_fails_8 : decode cX8_fails 8 = .ok (.ifCond .ne 7, 3) := by decide +kernel
theorem dX8_fails_11 : decode cX8_fails 11 = .ok (.iconst 2, 1) := by decide +kernel
theorem dX8_fails_12 : decode cX8_fails 12 = .ok (.goto 4, 3) := by decide +kernel
theorem dX8_fails_15 : decode cX8_fails 15 = .ok (.iconst 0, 1) := by decide +kernel
theorem dX8_fails_16 : decode cX8_fails 16 = .ok (.istore_n 2, 1) := by decide +kernel
theorem dX8_fails_17 : decode cX8_fails 17 = .ok (.aload_n 0, 1) := by decide +kernel
theorem dX8_fails_18 : decode cX8_fails 18 = .ok (.iload_n 1, 1) := by decide +kernel
theorem dX8_fails_19 : decode cX8_fails 19 = .ok (.invokevirtual 59, 3) := by decide +kernel
theorem dX8_fails_22 : decode cX8_fails 22 = .ok (.istore_n 3, 1) := by decide +kernel
theorem dX8_fails_23 : decode cX8_fails 23 = .ok (.aload_n 0, 1) := by decide +kernel
theorem dX8_fails_24 : decode cX8_fails 24 = .ok (.getfield 7, 3) := by decide +kernel
theorem dX8_fails_27 : decode cX8_fails 27 = .ok (.bipush 16, 2) := by decide +kernel
theorem dX8_fails_29 : decode cX8_fails 29 = .ok (.iload_n 1, 1) := by decide +kernel
theorem dX8_fails_30 : decode cX8_fails 30 = .ok (.iadd, 1) := by decide +kernel
theorem dX8_fails_31 : decode cX8_fails 31 = .ok (.iaload, 1) := by decide +kernel
theorem dX8_fails_32 : decode cX8_fails 32 = .ok (.tableswitch 62 0 3 #[32, 34, 36, 38], 32) := by decide +kernel
theorem dX8_fails_64 : decode cX8_fails 64 = .ok (.iconst 2, 1) := by decide +kernel
theorem dX8_fails_65 : decode cX8_fails 65 = .ok (.ireturn, 1) := by decide +kernel
theorem dX8_fails_66 : decode cX8_fails 66 = .ok (.iload_n 2, 1) := by decide +kernel
theorem dX8_fails_67 : decode cX8_fails 67 = .ok (.ireturn, 1) := by decide +kernel
theorem dX8_fails_68 : decode cX8_fails 68 = .ok (.iconst 4, 1) := by decide +kernel
theorem dX8_fails_69 : decode cX8_fails 69 = .ok (.ireturn, 1) := by decide +kernel
theorem dX8_fails_70 : decode cX8_fails 70 = .ok (.iload_n 3, 1) := by decide +kernel
theorem dX8_fails_71 : decode cX8_fails 71 = .ok (.ifCond .eq 15, 3) := by decide +kernel
theorem dX8_fails_74 : decode cX8_fails 74 = .ok (.iload_n 3, 1) := by decide +kernel
theorem dX8_fails_75 : decode cX8_fails 75 = .ok (.aload_n 0, 1) := by decide +kernel
theorem dX8_fails_76 : decode cX8_fails 76 = .ok (.getfield 7, 3) := by decide +kernel
theorem dX8_fails_79 : decode cX8_fails 79 = .ok (.iconst 1, 1) := by decide +kernel
theorem dX8_fails_80 : decode cX8_fails 80 = .ok (.iaload, 1) := by decide +kernel
theorem dX8_fails_81 : decode cX8_fails 81 = .ok (.iconst 1, 1) := by decide +kernel
theorem dX8_fails_82 : decode cX8_fails 82 = .ok (.isub, 1) := by decide +kernel
theorem dX8_fails_83 : decode cX8_fails 83 = .ok (.if_icmp .ne 9, 3) := by decide +kernel
theorem dX8_fails_86 : decode cX8_fails 86 = .ok (.iload_n 2, 1) := by decide +kernel
theorem dX8_fails_87 : decode cX8_fails 87 = .ok (.iconst 1, 1) := by decide +kernel
theorem dX8_fails_88 : decode cX8_fails 88 = .ok (.iadd, 1) := by decide +kernel
theorem dX8_fails_89 : decode cX8_fails 89 = .ok (.goto 4, 3) := by decide +kernel
theorem dX8_fails_92 : decode cX8_fails 92 = .ok (.iload_n 2, 1) := by decide +kernel
theorem dX8_fails_93 : decode cX8_fails 93 = .ok (.ireturn, 1) := by decide +kernel
theorem dX8_fails_94 : decode cX8_fails 94 = .ok (.iconst 4, 1) := by decide +kernel
theorem dX8_fails_95 : decode cX8_fails 95 = .ok (.aload_n 0, 1) := by decide +kernel
theorem dX8_fails_96 : decode cX8_fails 96 = .ok (.iload_n 1, 1) := by decide +kernel
theorem dX8_fails_97 : decode cX8_fails 97 = .ok (.invokevirtual 66, 3) := by decide +kernel
theorem dX8_fails_100 : decode cX8_fails 100 = .ok (.aload_n 0, 1) := by decide +kernel
theorem dX8_fails_101 : decode cX8_fails 101 = .ok (.iload_n 1, 1) := by decide +kernel
theorem dX8_fails_102 : decode cX8_fails 102 = .ok (.invokevirtual 69, 3) := by decide +kernel
theorem dX8_fails_105 : decode cX8_fails 105 = .ok (.iand, 1) := by decide +kernel
theorem dX8_fails_106 : decode cX8_fails 106 = .ok (.invokestatic 72, 3) := by decide +kernel
theorem dX8_fails_109 : decode cX8_fails 109 = .ok (.isub, 1) := by decide +kernel
theorem dX8_fails_110 : decode cX8_fails 110 = .ok (.ireturn, 1) := by decide +kernel
theorem dX8_passes_0 : decode cX8_passes 0 = .ok (.iconst 0, 1) := by decide +kernel
theorem dX8_passes_1 : decode cX8_passes 1 = .ok (.istore_n 1, 1) := by decide +kernel
theorem dX8_passes_2 : decode cX8_passes 2 = .ok (.iload_n 1, 1) := by decide +kernel
theorem dX8_passes_3 : decode cX8_passes 3 = .ok (.aload_n 0, 1) := by decide +kernel
theorem dX8_passes_4 : decode cX8_passes 4 = .ok (.getfield 7, 3) := by decide +kernel
theorem dX8_passes_7 : decode cX8_passes 7 = .ok (.iconst 0, 1) := by decide +kernel
theorem dX8_passes_8 : decode cX8_passes 8 = .ok (.iaload, 1) := by decide +kernel
theorem dX8_passes_9 : decode cX8_passes 9 = .ok (.if_icmp .ge 35, 3) := by decide +kernel
theorem dX8_passes_12 : decode cX8_passes 12 = .ok (.aload_n 0, 1) := by decide +kernel
theorem dX8_passes_13 : decode cX8_passes 13 = .ok (.getfield 35, 3) := by decide +kernel
theorem dX8_passes_16 : decode cX8_passes 16 = .ok (.iload_n 1, 1) := by decide +kernel
theorem dX8_passes_17 : decode cX8_passes 17 = .ok (.aload_n 0, 1) := by decide +kernel
theorem dX8_passes_18 : decode cX8_passes 18 = .ok (.invokevirtual 75, 3) := by decide +kernel
theorem dX8_passes_21 : decode cX8_passes 21 = .ok (.iload_n 1, 1) := by decide +kernel
theorem dX8_passes_22 : decode cX8_passes 22 = .ok (.invokestatic 79, 3) := by decide +kernel
theorem dX8_passes_25 : decode cX8_passes 25 = .ok (.ifCond .eq 11, 3) := by decide +kernel
theorem dX8_passes_28 : decode cX8_passes 28 = .ok (.aload_n 0, 1) := by decide +kernel
theorem dX8_passes_29 : decode cX8_passes 29 = .ok (.iload_n 1, 1) := by decide +kernel
theorem dX8_passes_30 : decode cX8_passes 30 = .ok (.invokevirtual 82, 3) := by decide +kernel
theorem dX8_passes_33 : decode cX8_passes 33 = .ok (.goto 4, 3) := by decide +kernel
theorem dX8_passes_36 : decode cX8_passes 36 = .ok (.iconst 0, 1) := by decide +kernel
theorem dX8_passes_37 : decode cX8_passes 37 = .ok (.iastore, 1) := by decide +kernel
theorem dX8_passes_38 : decode cX8_passes 38 = .ok (.iinc 1 1, 3) := by decide +kernel
theorem dX8_passes_41 : decode cX8_passes 41 = .ok (.goto (-39), 3) := by decide +kernel
theorem dX8_passes_44 : decode cX8_passes 44 = .ok (.iconst 0, 1) := by decide +kernel
theorem dX8_passes_45 : decode cX8_passes 45 = .ok (.istore_n 1, 1) := by decide +kernel
theorem dX8_passes_46 : decode cX8_passes 46 = .ok (.iload_n 1, 1) := by decide +kernel
theorem dX8_passes_47 : decode cX8_passes 47 = .ok (.aload_n 0, 1) := by decide +kernel
theorem dX8_passes_48 : decode cX8_passes 48 = .ok (.getfield 7, 3) := by decide +kernel
theorem dX8_passes_51 : decode cX8_passes 51 = .ok (.iconst 0, 1) := by decide +kernel
theorem dX8_passes_52 : decode cX8_passes 52 = .ok (.iaload, 1) := by decide +kernel
theorem dX8_passes_53 : decode cX8_passes 53 = .ok (.if_icmp .ge 53, 3) := by decide +kernel
theorem dX8_passes_56 : decode cX8_passes 56 = .ok (.aload_n 0, 1) := by decide +kernel
theorem dX8_passes_57 : decode cX8_passes 57 = .ok (.getfield 7, 3) := by decide +kernel
theorem dX8_passes_60 : decode cX8_passes 60 = .ok (.iconst 4, 1) := by decide +kernel
theorem dX8_passes_61 : decode cX8_passes 61 = .ok (.iload_n 1, 1) := by decide +kernel
theorem dX8_passes_62 : decode cX8_passes 62 = .ok (.iadd, 1) := by decide +kernel
theorem dX8_passes_63 : decode cX8_passes 63 = .ok (.aload_n 0, 1) := by decide +kernel
theorem dX8_passes_64 : decode cX8_passes 64 = .ok (.getfield 7, 3) := by decide +kernel
theorem dX8_passes_67 : decode cX8_passes 67 = .ok (.iconst 4, 1) := by decide +kernel
theorem dX8_passes_68 : decode cX8_passes 68 = .ok (.iload_n 1, 1) := by decide +kernel
theorem dX8_passes_69 : decode cX8_passes 69 = .ok (.iadd, 1) := by decide +kernel
theorem dX8_passes_70 : decode cX8_passes 70 = .ok (.iaload, 1) := by decide +kernel
theorem dX8_passes_71 : decode cX8_passes 71 = .ok (.aload_n 0, 1) := by decide +kernel
theorem dX8_passes_72 : decode cX8_passes 72 = .ok (.getfield 35, 3) := by decide +kernel
theorem dX8_passes_75 : decode cX8_passes 75 = .ok (.iload_n 1, 1) := by decide +kernel
theorem dX8_passes_76 : decode cX8_passes 76 = .ok (.iaload, 1) := by decide +kernel
theorem dX8_passes_77 : decode cX8_passes 77 = .ok (.if_icmp .le 21, 3) := by decide +kernel
theorem dX8_passes_80 : decode cX8_passes 80 = .ok (.aload_n 0, 1) := by decide +kernel
theorem dX8_passes_81 : decode cX8_passes 81 = .ok (.getfield 7, 3) := by decide +kernel
theorem dX8_passes_84 : decode cX8_passes 84 = .ok (.iconst 4, 1) := by decide +kernel
theorem dX8_passes_85 : decode cX8_passes 85 = .ok (.iload_n 1, 1) := by decide +kernel
theorem dX8_passes_86 : decode cX8_passes 86 = .ok (.iadd, 1) := by decide +kernel
theorem dX8_passes_87 : decode cX8_passes 87 = .ok (.iaload, 1) := by decide +kernel
theorem dX8_passes_88 : decode cX8_passes 88 = .ok (.aload_n 0, 1) := by decide +kernel
theorem dX8_passes_89 : decode cX8_passes 89 = .ok (.getfield 35, 3) := by decide +kernel
theorem dX8_passes_92 : decode cX8_passes 92 = .ok (.iload_n 1, 1) := by decide +kernel
theorem dX8_passes_93 : decode cX8_passes 93 = .ok (.iaload, 1) := by decide +kernel
theorem dX8_passes_94 : decode cX8_passes 94 = .ok (.isub, 1) := by decide +kernel
theorem dX8_passes_95 : decode cX8_passes 95 = .ok (.goto 4, 3) := by decide +kernel
theorem dX8_passes_98 : decode cX8_passes 98 = .ok (.iconst 0, 1) := by decide +kernel
theorem dX8_passes_99 : decode cX8_passes 99 = .ok (.iastore, 1) := by decide +kernel
theorem dX8_passes_100 : decode cX8_passes 100 = .ok (.iinc 1 1, 3) := by decide +kernel
theorem dX8_passes_103 : decode cX8_passes 103 = .ok (.goto (-57), 3) := by decide +kernel
theorem dX8_passes_106 : decode cX8_passes 106 = .ok (.iconst 0, 1) := by decide +kernel
theorem dX8_passes_107 : decode cX8_passes 107 = .ok (.istore_n 1, 1) := by decide +kernel
theorem dX8_passes_108 : decode cX8_passes 108 = .ok (.iconst 0, 1) := by decide +kernel
theorem dX8_passes_109 : decode cX8_passes 109 = .ok (.istore_n 2, 1) := by decide +kernel
theorem dX8_passes_110 : decode cX8_passes 110 = .ok (.iload_n 2, 1) := by decide +kernel
theorem dX8_passes_111 : decode cX8_passes 111 = .ok (.aload_n 0, 1) := by decide +kernel
theorem dX8_passes_112 : decode cX8_passes 112 = .ok (.getfield 7, 3) := by decide +kernel
theorem dX8_passes_115 : decode cX8_passes 115 = .ok (.iconst 1, 1) := by decide +kernel
theorem dX8_passes_116 : decode cX8_passes 116 = .ok (.iaload, 1) := by decide +kernel
theorem dX8_passes_117 : decode cX8_passes 117 = .ok (.if_icmp .ge 48, 3) := by decide +kernel
theorem dX8_passes_120 : decode cX8_passes 120 = .ok (.aload_n 0, 1) := by decide +kernel
theorem dX8_passes_121 : decode cX8_passes 121 = .ok (.getfield 7, 3) := by decide +kernel
theorem dX8_passes_124 : decode cX8_passes 124 = .ok (.bipush 10, 2) := by decide +kernel
theorem dX8_passes_126 : decode cX8_passes 126 = .ok (.iload_n 2, 1) := by decide +kernel
theorem dX8_passes_127 : decode cX8_passes 127 = .ok (.iadd, 1) := by decide +kernel
theorem dX8_passes_128 : decode cX8_passes 128 = .ok (.iaload, 1) := by decide +kernel
theorem dX8_passes_129 : decode cX8_passes 129 = .ok (.istore_n 3, 1) := by decide +kernel
theorem dX8_passes_130 : decode cX8_passes 130 = .ok (.aload_n 0, 1) := by decide +kernel
theorem dX8_passes_131 : decode cX8_passes 131 = .ok (.getfield 7, 3) := by decide +kernel
theorem dX8_passes_134 : decode cX8_passes 134 = .ok (.bipush 10, 2) := by decide +kernel
theorem dX8_passes_136 : decode cX8_passes 136 = .ok (.iload_n 1, 1) := by decide +kernel
theorem dX8_passes_137 : decode cX8_passes 137 = .ok (.iadd, 1) := by decide +kernel
theorem dX8_passes_138 : decode cX8_passes 138 = .ok (.iload_n 3, 1) := by decide +kernel
theorem dX8_passes_139 : decode cX8_passes 139 = .ok (.iastore, 1) := by decide +kernel
theorem dX8_passes_140 : decode cX8_passes 140 = .ok (.iload_n 1, 1) := by decide +kernel
theorem dX8_passes_141 : decode cX8_passes 141 = .ok (.aload_n 0, 1) := by decide +kernel
theorem dX8_passes_142 : decode cX8_passes 142 = .ok (.getfield 7, 3) := by decide +kernel
theorem dX8_passes_145 : decode cX8_passes 145 = .ok (.iconst 4, 1) := by decide +kernel
theorem dX8_passes_146 : decode cX8_passes 146 = .ok (.iload_n 3, 1) := by decide +kernel
theorem dX8_passes_147 : decode cX8_passes 147 = .ok (.iadd, 1) := by decide +kernel
theorem dX8_passes_148 : decode cX8_passes 148 = .ok (.iaload, 1) := by decide +kernel
theorem dX8_passes_149 : decode cX8_passes 149 = .ok (.ifCond .le 7, 3) := by decide +kernel
theorem dX8_passes_152 : decode cX8_passes 152 = .ok (.iconst 1, 1) := by decide +kernel
theorem dX8_passes_153 : decode cX8_passes 153 = .ok (.goto 4, 3) := by decide +kernel
theorem dX8_passes_156 : decode cX8_passes 156 = .ok (.iconst 0, 1) := by decide +kernel
theorem dX8_passes_157 : decode cX8_passes 157 = .ok (.iadd, 1) := by decide +kernel
theorem dX8_passes_158 : decode cX8_passes 158 = .ok (.istore_n 1, 1) := by decide +kernel
theorem dX8_passes_159 : decode cX8_passes 159 = .ok (.iinc 2 1, 3) := by decide +kernel
theorem dX8_passes_162 : decode cX8_passes 162 = .ok (.goto (-52), 3) := by decide +kernel
theorem dX8_passes_165 : decode cX8_passes 165 = .ok (.aload_n 0, 1) := by decide +kernel
theorem dX8_passes_166 : decode cX8_passes 166 = .ok (.getfield 7, 3) := by decide +kernel
theorem dX8_passes_169 : decode cX8_passes 169 = .ok (.iconst 1, 1) := by decide +kernel
theorem dX8_passes_170 : decode cX8_passes 170 = .ok (.iload_n 1, 1) := by decide +kernel
theorem dX8_passes_171 : decode cX8_passes 171 = .ok (.iastore, 1) := by decide +kernel
theorem dX8_passes_172 : decode cX8_passes 172 = .ok (.aload_n 0, 1) := by decide +kernel
theorem dX8_passes_173 : decode cX8_passes 173 = .ok (.getfield 7, 3) := by decide +kernel
theorem dX8_passes_176 : decode cX8_passes 176 = .ok (.iconst 2, 1) := by decide +kernel
theorem dX8_passes_177 : decode cX8_passes 177 = .ok (.dup2, 1) := by decide +kernel
theorem dX8_passes_178 : decode cX8_passes 178 = .ok (.iaload, 1) := by decide +kernel
theorem dX8_passes_179 : decode cX8_passes 179 = .ok (.iconst 1, 1) := by decide +kernel
theorem dX8_passes_180 : decode cX8_passes 180 = .ok (.iadd, 1) := by decide +kernel
theorem dX8_passes_181 : decode cX8_passes 181 = .ok (.iastore, 1) := by decide +kernel
theorem dX8_passes_182 : decode cX8_passes 182 = .ok (.return_, 1) := by decide +kernel
theorem dX8_of_0 : decode cX8_of 0 = .ok (.aload_n 0, 1) := by decide +kernel
theorem dX8_of_1 : decode cX8_of 1 = .ok (.iload_n 1, 1) := by decide +kernel
theorem dX8_of_2 : decode cX8_of 2 = .ok (.invokevirtual 52, 3) := by decide +kernel
theorem dX8_of_5 : decode cX8_of 5 = .ok (.ifCond .eq 13, 3) := by decide +kernel
theorem dX8_of_8 : decode cX8_of 8 = .ok (.iload_n 2, 1) := by decide +kernel
theorem dX8_of_9 : decode cX8_of 9 = .ok (.iconst 0, 1) := by decide +kernel
theorem dX8_of_10 : decode cX8_of 10 = .ok (.bipush 8, 2) := by decide +kernel
theorem dX8_of_12 : decode cX8_of 12 = .ok (.invokestatic 44, 3) := by decide +kernel
theorem dX8_of_15 : decode cX8_of 15 = .ok (.ifCond .ne 5, 3) := by decide +kernel
theorem dX8_of_18 : decode cX8_of 18 = .ok (.iconst (-1), 1) := by decide +kernel
theorem dX8_of_19 : decode cX8_of 19 = .ok (.ireturn, 1) := by decide +kernel
theorem dX8_of_20 : decode cX8_of 20 = .ok (.iload_n 2, 1) := by decide +kernel
theorem dX8_of_21 : decode cX8_of 21 = .ok (.tableswitch 108 0 8 #[51, 61, 70, 108, 108, 108, 76, 82, 88], 51) := by decide +kernel
theorem dX8_of_72 : decode cX8_of 72 = .ok (.aload_n 0, 1) := by decide +kernel
theorem dX8_of_73 : decode cX8_of 73 = .ok (.getfield 7, 3) := by decide +kernel
theorem dX8_of_76 : decode cX8_of 76 = .ok (.bipush 16, 2) := by decide +kernel
theorem dX8_of_78 : decode cX8_of 78 = .ok (.iload_n 1, 1) := by decide +kernel
theorem dX8_of_79 : decode cX8_of 79 = .ok (.iadd, 1) := by decide +kernel
theorem dX8_of_80 : decode cX8_of 80 = .ok (.iaload, 1) := by decide +kernel
theorem dX8_of_81 : decode cX8_of 81 = .ok (.ireturn, 1) := by decide +kernel
theorem dX8_of_82 : decode cX8_of 82 = .ok (.aload_n 0, 1) := by decide +kernel
theorem dX8_of_83 : decode cX8_of 83 = .ok (.getfield 7, 3) := by decide +kernel
theorem dX8_of_86 : decode cX8_of 86 = .ok (.iconst 4, 1) := by decide +kernel
theorem dX8_of_87 : decode cX8_of 87 = .ok (.iload_n 1, 1) := by decide +kernel
theorem dX8_of_88 : decode cX8_of 88 = .ok (.iadd, 1) := by decide +kernel
theorem dX8_of_89 : decode cX8_of 89 = .ok (.iaload, 1) := by decide +kernel
theorem dX8_of_90 : decode cX8_of 90 = .ok (.ireturn, 1) := by decide +kernel
theorem dX8_of_91 : decode cX8_of 91 = .ok (.aload_n 0, 1) := by decide +kernel
theorem dX8_of_92 : decode cX8_of 92 = .ok (.iload_n 1, 1) := by decide +kernel
theorem dX8_of_93 : decode cX8_of 93 = .ok (.invokevirtual 59, 3) := by decide +kernel
theorem dX8_of_96 : decode cX8_of 96 = .ok (.ireturn, 1) := by decide +kernel
theorem dX8_of_97 : decode cX8_of 97 = .ok (.aload_n 0, 1) := by decide +kernel
theorem dX8_of_98 : decode cX8_of 98 = .ok (.iload_n 1, 1) := by decide +kernel
theorem dX8_of_99 : decode cX8_of 99 = .ok (.invokevirtual 69, 3) := by decide +kernel
theorem dX8_of_102 : decode cX8_of 102 = .ok (.ireturn, 1) := by decide +kernel
theorem dX8_of_103 : decode cX8_of 103 = .ok (.aload_n 0, 1) := by decide +kernel
theorem dX8_of_104 : decode cX8_of 104 = .ok (.iload_n 1, 1) := by decide +kernel
theorem dX8_of_105 : decode cX8_of 105 = .ok (.invokevirtual 66, 3) := by decide +kernel
theorem dX8_of_108 : decode cX8_of 108 = .ok (.ireturn, 1) := by decide +kernel
theorem dX8_of_109 : decode cX8_of 109 = .ok (.aload_n 0, 1) := by decide +kernel
theorem dX8_of_110 : decode cX8_of 110 = .ok (.iload_n 1, 1) := by decide +kernel
theorem dX8_of_111 : decode cX8_of 111 = .ok (.invokevirtual 59, 3) := by decide +kernel
theorem dX8_of_114 : decode cX8_of 114 = .ok (.bipush (-4), 2) := by decide +kernel
theorem dX8_of_116 : decode cX8_of 116 = .ok (.if_icmp .ne 7, 3) := by decide +kernel
theorem dX8_of_119 : decode cX8_of 119 = .ok (.iconst 0, 1) := by decide +kernel
theorem dX8_of_120 : decode cX8_of 120 = .ok (.goto 8, 3) := by decide +kernel
theorem dX8_of_123 : decode cX8_of 123 = .ok (.aload_n 0, 1) := by decide +kernel
theorem dX8_of_124 : decode cX8_of 124 = .ok (.iload_n 1, 1) := by decide +kernel
theorem dX8_of_125 : decode cX8_of 125 = .ok (.invokevirtual 82, 3) := by decide +kernel
theorem dX8_of_128 : decode cX8_of 128 = .ok (.ireturn, 1) := by decide +kernel
theorem dX8_of_129 : decode cX8_of 129 = .ok (.aload_n 0, 1) := by decide +kernel
theorem dX8_of_130 : decode cX8_of 130 = .ok (.getfield 7, 3) := by decide +kernel
theorem dX8_of_133 : decode cX8_of 133 = .ok (.bipush 22, 2) := by decide +kernel
theorem dX8_of_135 : decode cX8_of 135 = .ok (.iconst 3, 1) := by decide +kernel
theorem dX8_of_136 : decode cX8_of 136 = .ok (.iload_n 1, 1) := by decide +kernel
theorem dX8_of_137 : decode cX8_of 137 = .ok (.imul, 1) := by decide +kernel
theorem dX8_of_138 : decode cX8_of 138 = .ok (.iadd, 1) := by decide +kernel
theorem dX8_of_139 : decode cX8_of 139 = .ok (.iload_n 2, 1) := by decide +kernel
theorem dX8_of_140 : decode cX8_of 140 = .ok (.iadd, 1) := by decide +kernel
theorem dX8_of_141 : decode cX8_of 141 = .ok (.iconst 3, 1) := by decide +kernel
theorem dX8_of_142 : decode cX8_of 142 = .ok (.isub, 1) := by decide +kernel
theorem dX8_of_143 : decode cX8_of 143 = .ok (.iaload, 1) := by decide +kernel
theorem dX8_of_144 : decode cX8_of 144 = .ok (.ireturn, 1) := by decide +kernel
theorem dX8_seat_0 : decode cX8_seat 0 = .ok (.iload_n 1, 1) := by decide +kernel
theorem dX8_seat_1 : decode cX8_seat 1 = .ok (.ifCond .ge 7, 3) := by decide +kernel
theorem dX8_seat_4 : decode cX8_seat 4 = .ok (.iconst (-1), 1) := by decide +kernel
theorem dX8_seat_5 : decode cX8_seat 5 = .ok (.goto 8, 3) := by decide +kernel
theorem dX8_seat_8 : decode cX8_seat 8 = .ok (.aload_n 0, 1) := by decide +kernel
theorem dX8_seat_9 : decode cX8_seat 9 = .ok (.iload_n 1, 1) := by decide +kernel
theorem dX8_seat_10 : decode cX8_seat 10 = .ok (.invokevirtual 63, 3) := by decide +kernel
theorem dX8_seat_13 : decode cX8_seat 13 = .ok (.ireturn, 1) := by decide +kernel
theorem dX8_type_0 : decode cX8_type 0 = .ok (.iload_n 1, 1) := by decide +kernel
theorem dX8_type_1 : decode cX8_type 1 = .ok (.bipush 32, 2) := by decide +kernel
theorem dX8_type_3 : decode cX8_type 3 = .ok (.bipush 126, 2) := by decide +kernel
theorem dX8_type_5 : decode cX8_type 5 = .ok (.invokestatic 44, 3) := by decide +kernel
theorem dX8_type_8 : decode cX8_type 8 = .ok (.ifCond .ne 5, 3) := by decide +kernel
theorem dX8_type_11 : decode cX8_type 11 = .ok (.iconst (-1), 1) := by decide +kernel
theorem dX8_type_12 : decode cX8_type 12 = .ok (.ireturn, 1) := by decide +kernel
theorem dX8_type_13 : decode cX8_type 13 = .ok (.aload_n 0, 1) := by decide +kernel
theorem dX8_type_14 : decode cX8_type 14 = .ok (.getfield 85, 3) := by decide +kernel
theorem dX8_type_17 : decode cX8_type 17 = .ok (.bipush 70, 2) := by decide +kernel
theorem dX8_type_19 : decode cX8_type 19 = .ok (.if_icmp .ne 6, 3) := by decide +kernel
theorem dX8_type_22 : decode cX8_type 22 = .ok (.bipush (-3), 2) := by decide +kernel
theorem dX8_type_24 : decode cX8_type 24 = .ok (.ireturn, 1) := by decide +kernel
theorem dX8_type_25 : decode cX8_type 25 = .ok (.aload_n 0, 1) := by decide +kernel
theorem dX8_type_26 : decode cX8_type 26 = .ok (.getfield 16, 3) := by decide +kernel
theorem dX8_type_29 : decode cX8_type 29 = .ok (.aload_n 0, 1) := by decide +kernel
theorem dX8_type_30 : decode cX8_type 30 = .ok (.getfield 85, 3) := by decide +kernel
theorem dX8_type_33 : decode cX8_type 33 = .ok (.iload_n 1, 1) := by decide +kernel
theorem dX8_type_34 : decode cX8_type 34 = .ok (.iastore, 1) := by decide +kernel
theorem dX8_type_35 : decode cX8_type 35 = .ok (.aload_n 0, 1) := by decide +kernel
theorem dX8_type_36 : decode cX8_type 36 = .ok (.dup, 1) := by decide +kernel
theorem dX8_type_37 : decode cX8_type 37 = .ok (.getfield 85, 3) := by decide +kernel
theorem dX8_type_40 : decode cX8_type 40 = .ok (.iconst 1, 1) := by decide +kernel
theorem dX8_type_41 : decode cX8_type 41 = .ok (.iadd, 1) := by decide +kernel
theorem dX8_type_42 : decode cX8_type 42 = .ok (.putfield 85, 3) := by decide +kernel
theorem dX8_type_45 : decode cX8_type 45 = .ok (.aload_n 0, 1) := by decide +kernel
theorem dX8_type_46 : decode cX8_type 46 = .ok (.getfield 85, 3) := by decide +kernel
theorem dX8_type_49 : decode cX8_type 49 = .ok (.ireturn, 1) := by decide +kernel
theorem dX8_letterAt_0 : decode cX8_letterAt 0 = .ok (.iload_n 1, 1) := by decide +kernel
theorem dX8_letterAt_1 : decode cX8_letterAt 1 = .ok (.aload_n 0, 1) := by decide +kernel
theorem dX8_letterAt_2 : decode cX8_letterAt 2 = .ok (.getfield 85, 3) := by decide +kernel
theorem dX8_letterAt_5 : decode cX8_letterAt 5 = .ok (.if_icmp .ge 12, 3) := by decide +kernel
theorem dX8_letterAt_8 : decode cX8_letterAt 8 = .ok (.aload_n 0, 1) := by decide +kernel
theorem dX8_letterAt_9 : decode cX8_letterAt 9 = .ok (.getfield 16, 3) := by decide +kernel
theorem dX8_letterAt_12 : decode cX8_letterAt 12 = .ok (.iload_n 1, 1) := by decide +kernel
theorem dX8_letterAt_13 : decode cX8_letterAt 13 = .ok (.iaload, 1) := by decide +kernel
theorem dX8_letterAt_14 : decode cX8_letterAt 14 = .ok (.goto 4, 3) := by decide +kernel
theorem dX8_letterAt_17 : decode cX8_letterAt 17 = .ok (.iconst (-1), 1) := by decide +kernel
theorem dX8_letterAt_18 : decode cX8_letterAt 18 = .ok (.ireturn, 1) := by decide +kernel
theorem dX8_isDigit_0 : decode cX8_isDigit 0 = .ok (.iload_n 0, 1) := by decide +kernel
theorem dX8_isDigit_1 : decode cX8_isDigit 1 = .ok (.bipush 48, 2) := by decide +kernel
theorem dX8_isDigit_3 : decode cX8_isDigit 3 = .ok (.bipush 57, 2) := by decide +kernel
theorem dX8_isDigit_5 : decode cX8_isDigit 5 = .ok (.invokestatic 44, 3) := by decide +kernel
theorem dX8_isDigit_8 : decode cX8_isDigit 8 = .ok (.ireturn, 1) := by decide +kernel
theorem dX8_skips_0 : decode cX8_skips 0 = .ok (.aload_n 0, 1) := by decide +kernel
theorem dX8_skips_1 : decode cX8_skips 1 = .ok (.aload_n 0, 1) := by decide +kernel
theorem dX8_skips_2 : decode cX8_skips 2 = .ok (.getfield 89, 3) := by decide +kernel
theorem dX8_skips_5 : decode cX8_skips 5 = .ok (.invokevirtual 92, 3) := by decide +kernel
theorem dX8_skips_8 : decode cX8_skips 8 = .ok (.bipush 32, 2) := by decide +kernel
theorem dX8_skips_10 : decode cX8_skips 10 = .ok (.if_icmp .ne 16, 3) := by decide +kernel
theorem dX8_skips_13 : decode cX8_skips 13 = .ok (.aload_n 0, 1) := by decide +kernel
theorem dX8_skips_14 : decode cX8_skips 14 = .ok (.dup, 1) := by decide +kernel
theorem dX8_skips_15 : decode cX8_skips 15 = .ok (.getfield 89, 3) := by decide +kernel
theorem dX8_skips_18 : decode cX8_skips 18 = .ok (.iconst 1, 1) := by decide +kernel
theorem dX8_skips_19 : decode cX8_skips 19 = .ok (.iadd, 1) := by decide +kernel
theorem dX8_skips_20 : decode cX8_skips 20 = .ok (.putfield 89, 3) := by decide +kernel
theorem dX8_skips_23 : decode cX8_skips 23 = .ok (.goto (-23), 3) := by decide +kernel
theorem dX8_skips_26 : decode cX8_skips 26 = .ok (.aload_n 0, 1) := by decide +kernel
theorem dX8_skips_27 : decode cX8_skips 27 = .ok (.aload_n 0, 1) := by decide +kernel
theorem dX8_skips_28 : decode cX8_skips 28 = .ok (.getfield 89, 3) := by decide +kernel
theorem dX8_skips_31 : decode cX8_skips 31 = .ok (.invokevirtual 92, 3) := by decide +kernel
theorem dX8_skips_34 : decode cX8_skips 34 = .ok (.ireturn, 1) := by decide +kernel
theorem dX8_kindBy_0 : decode cX8_kindBy 0 = .ok (.iload_n 0, 1) := by decide +kernel
theorem dX8_kindBy_1 : decode cX8_kindBy 1 = .ok (.bipush 112, 2) := by decide +kernel
theorem dX8_kindBy_3 : decode cX8_kindBy 3 = .ok (.if_icmp .ne 7, 3) := by decide +kernel
theorem dX8_kindBy_6 : decode cX8_kindBy 6 = .ok (.iconst 0, 1) := by decide +kernel
theorem dX8_kindBy_7 : decode cX8_kindBy 7 = .ok (.goto 45, 3) := by decide +kernel
theorem dX8_kindBy_10 : decode cX8_kindBy 10 = .ok (.iload_n 0, 1) := by decide +kernel
theorem dX8_kindBy_11 : decode cX8_kindBy 11 = .ok (.bipush 104, 2) := by decide +kernel
theorem dX8_kindBy_13 : decode cX8_kindBy 13 = .ok (.if_icmp .ne 7, 3) := by decide +kernel
theorem dX8_kindBy_16 : decode cX8_kindBy 16 = .ok (.iconst 1, 1) := by decide +kernel
theorem dX8_kindBy_17 : decode cX8_kindBy 17 = .ok (.goto 35, 3) := by decide +kernel
theorem dX8_kindBy_20 : decode cX8_kindBy 20 = .ok (.iload_n 0, 1) := by decide +kernel
theorem dX8_kindBy_21 : decode cX8_kindBy 21 = .ok (.bipush 117, 2) := by decide +kernel
theorem dX8_kindBy_23 : decode cX8_kindBy 23 = .ok (.if_icmp .ne 7, 3) := by decide +kernel
theorem dX8_kindBy_26 : decode cX8_kindBy 26 = .ok (.iconst 2, 1) := by decide +kernel
theorem dX8_kindBy_27 : decode cX8_kindBy 27 = .ok (.goto 25, 3) := by decide +kernel
theorem dX8_kindBy_30 : decode cX8_kindBy 30 = .ok (.iload_n 0, 1) := by decide +kernel
theorem dX8_kindBy_31 : decode cX8_kindBy 31 = .ok (.bipush 100, 2) := by decide +kernel
theorem dX8_kindBy_33 : decode cX8_kindBy 33 = .ok (.if_icmp .ne 7, 3) := by decide +kernel
theorem dX8_kindBy_36 : decode cX8_kindBy 36 = .ok (.iconst 3, 1) := by decide +kernel
theorem dX8_kindBy_37 : decode cX8_kindBy 37 = .ok (.goto 15, 3) := by decide +kernel
theorem dX8_kindBy_40 : decode cX8_kindBy 40 = .ok (.iload_n 0, 1) := by decide +kernel
theorem dX8_kindBy_41 : decode cX8_kindBy 41 = .ok (.bipush 114, 2) := by decide +kernel
theorem dX8_kindBy_43 : decode cX8_kindBy 43 = .ok (.if_icmp .ne 7, 3) := by decide +kernel
theorem dX8_kindBy_46 : decode cX8_kindBy 46 = .ok (.iconst 4, 1) := by decide +kernel
theorem dX8_kindBy_47 : decode cX8_kindBy 47 = .ok (.goto 5, 3) := by decide +kernel
theorem dX8_kindBy_50 : decode cX8_kindBy 50 = .ok (.bipush (-4), 2) := by decide +kernel
theorem dX8_kindBy_52 : decode cX8_kindBy 52 = .ok (.ireturn, 1) := by decide +kernel
theorem dX8_isTold_0 : decode cX8_isTold 0 = .ok (.iconst 0, 1) := by decide +kernel
theorem dX8_isTold_1 : decode cX8_isTold 1 = .ok (.istore 4, 2) := by decide +kernel
theorem dX8_isTold_3 : decode cX8_isTold 3 = .ok (.iconst 0, 1) := by decide +kernel
theorem dX8_isTold_4 : decode cX8_isTold 4 = .ok (.istore 5, 2) := by decide +kernel
theorem dX8_isTold_6 : decode cX8_isTold 6 = .ok (.iload 5, 2) := by decide +kernel
theorem dX8_isTold_8 : decode cX8_isTold 8 = .ok (.iload_n 1, 1) := by decide +kernel
theorem dX8_isTold_9 : decode cX8_isTold 9 = .ok (.if_icmp .ge 39, 3) := by decide +kernel
theorem dX8_isTold_12 : decode cX8_isTold 12 = .ok (.iload 4, 2) := by decide +kernel
theorem dX8_isTold_14 : decode cX8_isTold 14 = .ok (.ifCond .ne 21, 3) := by decide +kernel
theorem dX8_isTold_17 : decode cX8_isTold 17 = .ok (.aload_n 0, 1) := by decide +kernel
theorem dX8_isTold_18 : decode cX8_isTold 18 = .ok (.getfield 19, 3) := by decide +kernel
theorem dX8_isTold_21 : decode cX8_isTold 21 = .ok (.bipush 22, 2) := by decide +kernel
theorem dX8_isTold_23 : decode cX8_isTold 23 = .ok (.iconst 3, 1) := by decide +kernel
theorem dX8_isTold_24 : decode cX8_isTold 24 = .ok (.iload 5, 2) := by decide +kernel
theorem dX8_isTold_26 : decode cX8_isTold 26 = .ok (.imul, 1) := by decide +kernel
theorem dX8_isTold_27 : decode cX8_isTold 27 = .ok (.iadd, 1) := by decide +kernel
theorem dX8_isTold_28 : decode cX8_isTold 28 = .ok (.iload_n 2, 1) := by decide +kernel
theorem dX8_isTold_29 : decode cX8_isTold 29 = .ok (.iadd, 1) := by decide +kernel
theorem dX8_isTold_30 : decode cX8_isTold 30 = .ok (.iaload, 1) := by decide +kernel
theorem dX8_isTold_31 : decode cX8_isTold 31 = .ok (.iload_n 3, 1) := by decide +kernel
theorem dX8_isTold_32 : decode cX8_isTold 32 = .ok (.if_icmp .ne 7, 3) := by decide +kernel
theorem dX8_isTold_35 : decode cX8_isTold 35 = .ok (.iconst 1, 1) := by decide +kernel
theorem dX8_isTold_36 : decode cX8_isTold 36 = .ok (.goto 4, 3) := by decide +kernel
theorem dX8_isTold_39 : decode cX8_isTold 39 = .ok (.iconst 0, 1) := by decide +kernel
theorem dX8_isTold_40 : decode cX8_isTold 40 = .ok (.istore 4, 2) := by decide +kernel
theorem dX8_isTold_42 : decode cX8_isTold 42 = .ok (.iinc 5 1, 3) := by decide +kernel
theorem dX8_isTold_45 : decode cX8_isTold 45 = .ok (.goto (-39), 3) := by decide +kernel
theorem dX8_isTold_48 : decode cX8_isTold 48 = .ok (.iload 4, 2) := by decide +kernel
theorem dX8_isTold_50 : decode cX8_isTold 50 = .ok (.ireturn, 1) := by decide +kernel
theorem dX8_readsMan_0 : decode cX8_readsMan 0 = .ok (.aload_n 0, 1) := by decide +kernel
theorem dX8_readsMan_1 : decode cX8_readsMan 1 = .ok (.invokevirtual 95, 3) := by decide +kernel
theorem dX8_readsMan_4 : decode cX8_readsMan 4 = .ok (.invokestatic 98, 3) := by decide +kernel
theorem dX8_readsMan_7 : decode cX8_readsMan 7 = .ok (.istore_n 2, 1) := by decide +kernel
theorem dX8_readsMan_8 : decode cX8_readsMan 8 = .ok (.aload_n 0, 1) := by decide +kernel
theorem dX8_readsMan_9 : decode cX8_readsMan 9 = .ok (.getfield 89, 3) := by decide +kernel
theorem dX8_readsMan_12 : decode cX8_readsMan 12 = .ok (.istore_n 3, 1) := by decide +kernel
theorem dX8_readsMan_13 : decode cX8_readsMan 13 = .ok (.iload_n 2, 1) := by decide +kernel
theorem dX8_readsMan_14 : decode cX8_readsMan 14 = .ok (.bipush (-4), 2) := by decide +kernel
theorem dX8_readsMan_16 : decode cX8_readsMan 16 = .ok (.if_icmp .ne 5, 3) := by decide +kernel
theorem dX8_readsMan_19 : decode cX8_readsMan 19 = .ok (.iconst 0, 1) := by decide +kernel
theorem dX8_readsMan_20 : decode cX8_readsMan 20 = .ok (.ireturn, 1) := by decide +kernel
theorem dX8_readsMan_21 : decode cX8_readsMan 21 = .ok (.aload_n 0, 1) := by decide +kernel
theorem dX8_readsMan_22 : decode cX8_readsMan 22 = .ok (.dup, 1) := by decide +kernel
theorem dX8_readsMan_23 : decode cX8_readsMan 23 = .ok (.getfield 89, 3) := by decide +kernel
theorem dX8_readsMan_26 : decode cX8_readsMan 26 = .ok (.iconst 1, 1) := by decide +kernel
theorem dX8_readsMan_27 : decode cX8_readsMan 27 = .ok (.iadd, 1) := by decide +kernel
theorem dX8_readsMan_28 : decode cX8_readsMan 28 = .ok (.putfield 89, 3) := by decide +kernel
theorem dX8_readsMan_31 : decode cX8_readsMan 31 = .ok (.aload_n 0, 1) := by decide +kernel
theorem dX8_readsMan_32 : decode cX8_readsMan 32 = .ok (.invokevirtual 95, 3) := by decide +kernel
theorem dX8_readsMan_35 : decode cX8_readsMan 35 = .ok (.invokestatic 101, 3) := by decide +kernel
theorem dX8_readsMan_38 : decode cX8_readsMan 38 = .ok (.ifCond .ne 5, 3) := by decide +kernel
theorem dX8_readsMan_41 : decode cX8_readsMan 41 = .ok (.iconst 0, 1) := by decide +kernel
theorem dX8_readsMan_42 : decode cX8_readsMan 42 = .ok (.ireturn, 1) := by decide +kernel
theorem dX8_readsMan_43 : decode cX8_readsMan 43 = .ok (.aload_n 0, 1) := by decide +kernel
theorem dX8_readsMan_44 : decode cX8_readsMan 44 = .ok (.getfield 89, 3) := by decide +kernel
theorem dX8_readsMan_47 : decode cX8_readsMan 47 = .ok (.istore 4, 2) := by decide +kernel
theorem dX8_readsMan_49 : decode cX8_readsMan 49 = .ok (.aload_n 0, 1) := by decide +kernel
theorem dX8_readsMan_50 : decode cX8_readsMan 50 = .ok (.getfield 16, 3) := by decide +kernel
theorem dX8_readsMan_53 : decode cX8_readsMan 53 = .ok (.aload_n 0, 1) := by decide +kernel
theorem dX8_readsMan_54 : decode cX8_readsMan 54 = .ok (.getfield 89, 3) := by decide +kernel
theorem dX8_readsMan_57 : decode cX8_readsMan 57 = .ok (.iaload, 1) := by decide +kernel
theorem dX8_readsMan_58 : decode cX8_readsMan 58 = .ok (.bipush 48, 2) := by decide +kernel
theorem dX8_readsMan_60 : decode cX8_readsMan 60 = .ok (.isub, 1) := by decide +kernel
theorem dX8_readsMan_61 : decode cX8_readsMan 61 = .ok (.istore 5, 2) := by decide +kernel
theorem dX8_readsMan_63 : decode cX8_readsMan 63 = .ok (.aload_n 0, 1) := by decide +kernel
theorem dX8_readsMan_64 : decode cX8_readsMan 64 = .ok (.dup, 1) := by decide +kernel
theorem dX8_readsMan_65 : decode cX8_readsMan 65 = .ok (.getfield 89, 3) := by decide +kernel
theorem dX8_readsMan_68 : decode cX8_readsMan 68 = .ok (.iconst 1, 1) := by decide +kernel
theorem dX8_readsMan_69 : decode cX8_readsMan 69 = .ok (.iadd, 1) := by decide +kernel
theorem dX8_readsMan_70 : decode cX8_readsMan 70 = .ok (.putfield 89, 3) := by decide +kernel
theorem dX8_readsMan_73 : decode cX8_readsMan 73 = .ok (.aload_n 0, 1) := by decide +kernel
theorem dX8_readsMan_74 : decode cX8_readsMan 74 = .ok (.aload_n 0, 1) := by decide +kernel
theorem dX8_readsMan_75 : decode cX8_readsMan 75 = .ok (.getfield 89, 3) := by decide +kernel
theorem dX8_readsMan_78 : decode cX8_readsMan 78 = .ok (.invokevirtual 92, 3) := by decide +kernel
theorem dX8_readsMan_81 : decode cX8_readsMan 81 = .ok (.invokestatic 101, 3) := by decide +kernel
theorem dX8_readsMan_84 : decode cX8_readsMan 84 = .ok (.ifCond .eq 33, 3) := by decide +kernel
theorem dX8_readsMan_87 : decode cX8_readsMan 87 = .ok (.bipush 10, 2) := by decide +kernel
theorem dX8_readsMan_89 : decode cX8_readsMan 89 = .ok (.iload 5, 2) := by decide +kernel
theorem dX8_readsMan_91 : decode cX8_readsMan 91 = .ok (.imul, 1) := by decide +kernel
theorem dX8_readsMan_92 : decode cX8_readsMan 92 = .ok (.aload_n 0, 1) := by decide +kernel
theorem dX8_readsMan_93 : decode cX8_readsMan 93 = .ok (.getfield 16, 3) := by decide +kernel
theorem dX8_readsMan_96 : decode cX8_readsMan 96 = .ok (.aload_n 0, 1) := by decide +kernel
theorem dX8_readsMan_97 : decode cX8_readsMan 97 = .ok (.getfield 89, 3) := by decide +kernel
theorem dX8_readsMan_100 : decode cX8_readsMan 100 = .ok (.iaload, 1) := by decide +kernel
theorem dX8_readsMan_101 : decode cX8_readsMan 101 = .ok (.iadd, 1) := by decide +kernel
theorem dX8_readsMan_102 : decode cX8_readsMan 102 = .ok (.bipush 48, 2) := by decide +kernel
theorem dX8_readsMan_104 : decode cX8_readsMan 104 = .ok (.isub, 1) := by decide +kernel
theorem dX8_readsMan_105 : decode cX8_readsMan 105 = .ok (.istore 5, 2) := by decide +kernel
theorem dX8_readsMan_107 : decode cX8_readsMan 107 = .ok (.aload_n 0, 1) := by decide +kernel
theorem dX8_readsMan_108 : decode cX8_readsMan 108 = .ok (.dup, 1) := by decide +kernel
theorem dX8_readsMan_109 : decode cX8_readsMan 109 = .ok (.getfield 89, 3) := by decide +kernel
theorem dX8_readsMan_112 : decode cX8_readsMan 112 = .ok (.iconst 1, 1) := by decide +kernel
theorem dX8_readsMan_113 : decode cX8_readsMan 113 = .ok (.iadd, 1) := by decide +kernel
theorem dX8_readsMan_114 : decode cX8_readsMan 114 = .ok (.putfield 89, 3) := by decide +kernel
theorem dX8_readsMan_117 : decode cX8_readsMan 117 = .ok (.iload 5, 2) := by decide +kernel
theorem dX8_readsMan_119 : decode cX8_readsMan 119 = .ok (.iconst 1, 1) := by decide +kernel
theorem dX8_readsMan_120 : decode cX8_readsMan 120 = .ok (.bipush 60, 2) := by decide +kernel
theorem dX8_readsMan_122 : decode cX8_readsMan 122 = .ok (.invokestatic 44, 3) := by decide +kernel
theorem dX8_readsMan_125 : decode cX8_readsMan 125 = .ok (.ifCond .ne 11, 3) := by decide +kernel
theorem dX8_readsMan_128 : decode cX8_readsMan 128 = .ok (.aload_n 0, 1) := by decide +kernel
theorem dX8_readsMan_129 : decode cX8_readsMan 129 = .ok (.iload 4, 2) := by decide +kernel
theorem dX8_readsMan_131 : decode cX8_readsMan 131 = .ok (.putfield 89, 3) := by decide +kernel
theorem dX8_readsMan_134 : decode cX8_readsMan 134 = .ok (.iconst 0, 1) := by decide +kernel
theorem dX8_readsMan_135 : decode cX8_readsMan 135 = .ok (.ireturn, 1) := by decide +kernel
theorem dX8_readsMan_136 : decode cX8_readsMan 136 = .ok (.aload_n 0, 1) := by decide +kernel
theorem dX8_readsMan_137 : decode cX8_readsMan 137 = .ok (.getfield 19, 3) := by decide +kernel
theorem dX8_readsMan_140 : decode cX8_readsMan 140 = .ok (.bipush 16, 2) := by decide +kernel
theorem dX8_readsMan_142 : decode cX8_readsMan 142 = .ok (.iload_n 1, 1) := by decide +kernel
theorem dX8_readsMan_143 : decode cX8_readsMan 143 = .ok (.iadd, 1) := by decide +kernel
theorem dX8_readsMan_144 : decode cX8_readsMan 144 = .ok (.iload_n 2, 1) := by decide +kernel
theorem dX8_readsMan_145 : decode cX8_readsMan 145 = .ok (.iastore, 1) := by decide +kernel
theorem dX8_readsMan_146 : decode cX8_readsMan 146 = .ok (.aload_n 0, 1) := by decide +kernel
theorem dX8_readsMan_147 : decode cX8_readsMan 147 = .ok (.getfield 19, 3) := by decide +kernel
theorem dX8_readsMan_150 : decode cX8_readsMan 150 = .ok (.iconst 4, 1) := by decide +kernel
theorem dX8_readsMan_151 : decode cX8_readsMan 151 = .ok (.iload_n 1, 1) := by decide +kernel
theorem dX8_readsMan_152 : decode cX8_readsMan 152 = .ok (.iadd, 1) := by decide +kernel
theorem dX8_readsMan_153 : decode cX8_readsMan 153 = .ok (.iload 5, 2) := by decide +kernel
theorem dX8_readsMan_155 : decode cX8_readsMan 155 = .ok (.iastore, 1) := by decide +kernel
theorem dX8_readsMan_156 : decode cX8_readsMan 156 = .ok (.aload_n 0, 1) := by decide +kernel
theorem dX8_readsMan_157 : decode cX8_readsMan 157 = .ok (.getfield 19, 3) := by decide +kernel
theorem dX8_readsMan_160 : decode cX8_readsMan 160 = .ok (.bipush 10, 2) := by decide +kernel
theorem dX8_readsMan_162 : decode cX8_readsMan 162 = .ok (.iload_n 1, 1) := by decide +kernel
theorem dX8_readsMan_163 : decode cX8_readsMan 163 = .ok (.iadd, 1) := by decide +kernel
theorem dX8_readsMan_164 : decode cX8_readsMan 164 = .ok (.iload_n 1, 1) := by decide +kernel
theorem dX8_readsMan_165 : decode cX8_readsMan 165 = .ok (.iastore, 1) := by decide +kernel
theorem dX8_readsMan_166 : decode cX8_readsMan 166 = .ok (.aload_n 0, 1) := by decide +kernel
theorem dX8_readsMan_167 : decode cX8_readsMan 167 = .ok (.invokevirtual 95, 3) := by decide +kernel
theorem dX8_readsMan_170 : decode cX8_readsMan 170 = .ok (.bipush 46, 2) := by decide +kernel
theorem dX8_readsMan_172 : decode cX8_readsMan 172 = .ok (.if_icmp .eq 53, 3) := by decide +kernel
theorem dX8_readsMan_175 : decode cX8_readsMan 175 = .ok (.iconst 0, 1) := by decide +kernel
theorem dX8_readsMan_176 : decode cX8_readsMan 176 = .ok (.istore 6, 2) := by decide +kernel
theorem dX8_readsMan_178 : decode cX8_readsMan 178 = .ok (.iload 6, 2) := by decide +kernel
theorem dX8_readsMan_180 : decode cX8_readsMan 180 = .ok (.iconst 3, 1) := by decide +kernel
theorem dX8_readsMan_181 : decode cX8_readsMan 181 = .ok (.if_icmp .ge 42, 3) := by decide +kernel
theorem dX8_readsMan_184 : decode cX8_readsMan 184 = .ok (.aload_n 0, 1) := by decide +kernel
theorem dX8_readsMan_185 : decode cX8_readsMan 185 = .ok (.iload_n 1, 1) := by decide +kernel
theorem dX8_readsMan_186 : decode cX8_readsMan 186 = .ok (.iload 6, 2) := by decide +kernel
theorem dX8_readsMan_188 : decode cX8_readsMan 188 = .ok (.iload_n 1, 1) := by decide +kernel
theorem dX8_readsMan_189 : decode cX8_readsMan 189 = .ok (.invokevirtual 104, 3) := by decide +kernel
theorem dX8_readsMan_192 : decode cX8_readsMan 192 = .ok (.ifCond .eq 10, 3) := by decide +kernel
theorem dX8_readsMan_195 : decode cX8_readsMan 195 = .ok (.aload_n 0, 1) := by decide +kernel
theorem dX8_readsMan_196 : decode cX8_readsMan 196 = .ok (.iload_n 3, 1) := by decide +kernel
theorem dX8_readsMan_197 : decode cX8_readsMan 197 = .ok (.putfield 89, 3) := by decide +kernel
theorem dX8_readsMan_200 : decode cX8_readsMan 200 = .ok (.iconst 0, 1) := by decide +kernel
theorem dX8_readsMan_201 : decode cX8_readsMan 201 = .ok (.ireturn, 1) := by decide +kernel
theorem dX8_readsMan_202 : decode cX8_readsMan 202 = .ok (.aload_n 0, 1) := by decide +kernel
theorem dX8_readsMan_203 : decode cX8_readsMan 203 = .ok (.getfield 19, 3) := by decide +kernel
theorem dX8_readsMan_206 : decode cX8_readsMan 206 = .ok (.bipush 22, 2) := by decide +kernel
theorem dX8_readsMan_208 : decode cX8_readsMan 208 = .ok (.iconst 3, 1) := by decide +kernel
theorem dX8_readsMan_209 : decode cX8_readsMan 209 = .ok (.iload_n 1, 1) := by decide +kernel
theorem dX8_readsMan_210 : decode cX8_readsMan 210 = .ok (.imul, 1) := by decide +kernel
theorem dX8_readsMan_211 : decode cX8_readsMan 211 = .ok (.iadd, 1) := by decide +kernel
theorem dX8_readsMan_212 : decode cX8_readsMan 212 = .ok (.iload 6, 2) := by decide +kernel
theorem dX8_readsMan_214 : decode cX8_readsMan 214 = .ok (.iadd, 1) := by decide +kernel
theorem dX8_readsMan_215 : decode cX8_readsMan 215 = .ok (.iload_n 1, 1) := by decide +kernel
theorem dX8_readsMan_216 : decode cX8_readsMan 216 = .ok (.iastore, 1) := by decide +kernel
theorem dX8_readsMan_217 : decode cX8_readsMan 217 = .ok (.iinc 6 1, 3) := by decide +kernel
theorem dX8_readsMan_220 : decode cX8_readsMan 220 = .ok (.goto (-42), 3) := by decide +kernel
theorem dX8_readsMan_223 : decode cX8_readsMan 223 = .ok (.iconst 1, 1) := by decide +kernel
theorem dX8_readsMan_224 : decode cX8_readsMan 224 = .ok (.ireturn, 1) := by decide +kernel
theorem dX8_readsMan_225 : decode cX8_readsMan 225 = .ok (.aload_n 0, 1) := by decide +kernel
theorem dX8_readsMan_226 : decode cX8_readsMan 226 = .ok (.dup, 1) := by decide +kernel
theorem dX8_readsMan_227 : decode cX8_readsMan 227 = .ok (.getfield 89, 3) := by decide +kernel
theorem dX8_readsMan_230 : decode cX8_readsMan 230 = .ok (.iconst 1, 1) := by decide +kernel
theorem dX8_readsMan_231 : decode cX8_readsMan 231 = .ok (.iadd, 1) := by decide +kernel
theorem dX8_readsMan_232 : decode cX8_readsMan 232 = .ok (.putfield 89, 3) := by decide +kernel
theorem dX8_readsMan_235 : decode cX8_readsMan 235 = .ok (.iconst 0, 1) := by decide +kernel
theorem dX8_readsMan_236 : decode cX8_readsMan 236 = .ok (.istore 6, 2) := by decide +kernel
theorem dX8_readsMan_238 : decode cX8_readsMan 238 = .ok (.iload 6, 2) := by decide +kernel
theorem dX8_readsMan_240 : decode cX8_readsMan 240 = .ok (.iconst 3, 1) := by decide +kernel
theorem dX8_readsMan_241 : decode cX8_readsMan 241 = .ok (.if_icmp .ge 69, 3) := by decide +kernel
theorem dX8_readsMan_244 : decode cX8_readsMan 244 = .ok (.aload_n 0, 1) := by decide +kernel
theorem dX8_readsMan_245 : decode cX8_readsMan 245 = .ok (.invokevirtual 95, 3) := by decide +kernel
theorem dX8_readsMan_248 : decode cX8_readsMan 248 = .ok (.istore 7, 2) := by decide +kernel
theorem dX8_readsMan_250 : decode cX8_readsMan 250 = .ok (.iload 7, 2) := by decide +kernel
theorem dX8_readsMan_252 : decode cX8_readsMan 252 = .ok (.invokestatic 101, 3) := by decide +kernel
theorem dX8_readsMan_255 : decode cX8_readsMan 255 = .ok (.ifCond .eq 18, 3) := by decide +kernel
theorem dX8_readsMan_258 : decode cX8_readsMan 258 = .ok (.aload_n 0, 1) := by decide +kernel
theorem dX8_readsMan_259 : decode cX8_readsMan 259 = .ok (.iload_n 1, 1) := by decide +kernel
theorem dX8_readsMan_260 : decode cX8_readsMan 260 = .ok (.iload 6, 2) := by decide +kernel
theorem dX8_readsMan_262 : decode cX8_readsMan 262 = .ok (.iload 7, 2) := by decide +kernel
theorem dX8_readsMan_264 : decode cX8_readsMan 264 = .ok (.bipush 48, 2) := by decide +kernel
theorem dX8_readsMan_266 : decode cX8_readsMan 266 = .ok (.isub, 1) := by decide +kernel
theorem dX8_readsMan_267 : decode cX8_readsMan 267 = .ok (.invokevirtual 104, 3) := by decide +kernel
theorem dX8_readsMan_270 : decode cX8_readsMan 270 = .ok (.ifCond .eq 5, 3) := by decide +kernel
theorem dX8_readsMan_273 : decode cX8_readsMan 273 = .ok (.iconst 0, 1) := by decide +kernel
theorem dX8_readsMan_274 : decode cX8_readsMan 274 = .ok (.ireturn, 1) := by decide +kernel
theorem dX8_readsMan_275 : decode cX8_readsMan 275 = .ok (.aload_n 0, 1) := by decide +kernel
theorem dX8_readsMan_276 : decode cX8_readsMan 276 = .ok (.getfield 19, 3) := by decide +kernel
theorem dX8_readsMan_279 : decode cX8_readsMan 279 = .ok (.bipush 22, 2) := by decide +kernel
theorem dX8_readsMan_281 : decode cX8_readsMan 281 = .ok (.iconst 3, 1) := by decide +kernel
theorem dX8_readsMan_282 : decode cX8_readsMan 282 = .ok (.iload_n 1, 1) := by decide +kernel
theorem dX8_readsMan_283 : decode cX8_readsMan 283 = .ok (.imul, 1) := by decide +kernel
theorem dX8_readsMan_284 : decode cX8_readsMan 284 = .ok (.iadd, 1) := by decide +kernel
theorem dX8_readsMan_285 : decode cX8_readsMan 285 = .ok (.iload 6, 2) := by decide +kernel
theorem dX8_readsMan_287 : decode cX8_readsMan 287 = .ok (.iadd, 1) := by decide +kernel
theorem dX8_readsMan_288 : decode cX8_readsMan 288 = .ok (.iload 7, 2) := by decide +kernel
theorem dX8_readsMan_290 : decode cX8_readsMan 290 = .ok (.bipush 48, 2) := by decide +kernel
theorem dX8_readsMan_292 : decode cX8_readsMan 292 = .ok (.isub, 1) := by decide +kernel
theorem dX8_readsMan_293 : decode cX8_readsMan 293 = .ok (.iastore, 1) := by decide +kernel
theorem dX8_readsMan_294 : decode cX8_readsMan 294 = .ok (.aload_n 0, 1) := by decide +kernel
theorem dX8_readsMan_295 : decode cX8_readsMan 295 = .ok (.dup, 1) := by decide +kernel
theorem dX8_readsMan_296 : decode cX8_readsMan 296 = .ok (.getfield 89, 3) := by decide +kernel
theorem dX8_readsMan_299 : decode cX8_readsMan 299 = .ok (.iconst 1, 1) := by decide +kernel
theorem dX8_readsMan_300 : decode cX8_readsMan 300 = .ok (.iadd, 1) := by decide +kernel
theorem dX8_readsMan_301 : decode cX8_readsMan 301 = .ok (.putfield 89, 3) := by decide +kernel
theorem dX8_readsMan_304 : decode cX8_readsMan 304 = .ok (.iinc 6 1, 3) := by decide +kernel
theorem dX8_readsMan_307 : decode cX8_readsMan 307 = .ok (.goto (-69), 3) := by decide +kernel
theorem dX8_readsMan_310 : decode cX8_readsMan 310 = .ok (.iconst 1, 1) := by decide +kernel
theorem dX8_readsMan_311 : decode cX8_readsMan 311 = .ok (.ireturn, 1) := by decide +kernel
theorem dX8_readsAll_0 : decode cX8_readsAll 0 = .ok (.aload_n 0, 1) := by decide +kernel
theorem dX8_readsAll_1 : decode cX8_readsAll 1 = .ok (.iconst 0, 1) := by decide +kernel
theorem dX8_readsAll_2 : decode cX8_readsAll 2 = .ok (.putfield 89, 3) := by decide +kernel
theorem dX8_readsAll_5 : decode cX8_readsAll 5 = .ok (.iconst 0, 1) := by decide +kernel
theorem dX8_readsAll_6 : decode cX8_readsAll 6 = .ok (.istore_n 1, 1) := by decide +kernel
theorem dX8_readsAll_7 : decode cX8_readsAll 7 = .ok (.iload_n 1, 1) := by decide +kernel
theorem dX8_readsAll_8 : decode cX8_readsAll 8 = .ok (.bipush 6, 2) := by decide +kernel
theorem dX8_readsAll_10 : decode cX8_readsAll 10 = .ok (.if_icmp .ge 54, 3) := by decide +kernel
theorem dX8_readsAll_13 : decode cX8_readsAll 13 = .ok (.aload_n 0, 1) := by decide +kernel
theorem dX8_readsAll_14 : decode cX8_readsAll 14 = .ok (.iload_n 1, 1) := by decide +kernel
theorem dX8_readsAll_15 : decode cX8_readsAll 15 = .ok (.invokevirtual 107, 3) := by decide +kernel
theorem dX8_readsAll_18 : decode cX8_readsAll 18 = .ok (.ifCond .ne 5, 3) := by decide +kernel
theorem dX8_readsAll_21 : decode cX8_readsAll 21 = .ok (.iconst (-1), 1) := by decide +kernel
theorem dX8_readsAll_22 : decode cX8_readsAll 22 = .ok (.ireturn, 1) := by decide +kernel
theorem dX8_readsAll_23 : decode cX8_readsAll 23 = .ok (.iinc 1 1, 3) := by decide +kernel
theorem dX8_readsAll_26 : decode cX8_readsAll 26 = .ok (.aload_n 0, 1) := by decide +kernel
theorem dX8_readsAll_27 : decode cX8_readsAll 27 = .ok (.invokevirtual 95, 3) := by decide +kernel
theorem dX8_readsAll_30 : decode cX8_readsAll 30 = .ok (.istore_n 2, 1) := by decide +kernel
theorem dX8_readsAll_31 : decode cX8_readsAll 31 = .ok (.iload_n 2, 1) := by decide +kernel
theorem dX8_readsAll_32 : decode cX8_readsAll 32 = .ok (.ifCond .ge 5, 3) := by decide +kernel
theorem dX8_readsAll_35 : decode cX8_readsAll 35 = .ok (.iload_n 1, 1) := by decide +kernel
theorem dX8_readsAll_36 : decode cX8_readsAll 36 = .ok (.ireturn, 1) := by decide +kernel
theorem dX8_readsAll_37 : decode cX8_readsAll 37 = .ok (.iload_n 2, 1) := by decide +kernel
theorem dX8_readsAll_38 : decode cX8_readsAll 38 = .ok (.bipush 44, 2) := by decide +kernel
theorem dX8_readsAll_40 : decode cX8_readsAll 40 = .ok (.if_icmp .ne 9, 3) := by decide +kernel
theorem dX8_readsAll_43 : decode cX8_readsAll 43 = .ok (.iload_n 1, 1) := by decide +kernel
theorem dX8_readsAll_44 : decode cX8_readsAll 44 = .ok (.bipush 6, 2) := by decide +kernel
theorem dX8_readsAll_46 : decode cX8_readsAll 46 = .ok (.if_icmp .ne 5, 3) := by decide +kernel
theorem dX8_readsAll_49 : decode cX8_readsAll 49 = .ok (.iconst (-1), 1) := by decide +kernel
theorem dX8_readsAll_50 : decode cX8_readsAll 50 = .ok (.ireturn, 1) := by decide +kernel
theorem dX8_readsAll_51 : decode cX8_readsAll 51 = .ok (.aload_n 0, 1) := by decide +kernel
theorem dX8_readsAll_52 : decode cX8_readsAll 52 = .ok (.dup, 1) := by decide +kernel
theorem dX8_readsAll_53 : decode cX8_readsAll 53 = .ok (.getfield 89, 3) := by decide +kernel
theorem dX8_readsAll_56 : decode cX8_readsAll 56 = .ok (.iconst 1, 1) := by decide +kernel
theorem dX8_readsAll_57 : decode cX8_readsAll 57 = .ok (.iadd, 1) := by decide +kernel
theorem dX8_readsAll_58 : decode cX8_readsAll 58 = .ok (.putfield 89, 3) := by decide +kernel
theorem dX8_readsAll_61 : decode cX8_readsAll 61 = .ok (.goto (-54), 3) := by decide +kernel
theorem dX8_readsAll_64 : decode cX8_readsAll 64 = .ok (.iload_n 1, 1) := by decide +kernel
theorem dX8_readsAll_65 : decode cX8_readsAll 65 = .ok (.ireturn, 1) := by decide +kernel
theorem dX8_read_0 : decode cX8_read 0 = .ok (.iconst 0, 1) := by decide +kernel
theorem dX8_read_1 : decode cX8_read 1 = .ok (.istore_n 1, 1) := by decide +kernel
theorem dX8_read_2 : decode cX8_read 2 = .ok (.iload_n 1, 1) := by decide +kernel
theorem dX8_read_3 : decode cX8_read 3 = .ok (.bipush 40, 2) := by decide +kernel
theorem dX8_read_5 : decode cX8_read 5 = .ok (.if_icmp .ge 16, 3) := by decide +kernel
theorem dX8_read_8 : decode cX8_read 8 = .ok (.aload_n 0, 1) := by decide +kernel
theorem dX8_read_9 : decode cX8_read 9 = .ok (.getfield 19, 3) := by decide +kernel
theorem dX8_read_12 : decode cX8_read 12 = .ok (.iload_n 1, 1) := by decide +kernel
theorem dX8_read_13 : decode cX8_read 13 = .ok (.iconst 0, 1) := by decide +kernel
theorem dX8_read_14 : decode cX8_read 14 = .ok (.iastore, 1) := by decide +kernel
theorem dX8_read_15 : decode cX8_read 15 = .ok (.iinc 1 1, 3) := by decide +kernel
theorem dX8_read_18 : decode cX8_read 18 = .ok (.goto (-16), 3) := by decide +kernel
theorem dX8_read_21 : decode cX8_read 21 = .ok (.aload_n 0, 1) := by decide +kernel
theorem dX8_read_22 : decode cX8_read 22 = .ok (.invokevirtual 110, 3) := by decide +kernel
theorem dX8_read_25 : decode cX8_read 25 = .ok (.istore_n 1, 1) := by decide +kernel
theorem dX8_read_26 : decode cX8_read 26 = .ok (.aload_n 0, 1) := by decide +kernel
theorem dX8_read_27 : decode cX8_read 27 = .ok (.iconst 0, 1) := by decide +kernel
theorem dX8_read_28 : decode cX8_read 28 = .ok (.putfield 85, 3) := by decide +kernel
theorem dX8_read_31 : decode cX8_read 31 = .ok (.iload_n 1, 1) := by decide +kernel
theorem dX8_read_32 : decode cX8_read 32 = .ok (.ifCond .ge 11, 3) := by decide +kernel
theorem dX8_read_35 : decode cX8_read 35 = .ok (.bipush (-20), 2) := by decide +kernel
theorem dX8_read_37 : decode cX8_read 37 = .ok (.aload_n 0, 1) := by decide +kernel
theorem dX8_read_38 : decode cX8_read 38 = .ok (.getfield 89, 3) := by decide +kernel
theorem dX8_read_41 : decode cX8_read 41 = .ok (.isub, 1) := by decide +kernel
theorem dX8_read_42 : decode cX8_read 42 = .ok (.ireturn, 1) := by decide +kernel
theorem dX8_read_43 : decode cX8_read 43 = .ok (.aload_n 0, 1) := by decide +kernel
theorem dX8_read_44 : decode cX8_read 44 = .ok (.getfield 7, 3) := by decide +kernel
theorem dX8_read_47 : decode cX8_read 47 = .ok (.iconst 3, 1) := by decide +kernel
theorem dX8_read_48 : decode cX8_read 48 = .ok (.iaload, 1) := by decide +kernel
theorem dX8_read_49 : decode cX8_read 49 = .ok (.istore_n 2, 1) := by decide +kernel
theorem dX8_read_50 : decode cX8_read 50 = .ok (.iconst 0, 1) := by decide +kernel
theorem dX8_read_51 : decode cX8_read 51 = .ok (.istore_n 3, 1) := by decide +kernel
theorem dX8_read_52 : decode cX8_read 52 = .ok (.iload_n 3, 1) := by decide +kernel
theorem dX8_read_53 : decode cX8_read 53 = .ok (.bipush 40, 2) := by decide +kernel
theorem dX8_read_55 : decode cX8_read 55 = .ok (.if_icmp .ge 21, 3) := by decide +kernel
theorem dX8_read_58 : decode cX8_read 58 = .ok (.aload_n 0, 1) := by decide +kernel
theorem dX8_read_59 : decode cX8_read 59 = .ok (.getfield 7, 3) := by decide +kernel
theorem dX8_read_62 : decode cX8_read 62 = .ok (.iload_n 3, 1) := by decide +kernel
theorem dX8_read_63 : decode cX8_read 63 = .ok (.aload_n 0, 1) := by decide +kernel
theorem dX8_read_64 : decode cX8_read 64 = .ok (.getfield 19, 3) := by decide +kernel
theorem dX8_read_67 : decode cX8_read 67 = .ok (.iload_n 3, 1) := by decide +kernel
theorem dX8_read_68 : decode cX8_read 68 = .ok (.iaload, 1) := by decide +kernel
theorem dX8_read_69 : decode cX8_read 69 = .ok (.iastore, 1) := by decide +kernel
theorem dX8_read_70 : decode cX8_read 70 = .ok (.iinc 3 1, 3) := by decide +kernel
theorem dX8_read_73 : decode cX8_read 73 = .ok (.goto (-21), 3) := by decide +kernel
theorem dX8_read_76 : decode cX8_read 76 = .ok (.aload_n 0, 1) := by decide +kernel
theorem dX8_read_77 : decode cX8_read 77 = .ok (.getfield 7, 3) := by decide +kernel
theorem dX8_read_80 : decode cX8_read 80 = .ok (.iconst 0, 1) := by decide +kernel
theorem dX8_read_81 : decode cX8_read 81 = .ok (.iload_n 1, 1) := by decide +kernel
theorem dX8_read_82 : decode cX8_read 82 = .ok (.iastore, 1) := by decide +kernel
theorem dX8_read_83 : decode cX8_read 83 = .ok (.aload_n 0, 1) := by decide +kernel
theorem dX8_read_84 : decode cX8_read 84 = .ok (.getfield 7, 3) := by decide +kernel
theorem dX8_read_87 : decode cX8_read 87 = .ok (.iconst 1, 1) := by decide +kernel
theorem dX8_read_88 : decode cX8_read 88 = .ok (.iload_n 1, 1) := by decide +kernel
theorem dX8_read_89 : decode cX8_read 89 = .ok (.iastore, 1) := by decide +kernel
theorem dX8_read_90 : decode cX8_read 90 = .ok (.aload_n 0, 1) := by decide +kernel
theorem dX8_read_91 : decode cX8_read 91 = .ok (.getfield 7, 3) := by decide +kernel
theorem dX8_read_94 : decode cX8_read 94 = .ok (.iconst 3, 1) := by decide +kernel
theorem dX8_read_95 : decode cX8_read 95 = .ok (.iload_n 2, 1) := by decide +kernel
theorem dX8_read_96 : decode cX8_read 96 = .ok (.iastore, 1) := by decide +kernel
theorem dX8_read_97 : decode cX8_read 97 = .ok (.aload_n 0, 1) := by decide +kernel
theorem dX8_read_98 : decode cX8_read 98 = .ok (.getfield 7, 3) := by decide +kernel
theorem dX8_read_101 : decode cX8_read 101 = .ok (.bipush 40, 2) := by decide +kernel
theorem dX8_read_103 : decode cX8_read 103 = .ok (.iconst 0, 1) := by decide +kernel
theorem dX8_read_104 : decode cX8_read 104 = .ok (.iastore, 1) := by decide +kernel
theorem dX8_read_105 : decode cX8_read 105 = .ok (.iload_n 1, 1) := by decide +kernel
theorem dX8_read_106 : decode cX8_read 106 = .ok (.ireturn, 1) := by decide +kernel
theorem dX8_lives_0 : decode cX8_lives 0 = .ok (.iconst 0, 1) := by decide +kernel
theorem dX8_lives_1 : decode cX8_lives 1 = .ok (.istore_n 1, 1) := by decide +kernel
theorem dX8_lives_2 : decode cX8_lives 2 = .ok (.iconst 0, 1) := by decide +kernel
theorem dX8_lives_3 : decode cX8_lives 3 = .ok (.istore_n 2, 1) := by decide +kernel
theorem dX8_lives_4 : decode cX8_lives 4 = .ok (.iload_n 2, 1) := by decide +kernel
theorem dX8_lives_5 : decode cX8_lives 5 = .ok (.aload_n 0, 1) := by decide +kernel
theorem dX8_lives_6 : decode cX8_lives 6 = .ok (.getfield 7, 3) := by decide +kernel
theorem dX8_lives_9 : decode cX8_lives 9 = .ok (.iconst 0, 1) := by decide +kernel
theorem dX8_lives_10 : decode cX8_lives 10 = .ok (.iaload, 1) := by decide +kernel
theorem dX8_lives_11 : decode cX8_lives 11 = .ok (.if_icmp .ge 20, 3) := by decide +kernel
theorem dX8_lives_14 : decode cX8_lives 14 = .ok (.iload_n 1, 1) := by decide +kernel
theorem dX8_lives_15 : decode cX8_lives 15 = .ok (.aload_n 0, 1) := by decide +kernel
theorem dX8_lives_16 : decode cX8_lives 16 = .ok (.getfield 7, 3) := by decide +kernel
theorem dX8_lives_19 : decode cX8_lives 19 = .ok (.iconst 4, 1) := by decide +kernel
theorem dX8_lives_20 : decode cX8_lives 20 = .ok (.iload_n 2, 1) := by decide +kernel
theorem dX8_lives_21 : decode cX8_lives 21 = .ok (.iadd, 1) := by decide +kernel
theorem dX8_lives_22 : decode cX8_lives 22 = .ok (.iaload, 1) := by decide +kernel
theorem dX8_lives_23 : decode cX8_lives 23 = .ok (.iadd, 1) := by decide +kernel
theorem dX8_lives_24 : decode cX8_lives 24 = .ok (.istore_n 1, 1) := by decide +kernel
theorem dX8_lives_25 : decode cX8_lives 25 = .ok (.iinc 2 1, 3) := by decide +kernel
theorem dX8_lives_28 : decode cX8_lives 28 = .ok (.goto (-24), 3) := by decide +kernel
theorem dX8_lives_31 : decode cX8_lives 31 = .ok (.iload_n 1, 1) := by decide +kernel
theorem dX8_lives_32 : decode cX8_lives 32 = .ok (.ireturn, 1) := by decide +kernel
theorem dX8_wrong_0 : decode cX8_wrong 0 = .ok (.iconst 0, 1) := by decide +kernel
theorem dX8_wrong_1 : decode cX8_wrong 1 = .ok (.istore_n 1, 1) := by decide +kernel
theorem dX8_wrong_2 : decode cX8_wrong 2 = .ok (.iconst 1, 1) := by decide +kernel
theorem dX8_wrong_3 : decode cX8_wrong 3 = .ok (.istore_n 2, 1) := by decide +kernel
theorem dX8_wrong_4 : decode cX8_wrong 4 = .ok (.iload_n 2, 1) := by decide +kernel
theorem dX8_wrong_5 : decode cX8_wrong 5 = .ok (.aload_n 0, 1) := by decide +kernel
theorem dX8_wrong_6 : decode cX8_wrong 6 = .ok (.getfield 7, 3) := by decide +kernel
theorem dX8_wrong_9 : decode cX8_wrong 9 = .ok (.iconst 1, 1) := by decide +kernel
theorem dX8_wrong_10 : decode cX8_wrong 10 = .ok (.iaload, 1) := by decide +kernel
theorem dX8_wrong_11 : decode cX8_wrong 11 = .ok (.if_icmp .ge 44, 3) := by decide +kernel
theorem dX8_wrong_14 : decode cX8_wrong 14 = .ok (.iload_n 1, 1) := by decide +kernel
theorem dX8_wrong_15 : decode cX8_wrong 15 = .ok (.aload_n 0, 1) := by decide +kernel
theorem dX8_wrong_16 : decode cX8_wrong 16 = .ok (.aload_n 0, 1) := by decide +kernel
theorem dX8_wrong_17 : decode cX8_wrong 17 = .ok (.getfield 7, 3) := by decide +kernel
theorem dX8_wrong_20 : decode cX8_wrong 20 = .ok (.bipush 10, 2) := by decide +kernel
theorem dX8_wrong_22 : decode cX8_wrong 22 = .ok (.iload_n 2, 1) := by decide +kernel
theorem dX8_wrong_23 : decode cX8_wrong 23 = .ok (.iadd, 1) := by decide +kernel
theorem dX8_wrong_24 : decode cX8_wrong 24 = .ok (.iconst 1, 1) := by decide +kernel
theorem dX8_wrong_25 : decode cX8_wrong 25 = .ok (.isub, 1) := by decide +kernel
theorem dX8_wrong_26 : decode cX8_wrong 26 = .ok (.iaload, 1) := by decide +kernel
theorem dX8_wrong_27 : decode cX8_wrong 27 = .ok (.aload_n 0, 1) := by decide +kernel
theorem dX8_wrong_28 : decode cX8_wrong 28 = .ok (.getfield 7, 3) := by decide +kernel
theorem dX8_wrong_31 : decode cX8_wrong 31 = .ok (.bipush 10, 2) := by decide +kernel
theorem dX8_wrong_33 : decode cX8_wrong 33 = .ok (.iload_n 2, 1) := by decide +kernel
theorem dX8_wrong_34 : decode cX8_wrong 34 = .ok (.iadd, 1) := by decide +kernel
theorem dX8_wrong_35 : decode cX8_wrong 35 = .ok (.iaload, 1) := by decide +kernel
theorem dX8_wrong_36 : decode cX8_wrong 36 = .ok (.invokevirtual 56, 3) := by decide +kernel
theorem dX8_wrong_39 : decode cX8_wrong 39 = .ok (.ifCond .eq 7, 3) := by decide +kernel
theorem dX8_wrong_42 : decode cX8_wrong 42 = .ok (.iconst 0, 1) := by decide +kernel
theorem dX8_wrong_43 : decode cX8_wrong 43 = .ok (.goto 4, 3) := by decide +kernel
theorem dX8_wrong_46 : decode cX8_wrong 46 = .ok (.iconst 1, 1) := by decide +kernel
theorem dX8_wrong_47 : decode cX8_wrong 47 = .ok (.iadd, 1) := by decide +kernel
theorem dX8_wrong_48 : decode cX8_wrong 48 = .ok (.istore_n 1, 1) := by decide +kernel
theorem dX8_wrong_49 : decode cX8_wrong 49 = .ok (.iinc 2 1, 3) := by decide +kernel
theorem dX8_wrong_52 : decode cX8_wrong 52 = .ok (.goto (-48), 3) := by decide +kernel
theorem dX8_wrong_55 : decode cX8_wrong 55 = .ok (.iload_n 1, 1) := by decide +kernel
theorem dX8_wrong_56 : decode cX8_wrong 56 = .ok (.ireturn, 1) := by decide +kernel
theorem dX8_count_0 : decode cX8_count 0 = .ok (.iload_n 1, 1) := by decide +kernel
theorem dX8_count_1 : decode cX8_count 1 = .ok (.tableswitch 87 0 6 #[43, 50, 57, 64, 69, 74, 79], 43) := by decide +kernel
theorem dX8_count_44 : decode cX8_count 44 = .ok (.aload_n 0, 1) := by decide +kernel
theorem dX8_count_45 : decode cX8_count 45 = .ok (.getfield 7, 3) := by decide +kernel
theorem dX8_count_48 : decode cX8_count 48 = .ok (.iconst 0, 1) := by decide +kernel
theorem dX8_count_49 : decode cX8_count 49 = .ok (.iaload, 1) := by decide +kernel
theorem dX8_count_50 : decode cX8_count 50 = .ok (.ireturn, 1) := by decide +kernel
theorem dX8_count_51 : decode cX8_count 51 = .ok (.aload_n 0, 1) := by decide +kernel
theorem dX8_count_52 : decode cX8_count 52 = .ok (.getfield 7, 3) := by decide +kernel
theorem dX8_count_55 : decode cX8_count 55 = .ok (.iconst 1, 1) := by decide +kernel
theorem dX8_count_56 : decode cX8_count 56 = .ok (.iaload, 1) := by decide +kernel
theorem dX8_count_57 : decode cX8_count 57 = .ok (.ireturn, 1) := by decide +kernel
theorem dX8_count_58 : decode cX8_count 58 = .ok (.aload_n 0, 1) := by decide +kernel
theorem dX8_count_59 : decode cX8_count 59 = .ok (.getfield 7, 3) := by decide +kernel
theorem dX8_count_62 : decode cX8_count 62 = .ok (.iconst 2, 1) := by decide +kernel
theorem dX8_count_63 : decode cX8_count 63 = .ok (.iaload, 1) := by decide +kernel
theorem dX8_count_64 : decode cX8_count 64 = .ok (.ireturn, 1) := by decide +kernel
theorem dX8_count_65 : decode cX8_count 65 = .ok (.aload_n 0, 1) := by decide +kernel
theorem dX8_count_66 : decode cX8_count 66 = .ok (.invokevirtual 75, 3) := by decide +kernel
theorem dX8_count_69 : decode cX8_count 69 = .ok (.ireturn, 1) := by decide +kernel
theorem dX8_count_70 : decode cX8_count 70 = .ok (.aload_n 0, 1) := by decide +kernel
theorem dX8_count_71 : decode cX8_count 71 = .ok (.invokevirtual 113, 3) := by decide +kernel
theorem dX8_count_74 : decode cX8_count 74 = .ok (.ireturn, 1) := by decide +kernel
theorem dX8_count_75 : decode cX8_count 75 = .ok (.aload_n 0, 1) := by decide +kernel
theorem dX8_count_76 : decode cX8_count 76 = .ok (.invokevirtual 116, 3) := by decide +kernel
theorem dX8_count_79 : decode cX8_count 79 = .ok (.ireturn, 1) := by decide +kernel
theorem dX8_count_80 : decode cX8_count 80 = .ok (.aload_n 0, 1) := by decide +kernel
theorem dX8_count_81 : decode cX8_count 81 = .ok (.getfield 7, 3) := by decide +kernel
theorem dX8_count_84 : decode cX8_count 84 = .ok (.bipush 40, 2) := by decide +kernel
theorem dX8_count_86 : decode cX8_count 86 = .ok (.iaload, 1) := by decide +kernel
theorem dX8_count_87 : decode cX8_count 87 = .ok (.ireturn, 1) := by decide +kernel
theorem dX8_count_88 : decode cX8_count 88 = .ok (.iconst (-1), 1) := by decide +kernel
theorem dX8_count_89 : decode cX8_count 89 = .ok (.ireturn, 1) := by decide +kernel
theorem dX8_keeps_0 : decode cX8_keeps 0 = .ok (.aload_n 0, 1) := by decide +kernel
theorem dX8_keeps_1 : decode cX8_keeps 1 = .ok (.getfield 7, 3) := by decide +kernel
theorem dX8_keeps_4 : decode cX8_keeps 4 = .ok (.bipush 40, 2) := by decide +kernel
theorem dX8_keeps_6 : decode cX8_keeps 6 = .ok (.iaload, 1) := by decide +kernel
theorem dX8_keeps_7 : decode cX8_keeps 7 = .ok (.bipush 8, 2) := by decide +kernel
theorem dX8_keeps_9 : decode cX8_keeps 9 = .ok (.if_icmp .ne 45, 3) := by decide +kernel
theorem dX8_keeps_12 : decode cX8_keeps 12 = .ok (.bipush 41, 2) := by decide +kernel
theorem dX8_keeps_14 : decode cX8_keeps 14 = .ok (.istore_n 1, 1) := by decide +kernel
theorem dX8_keeps_15 : decode cX8_keeps 15 = .ok (.iload_n 1, 1) := by decide +kernel
theorem dX8_keeps_16 : decode cX8_keeps 16 = .ok (.sipush 146, 3) := by decide +kernel
theorem dX8_keeps_19 : decode cX8_keeps 19 = .ok (.if_icmp .ge 24, 3) := by decide +kernel
theorem dX8_keeps_22 : decode cX8_keeps 22 = .ok (.aload_n 0, 1) := by decide +kernel
theorem dX8_keeps_23 : decode cX8_keeps 23 = .ok (.getfield 7, 3) := by decide +kernel
theorem dX8_keeps_26 : decode cX8_keeps 26 = .ok (.iload_n 1, 1) := by decide +kernel
theorem dX8_keeps_27 : decode cX8_keeps 27 = .ok (.aload_n 0, 1) := by decide +kernel
theorem dX8_keeps_28 : decode cX8_keeps 28 = .ok (.getfield 7, 3) := by decide +kernel
theorem dX8_keeps_31 : decode cX8_keeps 31 = .ok (.iload_n 1, 1) := by decide +kernel
theorem dX8_keeps_32 : decode cX8_keeps 32 = .ok (.bipush 15, 2) := by decide +kernel
theorem dX8_keeps_34 : decode cX8_keeps 34 = .ok (.iadd, 1) := by decide +kernel
theorem dX8_keeps_35 : decode cX8_keeps 35 = .ok (.iaload, 1) := by decide +kernel
theorem dX8_keeps_36 : decode cX8_keeps 36 = .ok (.iastore, 1) := by decide +kernel
theorem dX8_keeps_37 : decode cX8_keeps 37 = .ok (.iinc 1 1, 3) := by decide +kernel
theorem dX8_keeps_40 : decode cX8_keeps 40 = .ok (.goto (-25), 3) := by decide +kernel
theorem dX8_keeps_43 : decode cX8_keeps 43 = .ok (.aload_n 0, 1) := by decide +kernel
theorem dX8_keeps_44 : decode cX8_keeps 44 = .ok (.getfield 7, 3) := by decide +kernel
theorem dX8_keeps_47 : decode cX8_keeps 47 = .ok (.bipush 40, 2) := by decide +kernel
theorem dX8_keeps_49 : decode cX8_keeps 49 = .ok (.dup2, 1) := by decide +kernel
theorem dX8_keeps_50 : decode cX8_keeps 50 = .ok (.iaload, 1) := by decide +kernel
theorem dX8_keeps_51 : decode cX8_keeps 51 = .ok (.iconst 1, 1) := by decide +kernel
theorem dX8_keeps_52 : decode cX8_keeps 52 = .ok (.isub, 1) := by decide +kernel
theorem dX8_keeps_53 : decode cX8_keeps 53 = .ok (.iastore, 1) := by decide +kernel
theorem dX8_keeps_54 : decode cX8_keeps 54 = .ok (.iconst 0, 1) := by decide +kernel
theorem dX8_keeps_55 : decode cX8_keeps 55 = .ok (.istore_n 1, 1) := by decide +kernel
theorem dX8_keeps_56 : decode cX8_keeps 56 = .ok (.iload_n 1, 1) := by decide +kernel
theorem dX8_keeps_57 : decode cX8_keeps 57 = .ok (.bipush 15, 2) := by decide +kernel
theorem dX8_keeps_59 : decode cX8_keeps 59 = .ok (.if_icmp .ge 37, 3) := by decide +kernel
theorem dX8_keeps_62 : decode cX8_keeps 62 = .ok (.aload_n 0, 1) := by decide +kernel
theorem dX8_keeps_63 : decode cX8_keeps 63 = .ok (.getfield 7, 3) := by decide +kernel
theorem dX8_keeps_66 : decode cX8_keeps 66 = .ok (.bipush 41, 2) := by decide +kernel
theorem dX8_keeps_68 : decode cX8_keeps 68 = .ok (.bipush 15, 2) := by decide +kernel
theorem dX8_keeps_70 : decode cX8_keeps 70 = .ok (.aload_n 0, 1) := by decide +kernel
theorem dX8_keeps_71 : decode cX8_keeps 71 = .ok (.getfield 7, 3) := by decide +kernel
theorem dX8_keeps_74 : decode cX8_keeps 74 = .ok (.bipush 40, 2) := by decide +kernel
theorem dX8_keeps_76 : decode cX8_keeps 76 = .ok (.iaload, 1) := by decide +kernel
theorem dX8_keeps_77 : decode cX8_keeps 77 = .ok (.imul, 1) := by decide +kernel
theorem dX8_keeps_78 : decode cX8_keeps 78 = .ok (.iadd, 1) := by decide +kernel
theorem dX8_keeps_79 : decode cX8_keeps 79 = .ok (.iload_n 1, 1) := by decide +kernel
theorem dX8_keeps_80 : decode cX8_keeps 80 = .ok (.iadd, 1) := by decide +kernel
theorem dX8_keeps_81 : decode cX8_keeps 81 = .ok (.aload_n 0, 1) := by decide +kernel
theorem dX8_keeps_82 : decode cX8_keeps 82 = .ok (.getfield 7, 3) := by decide +kernel
theorem dX8_keeps_85 : decode cX8_keeps 85 = .ok (.iconst 1, 1) := by decide +kernel
theorem dX8_keeps_86 : decode cX8_keeps 86 = .ok (.iload_n 1, 1) := by decide +kernel
theorem dX8_keeps_87 : decode cX8_keeps 87 = .ok (.iadd, 1) := by decide +kernel
theorem dX8_keeps_88 : decode cX8_keeps 88 = .ok (.iaload, 1) := by decide +kernel
theorem dX8_keeps_89 : decode cX8_keeps 89 = .ok (.iastore, 1) := by decide +kernel
theorem dX8_keeps_90 : decode cX8_keeps 90 = .ok (.iinc 1 1, 3) := by decide +kernel
theorem dX8_keeps_93 : decode cX8_keeps 93 = .ok (.goto (-37), 3) := by decide +kernel
theorem dX8_keeps_96 : decode cX8_keeps 96 = .ok (.aload_n 0, 1) := by decide +kernel
theorem dX8_keeps_97 : decode cX8_keeps 97 = .ok (.getfield 7, 3) := by decide +kernel
theorem dX8_keeps_100 : decode cX8_keeps 100 = .ok (.bipush 40, 2) := by decide +kernel
theorem dX8_keeps_102 : decode cX8_keeps 102 = .ok (.dup2, 1) := by decide +kernel
theorem dX8_keeps_103 : decode cX8_keeps 103 = .ok (.iaload, 1) := by decide +kernel
theorem dX8_keeps_104 : decode cX8_keeps 104 = .ok (.iconst 1, 1) := by decide +kernel
theorem dX8_keeps_105 : decode cX8_keeps 105 = .ok (.iadd, 1) := by decide +kernel
theorem dX8_keeps_106 : decode cX8_keeps 106 = .ok (.iastore, 1) := by decide +kernel
theorem dX8_keeps_107 : decode cX8_keeps 107 = .ok (.return_, 1) := by decide +kernel
theorem dX8_years_0 : decode cX8_years 0 = .ok (.iload_n 1, 1) := by decide +kernel
theorem dX8_years_1 : decode cX8_years 1 = .ok (.iconst 1, 1) := by decide +kernel
theorem dX8_years_2 : decode cX8_years 2 = .ok (.bipush 40, 2) := by decide +kernel
theorem dX8_years_4 : decode cX8_years 4 = .ok (.invokestatic 44, 3) := by decide +kernel
theorem dX8_years_7 : decode cX8_years 7 = .ok (.ifCond .ne 5, 3) := by decide +kernel
theorem dX8_years_10 : decode cX8_years 10 = .ok (.iconst (-1), 1) := by decide +kernel
theorem dX8_years_11 : decode cX8_years 11 = .ok (.ireturn, 1) := by decide +kernel
theorem dX8_years_12 : decode cX8_years 12 = .ok (.aload_n 0, 1) := by decide +kernel
theorem dX8_years_13 : decode cX8_years 13 = .ok (.getfield 7, 3) := by decide +kernel
theorem dX8_years_16 : decode cX8_years 16 = .ok (.iconst 2, 1) := by decide +kernel
theorem dX8_years_17 : decode cX8_years 17 = .ok (.iaload, 1) := by decide +kernel
theorem dX8_years_18 : decode cX8_years 18 = .ok (.iload_n 1, 1) := by decide +kernel
theorem dX8_years_19 : decode cX8_years 19 = .ok (.iadd, 1) := by decide +kernel
theorem dX8_years_20 : decode cX8_years 20 = .ok (.sipush 9999, 3) := by decide +kernel
theorem dX8_years_23 : decode cX8_years 23 = .ok (.if_icmp .le 6, 3) := by decide +kernel
theorem dX8_years_26 : decode cX8_years 26 = .ok (.bipush (-3), 2) := by decide +kernel
theorem dX8_years_28 : decode cX8_years 28 = .ok (.ireturn, 1) := by decide +kernel
theorem dX8_years_29 : decode cX8_years 29 = .ok (.iconst 0, 1) := by decide +kernel
theorem dX8_years_30 : decode cX8_years 30 = .ok (.istore_n 2, 1) := by decide +kernel
theorem dX8_years_31 : decode cX8_years 31 = .ok (.iload_n 2, 1) := by decide +kernel
theorem dX8_years_32 : decode cX8_years 32 = .ok (.iload_n 1, 1) := by decide +kernel
theorem dX8_years_33 : decode cX8_years 33 = .ok (.if_icmp .ge 17, 3) := by decide +kernel
theorem dX8_years_36 : decode cX8_years 36 = .ok (.aload_n 0, 1) := by decide +kernel
theorem dX8_years_37 : decode cX8_years 37 = .ok (.invokevirtual 119, 3) := by decide +kernel
theorem dX8_years_40 : decode cX8_years 40 = .ok (.aload_n 0, 1) := by decide +kernel
theorem dX8_years_41 : decode cX8_years 41 = .ok (.invokevirtual 122, 3) := by decide +kernel
theorem dX8_years_44 : decode cX8_years 44 = .ok (.iinc 2 1, 3) := by decide +kernel
theorem dX8_years_47 : decode cX8_years 47 = .ok (.goto (-16), 3) := by decide +kernel
theorem dX8_years_50 : decode cX8_years 50 = .ok (.aload_n 0, 1) := by decide +kernel
theorem dX8_years_51 : decode cX8_years 51 = .ok (.invokevirtual 75, 3) := by decide +kernel
theorem dX8_years_54 : decode cX8_years 54 = .ok (.ireturn, 1) := by decide +kernel
theorem dX8_changes_0 : decode cX8_changes 0 = .ok (.aload_n 0, 1) := by decide +kernel
theorem dX8_changes_1 : decode cX8_changes 1 = .ok (.getfield 7, 3) := by decide +kernel
theorem dX8_changes_4 : decode cX8_changes 4 = .ok (.bipush 10, 2) := by decide +kernel
theorem dX8_changes_6 : decode cX8_changes 6 = .ok (.iload_n 1, 1) := by decide +kernel
theorem dX8_changes_7 : decode cX8_changes 7 = .ok (.iadd, 1) := by decide +kernel
theorem dX8_changes_8 : decode cX8_changes 8 = .ok (.iaload, 1) := by decide +kernel
theorem dX8_changes_9 : decode cX8_changes 9 = .ok (.istore_n 2, 1) := by decide +kernel
theorem dX8_changes_10 : decode cX8_changes 10 = .ok (.aload_n 0, 1) := by decide +kernel
theorem dX8_changes_11 : decode cX8_changes 11 = .ok (.getfield 7, 3) := by decide +kernel
theorem dX8_changes_14 : decode cX8_changes 14 = .ok (.bipush 10, 2) := by decide +kernel
theorem dX8_changes_16 : decode cX8_changes 16 = .ok (.iload_n 1, 1) := by decide +kernel
theorem dX8_changes_17 : decode cX8_changes 17 = .ok (.iadd, 1) := by decide +kernel
theorem dX8_changes_18 : decode cX8_changes 18 = .ok (.aload_n 0, 1) := by decide +kernel
theorem dX8_changes_19 : decode cX8_changes 19 = .ok (.getfield 7, 3) := by decide +kernel
theorem dX8_changes_22 : decode cX8_changes 22 = .ok (.bipush 10, 2) := by decide +kernel
theorem dX8_changes_24 : decode cX8_changes 24 = .ok (.iload_n 1, 1) := by decide +kernel
theorem dX8_changes_25 : decode cX8_changes 25 = .ok (.iadd, 1) := by decide +kernel
theorem dX8_changes_26 : decode cX8_changes 26 = .ok (.iconst 1, 1) := by decide +kernel
theorem dX8_changes_27 : decode cX8_changes 27 = .ok (.iadd, 1) := by decide +kernel
theorem dX8_changes_28 : decode cX8_changes 28 = .ok (.iaload, 1) := by decide +kernel
theorem dX8_changes_29 : decode cX8_changes 29 = .ok (.iastore, 1) := by decide +kernel
theorem dX8_changes_30 : decode cX8_changes 30 = .ok (.aload_n 0, 1) := by decide +kernel
theorem dX8_changes_31 : decode cX8_changes 31 = .ok (.getfield 7, 3) := by decide +kernel
theorem dX8_changes_34 : decode cX8_changes 34 = .ok (.bipush 10, 2) := by decide +kernel
theorem dX8_changes_36 : decode cX8_changes 36 = .ok (.iload_n 1, 1) := by decide +kernel
theorem dX8_changes_37 : decode cX8_changes 37 = .ok (.iadd, 1) := by decide +kernel
theorem dX8_changes_38 : decode cX8_changes 38 = .ok (.iconst 1, 1) := by decide +kernel
theorem dX8_changes_39 : decode cX8_changes 39 = .ok (.iadd, 1) := by decide +kernel
theorem dX8_changes_40 : decode cX8_changes 40 = .ok (.iload_n 2, 1) := by decide +kernel
theorem dX8_changes_41 : decode cX8_changes 41 = .ok (.iastore, 1) := by decide +kernel
theorem dX8_changes_42 : decode cX8_changes 42 = .ok (.return_, 1) := by decide +kernel
theorem dX8_move_0 : decode cX8_move 0 = .ok (.iload_n 1, 1) := by decide +kernel
theorem dX8_move_1 : decode cX8_move 1 = .ok (.iconst 0, 1) := by decide +kernel
theorem dX8_move_2 : decode cX8_move 2 = .ok (.aload_n 0, 1) := by decide +kernel
theorem dX8_move_3 : decode cX8_move 3 = .ok (.getfield 7, 3) := by decide +kernel
theorem dX8_move_6 : decode cX8_move 6 = .ok (.iconst 1, 1) := by decide +kernel
theorem dX8_move_7 : decode cX8_move 7 = .ok (.iaload, 1) := by decide +kernel
theorem dX8_move_8 : decode cX8_move 8 = .ok (.iconst 2, 1) := by decide +kernel
theorem dX8_move_9 : decode cX8_move 9 = .ok (.isub, 1) := by decide +kernel
theorem dX8_move_10 : decode cX8_move 10 = .ok (.invokestatic 44, 3) := by decide +kernel
theorem dX8_move_13 : decode cX8_move 13 = .ok (.ifCond .ne 5, 3) := by decide +kernel
theorem dX8_move_16 : decode cX8_move 16 = .ok (.iconst (-1), 1) := by decide +kernel
theorem dX8_move_17 : decode cX8_move 17 = .ok (.ireturn, 1) := by decide +kernel
theorem dX8_move_18 : decode cX8_move 18 = .ok (.aload_n 0, 1) := by decide +kernel
theorem dX8_move_19 : decode cX8_move 19 = .ok (.invokevirtual 119, 3) := by decide +kernel
theorem dX8_move_22 : decode cX8_move 22 = .ok (.aload_n 0, 1) := by decide +kernel
theorem dX8_move_23 : decode cX8_move 23 = .ok (.iload_n 1, 1) := by decide +kernel
theorem dX8_move_24 : decode cX8_move 24 = .ok (.invokevirtual 125, 3) := by decide +kernel
theorem dX8_move_27 : decode cX8_move 27 = .ok (.aload_n 0, 1) := by decide +kernel
theorem dX8_move_28 : decode cX8_move 28 = .ok (.getfield 7, 3) := by decide +kernel
theorem dX8_move_31 : decode cX8_move 31 = .ok (.bipush 10, 2) := by decide +kernel
theorem dX8_move_33 : decode cX8_move 33 = .ok (.iload_n 1, 1) := by decide +kernel
theorem dX8_move_34 : decode cX8_move 34 = .ok (.iadd, 1) := by decide +kernel
theorem dX8_move_35 : decode cX8_move 35 = .ok (.iaload, 1) := by decide +kernel
theorem dX8_move_36 : decode cX8_move 36 = .ok (.ireturn, 1) := by decide +kernel
theorem dX8_nurse_0 : decode cX8_nurse 0 = .ok (.aload_n 0, 1) := by decide +kernel
theorem dX8_nurse_1 : decode cX8_nurse 1 = .ok (.iload_n 1, 1) := by decide +kernel
theorem dX8_nurse_2 : decode cX8_nurse 2 = .ok (.invokevirtual 52, 3) := by decide +kernel
theorem dX8_nurse_5 : decode cX8_nurse 5 = .ok (.ifCond .eq 13, 3) := by decide +kernel
theorem dX8_nurse_8 : decode cX8_nurse 8 = .ok (.iload_n 2, 1) := by decide +kernel
theorem dX8_nurse_9 : decode cX8_nurse 9 = .ok (.iconst 1, 1) := by decide +kernel
theorem dX8_nurse_10 : decode cX8_nurse 10 = .ok (.bipush 60, 2) := by decide +kernel
theorem dX8_nurse_12 : decode cX8_nurse 12 = .ok (.invokestatic 44, 3) := by decide +kernel
theorem dX8_nurse_15 : decode cX8_nurse 15 = .ok (.ifCond .ne 5, 3) := by decide +kernel
theorem dX8_nurse_18 : decode cX8_nurse 18 = .ok (.iconst (-1), 1) := by decide +kernel
theorem dX8_nurse_19 : decode cX8_nurse 19 = .ok (.ireturn, 1) := by decide +kernel
theorem dX8_nurse_20 : decode cX8_nurse 20 = .ok (.aload_n 0, 1) := by decide +kernel
theorem dX8_nurse_21 : decode cX8_nurse 21 = .ok (.iload_n 1, 1) := by decide +kernel
theorem dX8_nurse_22 : decode cX8_nurse 22 = .ok (.invokevirtual 59, 3) := by decide +kernel
theorem dX8_nurse_25 : decode cX8_nurse 25 = .ok (.bipush (-4), 2) := by decide +kernel
theorem dX8_nurse_27 : decode cX8_nurse 27 = .ok (.if_icmp .ne 6, 3) := by decide +kernel
theorem dX8_nurse_30 : decode cX8_nurse 30 = .ok (.bipush (-2), 2) := by decide +kernel
theorem dX8_nurse_32 : decode cX8_nurse 32 = .ok (.ireturn, 1) := by decide +kernel
theorem dX8_nurse_33 : decode cX8_nurse 33 = .ok (.aload_n 0, 1) := by decide +kernel
theorem dX8_nurse_34 : decode cX8_nurse 34 = .ok (.invokevirtual 119, 3) := by decide +kernel
theorem dX8_nurse_37 : decode cX8_nurse 37 = .ok (.aload_n 0, 1) := by decide +kernel
theorem dX8_nurse_38 : decode cX8_nurse 38 = .ok (.getfield 7, 3) := by decide +kernel
theorem dX8_nurse_41 : decode cX8_nurse 41 = .ok (.iconst 4, 1) := by decide +kernel
theorem dX8_nurse_42 : decode cX8_nurse 42 = .ok (.iload_n 1, 1) := by decide +kernel
theorem dX8_nurse_43 : decode cX8_nurse 43 = .ok (.iadd, 1) := by decide +kernel
theorem dX8_nurse_44 : decode cX8_nurse 44 = .ok (.iaload, 1) := by decide +kernel
theorem dX8_nurse_45 : decode cX8_nurse 45 = .ok (.iload_n 2, 1) := by decide +kernel
theorem dX8_nurse_46 : decode cX8_nurse 46 = .ok (.iadd, 1) := by decide +kernel
theorem dX8_nurse_47 : decode cX8_nurse 47 = .ok (.istore_n 3, 1) := by decide +kernel
theorem dX8_nurse_48 : decode cX8_nurse 48 = .ok (.aload_n 0, 1) := by decide +kernel
theorem dX8_nurse_49 : decode cX8_nurse 49 = .ok (.getfield 7, 3) := by decide +kernel
theorem dX8_nurse_52 : decode cX8_nurse 52 = .ok (.iconst 4, 1) := by decide +kernel
theorem dX8_nurse_53 : decode cX8_nurse 53 = .ok (.iload_n 1, 1) := by decide +kernel
theorem dX8_nurse_54 : decode cX8_nurse 54 = .ok (.iadd, 1) := by decide +kernel
theorem dX8_nurse_55 : decode cX8_nurse 55 = .ok (.iload_n 3, 1) := by decide +kernel
theorem dX8_nurse_56 : decode cX8_nurse 56 = .ok (.bipush 60, 2) := by decide +kernel
theorem dX8_nurse_58 : decode cX8_nurse 58 = .ok (.if_icmp .le 8, 3) := by decide +kernel
theorem dX8_nurse_61 : decode cX8_nurse 61 = .ok (.bipush 60, 2) := by decide +kernel
theorem dX8_nurse_63 : decode cX8_nurse 63 = .ok (.goto 4, 3) := by decide +kernel
theorem dX8_nurse_66 : decode cX8_nurse 66 = .ok (.iload_n 3, 1) := by decide +kernel
theorem dX8_nurse_67 : decode cX8_nurse 67 = .ok (.iastore, 1) := by decide +kernel
theorem dX8_nurse_68 : decode cX8_nurse 68 = .ok (.aload_n 0, 1) := by decide +kernel
theorem dX8_nurse_69 : decode cX8_nurse 69 = .ok (.getfield 7, 3) := by decide +kernel
theorem dX8_nurse_72 : decode cX8_nurse 72 = .ok (.iconst 4, 1) := by decide +kernel
theorem dX8_nurse_73 : decode cX8_nurse 73 = .ok (.iload_n 1, 1) := by decide +kernel
theorem dX8_nurse_74 : decode cX8_nurse 74 = .ok (.iadd, 1) := by decide +kernel
theorem dX8_nurse_75 : decode cX8_nurse 75 = .ok (.iaload, 1) := by decide +kernel
theorem dX8_nurse_76 : decode cX8_nurse 76 = .ok (.ireturn, 1) := by decide +kernel
theorem dX8_drift_0 : decode cX8_drift 0 = .ok (.iload_n 1, 1) := by decide +kernel
theorem dX8_drift_1 : decode cX8_drift 1 = .ok (.iconst 1, 1) := by decide +kernel
theorem dX8_drift_2 : decode cX8_drift 2 = .ok (.bipush 40, 2) := by decide +kernel
theorem dX8_drift_4 : decode cX8_drift 4 = .ok (.invokestatic 44, 3) := by decide +kernel
theorem dX8_drift_7 : decode cX8_drift 7 = .ok (.ifCond .ne 5, 3) := by decide +kernel
theorem dX8_drift_10 : decode cX8_drift 10 = .ok (.iconst (-1), 1) := by decide +kernel
theorem dX8_drift_11 : decode cX8_drift 11 = .ok (.ireturn, 1) := by decide +kernel
theorem dX8_drift_12 : decode cX8_drift 12 = .ok (.aload_n 0, 1) := by decide +kernel
theorem dX8_drift_13 : decode cX8_drift 13 = .ok (.getfield 7, 3) := by decide +kernel
theorem dX8_drift_16 : decode cX8_drift 16 = .ok (.iconst 2, 1) := by decide +kernel
theorem dX8_drift_17 : decode cX8_drift 17 = .ok (.iaload, 1) := by decide +kernel
theorem dX8_drift_18 : decode cX8_drift 18 = .ok (.iload_n 1, 1) := by decide +kernel
theorem dX8_drift_19 : decode cX8_drift 19 = .ok (.iadd, 1) := by decide +kernel
theorem dX8_drift_20 : decode cX8_drift 20 = .ok (.sipush 9999, 3) := by decide +kernel
theorem dX8_drift_23 : decode cX8_drift 23 = .ok (.if_icmp .le 6, 3) := by decide +kernel
theorem dX8_drift_26 : decode cX8_drift 26 = .ok (.bipush (-3), 2) := by decide +kernel
theorem dX8_drift_28 : decode cX8_drift 28 = .ok (.ireturn, 1) := by decide +kernel
theorem dX8_drift_29 : decode cX8_drift 29 = .ok (.iconst 0, 1) := by decide +kernel
theorem dX8_drift_30 : decode cX8_drift 30 = .ok (.istore_n 2, 1) := by decide +kernel
theorem dX8_drift_31 : decode cX8_drift 31 = .ok (.iload_n 2, 1) := by decide +kernel
theorem dX8_drift_32 : decode cX8_drift 32 = .ok (.iload_n 1, 1) := by decide +kernel
theorem dX8_drift_33 : decode cX8_drift 33 = .ok (.if_icmp .ge 71, 3) := by decide +kernel
theorem dX8_drift_36 : decode cX8_drift 36 = .ok (.aload_n 0, 1) := by decide +kernel
theorem dX8_drift_37 : decode cX8_drift 37 = .ok (.invokevirtual 119, 3) := by decide +kernel
theorem dX8_drift_40 : decode cX8_drift 40 = .ok (.aload_n 0, 1) := by decide +kernel
theorem dX8_drift_41 : decode cX8_drift 41 = .ok (.getfield 7, 3) := by decide +kernel
theorem dX8_drift_44 : decode cX8_drift 44 = .ok (.iconst 3, 1) := by decide +kernel
theorem dX8_drift_45 : decode cX8_drift 45 = .ok (.aload_n 0, 1) := by decide +kernel
theorem dX8_drift_46 : decode cX8_drift 46 = .ok (.getfield 7, 3) := by decide +kernel
theorem dX8_drift_49 : decode cX8_drift 49 = .ok (.iconst 3, 1) := by decide +kernel
theorem dX8_drift_50 : decode cX8_drift 50 = .ok (.iaload, 1) := by decide +kernel
theorem dX8_drift_51 : decode cX8_drift 51 = .ok (.ldc 129, 2) := by decide +kernel
theorem dX8_drift_53 : decode cX8_drift 53 = .ok (.imul, 1) := by decide +kernel
theorem dX8_drift_54 : decode cX8_drift 54 = .ok (.sipush 12345, 3) := by decide +kernel
theorem dX8_drift_57 : decode cX8_drift 57 = .ok (.iadd, 1) := by decide +kernel
theorem dX8_drift_58 : decode cX8_drift 58 = .ok (.ldc 130, 2) := by decide +kernel
theorem dX8_drift_60 : decode cX8_drift 60 = .ok (.iand, 1) := by decide +kernel
theorem dX8_drift_61 : decode cX8_drift 61 = .ok (.iastore, 1) := by decide +kernel
theorem dX8_drift_62 : decode cX8_drift 62 = .ok (.aload_n 0, 1) := by decide +kernel
theorem dX8_drift_63 : decode cX8_drift 63 = .ok (.getfield 7, 3) := by decide +kernel
theorem dX8_drift_66 : decode cX8_drift 66 = .ok (.iconst 1, 1) := by decide +kernel
end
section
theorem dX8_drift_67 : decode cX8_drift 67 = .ok (.iaload, 1) := by decide +kernel
theorem dX8_drift_68 : decode cX8_drift 68 = .ok (.iconst 1, 1) := by decide +kernel
theorem dX8_drift_69 : decode cX8_drift 69 = .ok (.if_icmp .le 25, 3) := by decide +kernel
theorem dX8_drift_72 : decode cX8_drift 72 = .ok (.aload_n 0, 1) := by decide +kernel
theorem dX8_drift_73 : decode cX8_drift 73 = .ok (.aload_n 0, 1) := by decide +kernel
theorem dX8_drift_74 : decode cX8_drift 74 = .ok (.getfield 7, 3) := by decide +kernel
theorem dX8_drift_77 : decode cX8_drift 77 = .ok (.iconst 3, 1) := by decide +kernel
theorem dX8_drift_78 : decode cX8_drift 78 = .ok (.iaload, 1) := by decide +kernel
theorem dX8_drift_79 : decode cX8_drift 79 = .ok (.ldc 131, 2) := by decide +kernel
theorem dX8_drift_81 : decode cX8_drift 81 = .ok (.idiv, 1) := by decide +kernel
theorem dX8_drift_82 : decode cX8_drift 82 = .ok (.aload_n 0, 1) := by decide +kernel
theorem dX8_drift_83 : decode cX8_drift 83 = .ok (.getfield 7, 3) := by decide +kernel
theorem dX8_drift_86 : decode cX8_drift 86 = .ok (.iconst 1, 1) := by decide +kernel
theorem dX8_drift_87 : decode cX8_drift 87 = .ok (.iaload, 1) := by decide +kernel
theorem dX8_drift_88 : decode cX8_drift 88 = .ok (.iconst 1, 1) := by decide +kernel
theorem dX8_drift_89 : decode cX8_drift 89 = .ok (.isub, 1) := by decide +kernel
theorem dX8_drift_90 : decode cX8_drift 90 = .ok (.irem, 1) := by decide +kernel
theorem dX8_drift_91 : decode cX8_drift 91 = .ok (.invokevirtual 125, 3) := by decide +kernel
theorem dX8_drift_94 : decode cX8_drift 94 = .ok (.aload_n 0, 1) := by decide +kernel
theorem dX8_drift_95 : decode cX8_drift 95 = .ok (.invokevirtual 122, 3) := by decide +kernel
theorem dX8_drift_98 : decode cX8_drift 98 = .ok (.iinc 2 1, 3) := by decide +kernel
theorem dX8_drift_101 : decode cX8_drift 101 = .ok (.goto (-70), 3) := by decide +kernel
theorem dX8_drift_104 : decode cX8_drift 104 = .ok (.aload_n 0, 1) := by decide +kernel
theorem dX8_drift_105 : decode cX8_drift 105 = .ok (.invokevirtual 75, 3) := by decide +kernel
theorem dX8_drift_108 : decode cX8_drift 108 = .ok (.ireturn, 1) := by decide +kernel
theorem dX8_undo_0 : decode cX8_undo 0 = .ok (.aload_n 0, 1) := by decide +kernel
theorem dX8_undo_1 : decode cX8_undo 1 = .ok (.getfield 7, 3) := by decide +kernel
theorem dX8_undo_4 : decode cX8_undo 4 = .ok (.bipush 40, 2) := by decide +kernel
theorem dX8_undo_6 : decode cX8_undo 6 = .ok (.iaload, 1) := by decide +kernel
theorem dX8_undo_7 : decode cX8_undo 7 = .ok (.ifCond .ne 6, 3) := by decide +kernel
theorem dX8_undo_10 : decode cX8_undo 10 = .ok (.bipush (-4), 2) := by decide +kernel
theorem dX8_undo_12 : decode cX8_undo 12 = .ok (.ireturn, 1) := by decide +kernel
theorem dX8_undo_13 : decode cX8_undo 13 = .ok (.aload_n 0, 1) := by decide +kernel
theorem dX8_undo_14 : decode cX8_undo 14 = .ok (.getfield 7, 3) := by decide +kernel
theorem dX8_undo_17 : decode cX8_undo 17 = .ok (.bipush 40, 2) := by decide +kernel
theorem dX8_undo_19 : decode cX8_undo 19 = .ok (.dup2, 1) := by decide +kernel
theorem dX8_undo_20 : decode cX8_undo 20 = .ok (.iaload, 1) := by decide +kernel
theorem dX8_undo_21 : decode cX8_undo 21 = .ok (.iconst 1, 1) := by decide +kernel
theorem dX8_undo_22 : decode cX8_undo 22 = .ok (.isub, 1) := by decide +kernel
theorem dX8_undo_23 : decode cX8_undo 23 = .ok (.iastore, 1) := by decide +kernel
theorem dX8_undo_24 : decode cX8_undo 24 = .ok (.iconst 0, 1) := by decide +kernel
theorem dX8_undo_25 : decode cX8_undo 25 = .ok (.istore_n 1, 1) := by decide +kernel
theorem dX8_undo_26 : decode cX8_undo 26 = .ok (.iload_n 1, 1) := by decide +kernel
theorem dX8_undo_27 : decode cX8_undo 27 = .ok (.bipush 15, 2) := by decide +kernel
theorem dX8_undo_29 : decode cX8_undo 29 = .ok (.if_icmp .ge 37, 3) := by decide +kernel
theorem dX8_undo_32 : decode cX8_undo 32 = .ok (.aload_n 0, 1) := by decide +kernel
theorem dX8_undo_33 : decode cX8_undo 33 = .ok (.getfield 7, 3) := by decide +kernel
theorem dX8_undo_36 : decode cX8_undo 36 = .ok (.iconst 1, 1) := by decide +kernel
theorem dX8_undo_37 : decode cX8_undo 37 = .ok (.iload_n 1, 1) := by decide +kernel
theorem dX8_undo_38 : decode cX8_undo 38 = .ok (.iadd, 1) := by decide +kernel
theorem dX8_undo_39 : decode cX8_undo 39 = .ok (.aload_n 0, 1) := by decide +kernel
theorem dX8_undo_40 : decode cX8_undo 40 = .ok (.getfield 7, 3) := by decide +kernel
theorem dX8_undo_43 : decode cX8_undo 43 = .ok (.bipush 41, 2) := by decide +kernel
theorem dX8_undo_45 : decode cX8_undo 45 = .ok (.bipush 15, 2) := by decide +kernel
theorem dX8_undo_47 : decode cX8_undo 47 = .ok (.aload_n 0, 1) := by decide +kernel
theorem dX8_undo_48 : decode cX8_undo 48 = .ok (.getfield 7, 3) := by decide +kernel
theorem dX8_undo_51 : decode cX8_undo 51 = .ok (.bipush 40, 2) := by decide +kernel
theorem dX8_undo_53 : decode cX8_undo 53 = .ok (.iaload, 1) := by decide +kernel
theorem dX8_undo_54 : decode cX8_undo 54 = .ok (.imul, 1) := by decide +kernel
theorem dX8_undo_55 : decode cX8_undo 55 = .ok (.iadd, 1) := by decide +kernel
theorem dX8_undo_56 : decode cX8_undo 56 = .ok (.iload_n 1, 1) := by decide +kernel
theorem dX8_undo_57 : decode cX8_undo 57 = .ok (.iadd, 1) := by decide +kernel
theorem dX8_undo_58 : decode cX8_undo 58 = .ok (.iaload, 1) := by decide +kernel
theorem dX8_undo_59 : decode cX8_undo 59 = .ok (.iastore, 1) := by decide +kernel
theorem dX8_undo_60 : decode cX8_undo 60 = .ok (.iinc 1 1, 3) := by decide +kernel
theorem dX8_undo_63 : decode cX8_undo 63 = .ok (.goto (-37), 3) := by decide +kernel
theorem dX8_undo_66 : decode cX8_undo 66 = .ok (.aload_n 0, 1) := by decide +kernel
theorem dX8_undo_67 : decode cX8_undo 67 = .ok (.getfield 7, 3) := by decide +kernel
theorem dX8_undo_70 : decode cX8_undo 70 = .ok (.bipush 40, 2) := by decide +kernel
theorem dX8_undo_72 : decode cX8_undo 72 = .ok (.iaload, 1) := by decide +kernel
theorem dX8_undo_73 : decode cX8_undo 73 = .ok (.ireturn, 1) := by decide +kernel
theorem dX8_seed_0 : decode cX8_seed 0 = .ok (.iload_n 1, 1) := by decide +kernel
theorem dX8_seed_1 : decode cX8_seed 1 = .ok (.ifCond .ge 5, 3) := by decide +kernel
theorem dX8_seed_4 : decode cX8_seed 4 = .ok (.iconst (-1), 1) := by decide +kernel
theorem dX8_seed_5 : decode cX8_seed 5 = .ok (.ireturn, 1) := by decide +kernel
theorem dX8_seed_6 : decode cX8_seed 6 = .ok (.aload_n 0, 1) := by decide +kernel
theorem dX8_seed_7 : decode cX8_seed 7 = .ok (.getfield 7, 3) := by decide +kernel
theorem dX8_seed_10 : decode cX8_seed 10 = .ok (.iconst 3, 1) := by decide +kernel
theorem dX8_seed_11 : decode cX8_seed 11 = .ok (.iaload, 1) := by decide +kernel
theorem dX8_seed_12 : decode cX8_seed 12 = .ok (.istore_n 2, 1) := by decide +kernel
theorem dX8_seed_13 : decode cX8_seed 13 = .ok (.aload_n 0, 1) := by decide +kernel
theorem dX8_seed_14 : decode cX8_seed 14 = .ok (.getfield 7, 3) := by decide +kernel
theorem dX8_seed_17 : decode cX8_seed 17 = .ok (.iconst 3, 1) := by decide +kernel
theorem dX8_seed_18 : decode cX8_seed 18 = .ok (.iload_n 1, 1) := by decide +kernel
theorem dX8_seed_19 : decode cX8_seed 19 = .ok (.iastore, 1) := by decide +kernel
theorem dX8_seed_20 : decode cX8_seed 20 = .ok (.iload_n 2, 1) := by decide +kernel
theorem dX8_seed_21 : decode cX8_seed 21 = .ok (.ireturn, 1) := by decide +kernel
theorem dX8_holds_0 : decode cX8_holds 0 = .ok (.iconst 0, 1) := by decide +kernel
theorem dX8_holds_1 : decode cX8_holds 1 = .ok (.istore_n 1, 1) := by decide +kernel
theorem dX8_holds_2 : decode cX8_holds 2 = .ok (.iload_n 1, 1) := by decide +kernel
theorem dX8_holds_3 : decode cX8_holds 3 = .ok (.bipush 40, 2) := by decide +kernel
theorem dX8_holds_5 : decode cX8_holds 5 = .ok (.if_icmp .ge 21, 3) := by decide +kernel
theorem dX8_holds_8 : decode cX8_holds 8 = .ok (.aload_n 0, 1) := by decide +kernel
theorem dX8_holds_9 : decode cX8_holds 9 = .ok (.getfield 38, 3) := by decide +kernel
theorem dX8_holds_12 : decode cX8_holds 12 = .ok (.iload_n 1, 1) := by decide +kernel
theorem dX8_holds_13 : decode cX8_holds 13 = .ok (.aload_n 0, 1) := by decide +kernel
theorem dX8_holds_14 : decode cX8_holds 14 = .ok (.getfield 7, 3) := by decide +kernel
theorem dX8_holds_17 : decode cX8_holds 17 = .ok (.iload_n 1, 1) := by decide +kernel
theorem dX8_holds_18 : decode cX8_holds 18 = .ok (.iaload, 1) := by decide +kernel
theorem dX8_holds_19 : decode cX8_holds 19 = .ok (.iastore, 1) := by decide +kernel
theorem dX8_holds_20 : decode cX8_holds 20 = .ok (.iinc 1 1, 3) := by decide +kernel
theorem dX8_holds_23 : decode cX8_holds 23 = .ok (.goto (-21), 3) := by decide +kernel
theorem dX8_holds_26 : decode cX8_holds 26 = .ok (.return_, 1) := by decide +kernel
theorem dX8_lets_0 : decode cX8_lets 0 = .ok (.iconst 0, 1) := by decide +kernel
theorem dX8_lets_1 : decode cX8_lets 1 = .ok (.istore_n 1, 1) := by decide +kernel
theorem dX8_lets_2 : decode cX8_lets 2 = .ok (.iload_n 1, 1) := by decide +kernel
theorem dX8_lets_3 : decode cX8_lets 3 = .ok (.bipush 40, 2) := by decide +kernel
theorem dX8_lets_5 : decode cX8_lets 5 = .ok (.if_icmp .ge 21, 3) := by decide +kernel
theorem dX8_lets_8 : decode cX8_lets 8 = .ok (.aload_n 0, 1) := by decide +kernel
theorem dX8_lets_9 : decode cX8_lets 9 = .ok (.getfield 7, 3) := by decide +kernel
theorem dX8_lets_12 : decode cX8_lets 12 = .ok (.iload_n 1, 1) := by decide +kernel
theorem dX8_lets_13 : decode cX8_lets 13 = .ok (.aload_n 0, 1) := by decide +kernel
theorem dX8_lets_14 : decode cX8_lets 14 = .ok (.getfield 38, 3) := by decide +kernel
theorem dX8_lets_17 : decode cX8_lets 17 = .ok (.iload_n 1, 1) := by decide +kernel
theorem dX8_lets_18 : decode cX8_lets 18 = .ok (.iaload, 1) := by decide +kernel
theorem dX8_lets_19 : decode cX8_lets 19 = .ok (.iastore, 1) := by decide +kernel
theorem dX8_lets_20 : decode cX8_lets 20 = .ok (.iinc 1 1, 3) := by decide +kernel
theorem dX8_lets_23 : decode cX8_lets 23 = .ok (.goto (-21), 3) := by decide +kernel
theorem dX8_lets_26 : decode cX8_lets 26 = .ok (.return_, 1) := by decide +kernel
theorem dX8_ahead_0 : decode cX8_ahead 0 = .ok (.aload_n 0, 1) := by decide +kernel
theorem dX8_ahead_1 : decode cX8_ahead 1 = .ok (.iload_n 1, 1) := by decide +kernel
theorem dX8_ahead_2 : decode cX8_ahead 2 = .ok (.invokevirtual 52, 3) := by decide +kernel
theorem dX8_ahead_5 : decode cX8_ahead 5 = .ok (.ifCond .eq 13, 3) := by decide +kernel
theorem dX8_ahead_8 : decode cX8_ahead 8 = .ok (.iload_n 2, 1) := by decide +kernel
theorem dX8_ahead_9 : decode cX8_ahead 9 = .ok (.iconst 0, 1) := by decide +kernel
theorem dX8_ahead_10 : decode cX8_ahead 10 = .ok (.bipush 60, 2) := by decide +kernel
theorem dX8_ahead_12 : decode cX8_ahead 12 = .ok (.invokestatic 44, 3) := by decide +kernel
theorem dX8_ahead_15 : decode cX8_ahead 15 = .ok (.ifCond .ne 5, 3) := by decide +kernel
theorem dX8_ahead_18 : decode cX8_ahead 18 = .ok (.iconst (-1), 1) := by decide +kernel
theorem dX8_ahead_19 : decode cX8_ahead 19 = .ok (.ireturn, 1) := by decide +kernel
theorem dX8_ahead_20 : decode cX8_ahead 20 = .ok (.aload_n 0, 1) := by decide +kernel
theorem dX8_ahead_21 : decode cX8_ahead 21 = .ok (.invokevirtual 132, 3) := by decide +kernel
theorem dX8_ahead_24 : decode cX8_ahead 24 = .ok (.iconst 0, 1) := by decide +kernel
theorem dX8_ahead_25 : decode cX8_ahead 25 = .ok (.istore_n 3, 1) := by decide +kernel
theorem dX8_ahead_26 : decode cX8_ahead 26 = .ok (.iload_n 3, 1) := by decide +kernel
theorem dX8_ahead_27 : decode cX8_ahead 27 = .ok (.iload_n 2, 1) := by decide +kernel
theorem dX8_ahead_28 : decode cX8_ahead 28 = .ok (.if_icmp .ge 13, 3) := by decide +kernel
theorem dX8_ahead_31 : decode cX8_ahead 31 = .ok (.aload_n 0, 1) := by decide +kernel
theorem dX8_ahead_32 : decode cX8_ahead 32 = .ok (.invokevirtual 122, 3) := by decide +kernel
theorem dX8_ahead_35 : decode cX8_ahead 35 = .ok (.iinc 3 1, 3) := by decide +kernel
theorem dX8_ahead_38 : decode cX8_ahead 38 = .ok (.goto (-12), 3) := by decide +kernel
theorem dX8_ahead_41 : decode cX8_ahead 41 = .ok (.aload_n 0, 1) := by decide +kernel
theorem dX8_ahead_42 : decode cX8_ahead 42 = .ok (.getfield 7, 3) := by decide +kernel
theorem dX8_ahead_45 : decode cX8_ahead 45 = .ok (.iconst 4, 1) := by decide +kernel
theorem dX8_ahead_46 : decode cX8_ahead 46 = .ok (.iload_n 1, 1) := by decide +kernel
theorem dX8_ahead_47 : decode cX8_ahead 47 = .ok (.iadd, 1) := by decide +kernel
theorem dX8_ahead_48 : decode cX8_ahead 48 = .ok (.iaload, 1) := by decide +kernel
theorem dX8_ahead_49 : decode cX8_ahead 49 = .ok (.istore_n 3, 1) := by decide +kernel
theorem dX8_ahead_50 : decode cX8_ahead 50 = .ok (.aload_n 0, 1) := by decide +kernel
theorem dX8_ahead_51 : decode cX8_ahead 51 = .ok (.invokevirtual 135, 3) := by decide +kernel
theorem dX8_ahead_54 : decode cX8_ahead 54 = .ok (.iload_n 3, 1) := by decide +kernel
theorem dX8_ahead_55 : decode cX8_ahead 55 = .ok (.ireturn, 1) := by decide +kernel
theorem dX8_then_0 : decode cX8_then 0 = .ok (.iload_n 1, 1) := by decide +kernel
theorem dX8_then_1 : decode cX8_then 1 = .ok (.iconst 0, 1) := by decide +kernel
theorem dX8_then_2 : decode cX8_then 2 = .ok (.bipush 60, 2) := by decide +kernel
theorem dX8_then_4 : decode cX8_then 4 = .ok (.invokestatic 44, 3) := by decide +kernel
theorem dX8_then_7 : decode cX8_then 7 = .ok (.ifCond .ne 5, 3) := by decide +kernel
theorem dX8_then_10 : decode cX8_then 10 = .ok (.iconst (-1), 1) := by decide +kernel
theorem dX8_then_11 : decode cX8_then 11 = .ok (.ireturn, 1) := by decide +kernel
theorem dX8_then_12 : decode cX8_then 12 = .ok (.aload_n 0, 1) := by decide +kernel
theorem dX8_then_13 : decode cX8_then 13 = .ok (.invokevirtual 132, 3) := by decide +kernel
theorem dX8_then_16 : decode cX8_then 16 = .ok (.iconst 0, 1) := by decide +kernel
theorem dX8_then_17 : decode cX8_then 17 = .ok (.istore_n 2, 1) := by decide +kernel
theorem dX8_then_18 : decode cX8_then 18 = .ok (.iload_n 2, 1) := by decide +kernel
theorem dX8_then_19 : decode cX8_then 19 = .ok (.iload_n 1, 1) := by decide +kernel
theorem dX8_then_20 : decode cX8_then 20 = .ok (.if_icmp .ge 13, 3) := by decide +kernel
theorem dX8_then_23 : decode cX8_then 23 = .ok (.aload_n 0, 1) := by decide +kernel
theorem dX8_then_24 : decode cX8_then 24 = .ok (.invokevirtual 122, 3) := by decide +kernel
theorem dX8_then_27 : decode cX8_then 27 = .ok (.iinc 2 1, 3) := by decide +kernel
theorem dX8_then_30 : decode cX8_then 30 = .ok (.goto (-12), 3) := by decide +kernel
theorem dX8_then_33 : decode cX8_then 33 = .ok (.aload_n 0, 1) := by decide +kernel
theorem dX8_then_34 : decode cX8_then 34 = .ok (.invokevirtual 75, 3) := by decide +kernel
theorem dX8_then_37 : decode cX8_then 37 = .ok (.istore_n 2, 1) := by decide +kernel
theorem dX8_then_38 : decode cX8_then 38 = .ok (.aload_n 0, 1) := by decide +kernel
theorem dX8_then_39 : decode cX8_then 39 = .ok (.invokevirtual 135, 3) := by decide +kernel
theorem dX8_then_42 : decode cX8_then 42 = .ok (.iload_n 2, 1) := by decide +kernel
theorem dX8_then_43 : decode cX8_then 43 = .ok (.ireturn, 1) := by decide +kernel
theorem dX8_ends_0 : decode cX8_ends 0 = .ok (.aload_n 0, 1) := by decide +kernel
theorem dX8_ends_1 : decode cX8_ends 1 = .ok (.iload_n 1, 1) := by decide +kernel
theorem dX8_ends_2 : decode cX8_ends 2 = .ok (.invokevirtual 52, 3) := by decide +kernel
theorem dX8_ends_5 : decode cX8_ends 5 = .ok (.ifCond .ne 5, 3) := by decide +kernel
theorem dX8_ends_8 : decode cX8_ends 8 = .ok (.iconst (-1), 1) := by decide +kernel
theorem dX8_ends_9 : decode cX8_ends 9 = .ok (.ireturn, 1) := by decide +kernel
theorem dX8_ends_10 : decode cX8_ends 10 = .ok (.aload_n 0, 1) := by decide +kernel
theorem dX8_ends_11 : decode cX8_ends 11 = .ok (.invokevirtual 132, 3) := by decide +kernel
theorem dX8_ends_14 : decode cX8_ends 14 = .ok (.iconst 0, 1) := by decide +kernel
theorem dX8_ends_15 : decode cX8_ends 15 = .ok (.istore_n 2, 1) := by decide +kernel
theorem dX8_ends_16 : decode cX8_ends 16 = .ok (.iload_n 2, 1) := by decide +kernel
theorem dX8_ends_17 : decode cX8_ends 17 = .ok (.bipush 60, 2) := by decide +kernel
theorem dX8_ends_19 : decode cX8_ends 19 = .ok (.if_icmp .gt 23, 3) := by decide +kernel
theorem dX8_ends_22 : decode cX8_ends 22 = .ok (.aload_n 0, 1) := by decide +kernel
theorem dX8_ends_23 : decode cX8_ends 23 = .ok (.iload_n 1, 1) := by decide +kernel
theorem dX8_ends_24 : decode cX8_ends 24 = .ok (.invokevirtual 59, 3) := by decide +kernel
theorem dX8_ends_27 : decode cX8_ends 27 = .ok (.bipush (-4), 2) := by decide +kernel
theorem dX8_ends_29 : decode cX8_ends 29 = .ok (.if_icmp .eq 13, 3) := by decide +kernel
theorem dX8_ends_32 : decode cX8_ends 32 = .ok (.aload_n 0, 1) := by decide +kernel
theorem dX8_ends_33 : decode cX8_ends 33 = .ok (.invokevirtual 122, 3) := by decide +kernel
theorem dX8_ends_36 : decode cX8_ends 36 = .ok (.iinc 2 1, 3) := by decide +kernel
theorem dX8_ends_39 : decode cX8_ends 39 = .ok (.goto (-23), 3) := by decide +kernel
theorem dX8_ends_42 : decode cX8_ends 42 = .ok (.aload_n 0, 1) := by decide +kernel
theorem dX8_ends_43 : decode cX8_ends 43 = .ok (.invokevirtual 135, 3) := by decide +kernel
theorem dX8_ends_46 : decode cX8_ends 46 = .ok (.iload_n 2, 1) := by decide +kernel
theorem dX8_ends_47 : decode cX8_ends 47 = .ok (.bipush 60, 2) := by decide +kernel
theorem dX8_ends_49 : decode cX8_ends 49 = .ok (.if_icmp .le 8, 3) := by decide +kernel
theorem dX8_ends_52 : decode cX8_ends 52 = .ok (.bipush (-4), 2) := by decide +kernel
theorem dX8_ends_54 : decode cX8_ends 54 = .ok (.goto 4, 3) := by decide +kernel
theorem dX8_ends_57 : decode cX8_ends 57 = .ok (.iload_n 2, 1) := by decide +kernel
theorem dX8_ends_58 : decode cX8_ends 58 = .ok (.ireturn, 1) := by decide +kernel
theorem dX8_lonely_0 : decode cX8_lonely 0 = .ok (.aload_n 0, 1) := by decide +kernel
theorem dX8_lonely_1 : decode cX8_lonely 1 = .ok (.invokevirtual 132, 3) := by decide +kernel
theorem dX8_lonely_4 : decode cX8_lonely 4 = .ok (.iconst 0, 1) := by decide +kernel
theorem dX8_lonely_5 : decode cX8_lonely 5 = .ok (.istore_n 1, 1) := by decide +kernel
theorem dX8_lonely_6 : decode cX8_lonely 6 = .ok (.iload_n 1, 1) := by decide +kernel
theorem dX8_lonely_7 : decode cX8_lonely 7 = .ok (.bipush 60, 2) := by decide +kernel
theorem dX8_lonely_9 : decode cX8_lonely 9 = .ok (.if_icmp .gt 23, 3) := by decide +kernel
theorem dX8_lonely_12 : decode cX8_lonely 12 = .ok (.aload_n 0, 1) := by decide +kernel
theorem dX8_lonely_13 : decode cX8_lonely 13 = .ok (.getfield 7, 3) := by decide +kernel
theorem dX8_lonely_16 : decode cX8_lonely 16 = .ok (.iconst 1, 1) := by decide +kernel
theorem dX8_lonely_17 : decode cX8_lonely 17 = .ok (.iaload, 1) := by decide +kernel
theorem dX8_lonely_18 : decode cX8_lonely 18 = .ok (.iconst 1, 1) := by decide +kernel
theorem dX8_lonely_19 : decode cX8_lonely 19 = .ok (.if_icmp .le 13, 3) := by decide +kernel
theorem dX8_lonely_22 : decode cX8_lonely 22 = .ok (.aload_n 0, 1) := by decide +kernel
theorem dX8_lonely_23 : decode cX8_lonely 23 = .ok (.invokevirtual 122, 3) := by decide +kernel
theorem dX8_lonely_26 : decode cX8_lonely 26 = .ok (.iinc 1 1, 3) := by decide +kernel
theorem dX8_lonely_29 : decode cX8_lonely 29 = .ok (.goto (-23), 3) := by decide +kernel
theorem dX8_lonely_32 : decode cX8_lonely 32 = .ok (.aload_n 0, 1) := by decide +kernel
theorem dX8_lonely_33 : decode cX8_lonely 33 = .ok (.invokevirtual 135, 3) := by decide +kernel
theorem dX8_lonely_36 : decode cX8_lonely 36 = .ok (.iload_n 1, 1) := by decide +kernel
theorem dX8_lonely_37 : decode cX8_lonely 37 = .ok (.bipush 60, 2) := by decide +kernel
theorem dX8_lonely_39 : decode cX8_lonely 39 = .ok (.if_icmp .le 8, 3) := by decide +kernel
theorem dX8_lonely_42 : decode cX8_lonely 42 = .ok (.bipush (-4), 2) := by decide +kernel
theorem dX8_lonely_44 : decode cX8_lonely 44 = .ok (.goto 4, 3) := by decide +kernel
theorem dX8_lonely_47 : decode cX8_lonely 47 = .ok (.iload_n 1, 1) := by decide +kernel
theorem dX8_lonely_48 : decode cX8_lonely 48 = .ok (.ireturn, 1) := by decide +kernel
theorem dX8_close_0 : decode cX8_close 0 = .ok (.aload_n 0, 1) := by decide +kernel
theorem dX8_close_1 : decode cX8_close 1 = .ok (.iload_n 1, 1) := by decide +kernel
theorem dX8_close_2 : decode cX8_close 2 = .ok (.invokevirtual 52, 3) := by decide +kernel
theorem dX8_close_5 : decode cX8_close 5 = .ok (.ifCond .eq 16, 3) := by decide +kernel
theorem dX8_close_8 : decode cX8_close 8 = .ok (.aload_n 0, 1) := by decide +kernel
theorem dX8_close_9 : decode cX8_close 9 = .ok (.iload_n 2, 1) := by decide +kernel
theorem dX8_close_10 : decode cX8_close 10 = .ok (.invokevirtual 52, 3) := by decide +kernel
theorem dX8_close_13 : decode cX8_close 13 = .ok (.ifCond .eq 8, 3) := by decide +kernel
theorem dX8_close_16 : decode cX8_close 16 = .ok (.iload_n 1, 1) := by decide +kernel
theorem dX8_close_17 : decode cX8_close 17 = .ok (.iload_n 2, 1) := by decide +kernel
theorem dX8_close_18 : decode cX8_close 18 = .ok (.if_icmp .ne 5, 3) := by decide +kernel
theorem dX8_close_21 : decode cX8_close 21 = .ok (.iconst (-1), 1) := by decide +kernel
theorem dX8_close_22 : decode cX8_close 22 = .ok (.ireturn, 1) := by decide +kernel
theorem dX8_close_23 : decode cX8_close 23 = .ok (.aload_n 0, 1) := by decide +kernel
theorem dX8_close_24 : decode cX8_close 24 = .ok (.invokevirtual 132, 3) := by decide +kernel
theorem dX8_close_27 : decode cX8_close 27 = .ok (.iconst 0, 1) := by decide +kernel
theorem dX8_close_28 : decode cX8_close 28 = .ok (.istore_n 3, 1) := by decide +kernel
theorem dX8_close_29 : decode cX8_close 29 = .ok (.iload_n 3, 1) := by decide +kernel
theorem dX8_close_30 : decode cX8_close 30 = .ok (.bipush 60, 2) := by decide +kernel
theorem dX8_close_32 : decode cX8_close 32 = .ok (.if_icmp .gt 25, 3) := by decide +kernel
theorem dX8_close_35 : decode cX8_close 35 = .ok (.aload_n 0, 1) := by decide +kernel
theorem dX8_close_36 : decode cX8_close 36 = .ok (.iload_n 1, 1) := by decide +kernel
theorem dX8_close_37 : decode cX8_close 37 = .ok (.invokevirtual 66, 3) := by decide +kernel
theorem dX8_close_40 : decode cX8_close 40 = .ok (.iload_n 2, 1) := by decide +kernel
theorem dX8_close_41 : decode cX8_close 41 = .ok (.invokestatic 79, 3) := by decide +kernel
theorem dX8_close_44 : decode cX8_close 44 = .ok (.ifCond .ne 13, 3) := by decide +kernel
theorem dX8_close_47 : decode cX8_close 47 = .ok (.aload_n 0, 1) := by decide +kernel
theorem dX8_close_48 : decode cX8_close 48 = .ok (.invokevirtual 122, 3) := by decide +kernel
theorem dX8_close_51 : decode cX8_close 51 = .ok (.iinc 3 1, 3) := by decide +kernel
theorem dX8_close_54 : decode cX8_close 54 = .ok (.goto (-25), 3) := by decide +kernel
theorem dX8_close_57 : decode cX8_close 57 = .ok (.aload_n 0, 1) := by decide +kernel
theorem dX8_close_58 : decode cX8_close 58 = .ok (.invokevirtual 135, 3) := by decide +kernel
theorem dX8_close_61 : decode cX8_close 61 = .ok (.iload_n 3, 1) := by decide +kernel
theorem dX8_close_62 : decode cX8_close 62 = .ok (.bipush 60, 2) := by decide +kernel
theorem dX8_close_64 : decode cX8_close 64 = .ok (.if_icmp .le 8, 3) := by decide +kernel
theorem dX8_close_67 : decode cX8_close 67 = .ok (.bipush (-4), 2) := by decide +kernel
theorem dX8_close_69 : decode cX8_close 69 = .ok (.goto 4, 3) := by decide +kernel
theorem dX8_close_72 : decode cX8_close 72 = .ok (.iload_n 3, 1) := by decide +kernel
theorem dX8_close_73 : decode cX8_close 73 = .ok (.ireturn, 1) := by decide +kernel
theorem dX8_placeOn_0 : decode cX8_placeOn 0 = .ok (.aload_n 0, 1) := by decide +kernel
theorem dX8_placeOn_1 : decode cX8_placeOn 1 = .ok (.getfield 7, 3) := by decide +kernel
theorem dX8_placeOn_4 : decode cX8_placeOn 4 = .ok (.bipush 22, 2) := by decide +kernel
theorem dX8_placeOn_6 : decode cX8_placeOn 6 = .ok (.iconst 3, 1) := by decide +kernel
theorem dX8_placeOn_7 : decode cX8_placeOn 7 = .ok (.aload_n 0, 1) := by decide +kernel
theorem dX8_placeOn_8 : decode cX8_placeOn 8 = .ok (.getfield 7, 3) := by decide +kernel
theorem dX8_placeOn_11 : decode cX8_placeOn 11 = .ok (.bipush 10, 2) := by decide +kernel
theorem dX8_placeOn_13 : decode cX8_placeOn 13 = .ok (.iload_n 1, 1) := by decide +kernel
theorem dX8_placeOn_14 : decode cX8_placeOn 14 = .ok (.iadd, 1) := by decide +kernel
theorem dX8_placeOn_15 : decode cX8_placeOn 15 = .ok (.iaload, 1) := by decide +kernel
theorem dX8_placeOn_16 : decode cX8_placeOn 16 = .ok (.imul, 1) := by decide +kernel
theorem dX8_placeOn_17 : decode cX8_placeOn 17 = .ok (.iadd, 1) := by decide +kernel
theorem dX8_placeOn_18 : decode cX8_placeOn 18 = .ok (.iload_n 2, 1) := by decide +kernel
theorem dX8_placeOn_19 : decode cX8_placeOn 19 = .ok (.iadd, 1) := by decide +kernel
theorem dX8_placeOn_20 : decode cX8_placeOn 20 = .ok (.iaload, 1) := by decide +kernel
theorem dX8_placeOn_21 : decode cX8_placeOn 21 = .ok (.ireturn, 1) := by decide +kernel
theorem dX8_swaps_0 : decode cX8_swaps 0 = .ok (.iload_n 1, 1) := by decide +kernel
theorem dX8_swaps_1 : decode cX8_swaps 1 = .ok (.iconst 0, 1) := by decide +kernel
theorem dX8_swaps_2 : decode cX8_swaps 2 = .ok (.iconst 2, 1) := by decide +kernel
theorem dX8_swaps_3 : decode cX8_swaps 3 = .ok (.invokestatic 44, 3) := by decide +kernel
theorem dX8_swaps_6 : decode cX8_swaps 6 = .ok (.ifCond .ne 5, 3) := by decide +kernel
theorem dX8_swaps_9 : decode cX8_swaps 9 = .ok (.iconst (-1), 1) := by decide +kernel
theorem dX8_swaps_10 : decode cX8_swaps 10 = .ok (.ireturn, 1) := by decide +kernel
theorem dX8_swaps_11 : decode cX8_swaps 11 = .ok (.iconst 0, 1) := by decide +kernel
theorem dX8_swaps_12 : decode cX8_swaps 12 = .ok (.istore_n 2, 1) := by decide +kernel
theorem dX8_swaps_13 : decode cX8_swaps 13 = .ok (.iconst 0, 1) := by decide +kernel
theorem dX8_swaps_14 : decode cX8_swaps 14 = .ok (.istore_n 3, 1) := by decide +kernel
theorem dX8_swaps_15 : decode cX8_swaps 15 = .ok (.iload_n 3, 1) := by decide +kernel
theorem dX8_swaps_16 : decode cX8_swaps 16 = .ok (.aload_n 0, 1) := by decide +kernel
theorem dX8_swaps_17 : decode cX8_swaps 17 = .ok (.getfield 7, 3) := by decide +kernel
theorem dX8_swaps_20 : decode cX8_swaps 20 = .ok (.iconst 1, 1) := by decide +kernel
theorem dX8_swaps_21 : decode cX8_swaps 21 = .ok (.iaload, 1) := by decide +kernel
theorem dX8_swaps_22 : decode cX8_swaps 22 = .ok (.if_icmp .ge 55, 3) := by decide +kernel
theorem dX8_swaps_25 : decode cX8_swaps 25 = .ok (.iload_n 3, 1) := by decide +kernel
theorem dX8_swaps_26 : decode cX8_swaps 26 = .ok (.iconst 1, 1) := by decide +kernel
theorem dX8_swaps_27 : decode cX8_swaps 27 = .ok (.iadd, 1) := by decide +kernel
theorem dX8_swaps_28 : decode cX8_swaps 28 = .ok (.istore 4, 2) := by decide +kernel
theorem dX8_swaps_30 : decode cX8_swaps 30 = .ok (.iload 4, 2) := by decide +kernel
theorem dX8_swaps_32 : decode cX8_swaps 32 = .ok (.aload_n 0, 1) := by decide +kernel
theorem dX8_swaps_33 : decode cX8_swaps 33 = .ok (.getfield 7, 3) := by decide +kernel
theorem dX8_swaps_36 : decode cX8_swaps 36 = .ok (.iconst 1, 1) := by decide +kernel
theorem dX8_swaps_37 : decode cX8_swaps 37 = .ok (.iaload, 1) := by decide +kernel
theorem dX8_swaps_38 : decode cX8_swaps 38 = .ok (.if_icmp .ge 33, 3) := by decide +kernel
theorem dX8_swaps_41 : decode cX8_swaps 41 = .ok (.iload_n 2, 1) := by decide +kernel
theorem dX8_swaps_42 : decode cX8_swaps 42 = .ok (.aload_n 0, 1) := by decide +kernel
theorem dX8_swaps_43 : decode cX8_swaps 43 = .ok (.iload_n 3, 1) := by decide +kernel
theorem dX8_swaps_44 : decode cX8_swaps 44 = .ok (.iload_n 1, 1) := by decide +kernel
theorem dX8_swaps_45 : decode cX8_swaps 45 = .ok (.invokevirtual 138, 3) := by decide +kernel
theorem dX8_swaps_48 : decode cX8_swaps 48 = .ok (.aload_n 0, 1) := by decide +kernel
theorem dX8_swaps_49 : decode cX8_swaps 49 = .ok (.iload 4, 2) := by decide +kernel
theorem dX8_swaps_51 : decode cX8_swaps 51 = .ok (.iload_n 1, 1) := by decide +kernel
theorem dX8_swaps_52 : decode cX8_swaps 52 = .ok (.invokevirtual 138, 3) := by decide +kernel
theorem dX8_swaps_55 : decode cX8_swaps 55 = .ok (.if_icmp .le 7, 3) := by decide +kernel
theorem dX8_swaps_58 : decode cX8_swaps 58 = .ok (.iconst 1, 1) := by decide +kernel
theorem dX8_swaps_59 : decode cX8_swaps 59 = .ok (.goto 4, 3) := by decide +kernel
theorem dX8_swaps_62 : decode cX8_swaps 62 = .ok (.iconst 0, 1) := by decide +kernel
theorem dX8_swaps_63 : decode cX8_swaps 63 = .ok (.iadd, 1) := by decide +kernel
theorem dX8_swaps_64 : decode cX8_swaps 64 = .ok (.istore_n 2, 1) := by decide +kernel
theorem dX8_swaps_65 : decode cX8_swaps 65 = .ok (.iinc 4 1, 3) := by decide +kernel
theorem dX8_swaps_68 : decode cX8_swaps 68 = .ok (.goto (-38), 3) := by decide +kernel
theorem dX8_swaps_71 : decode cX8_swaps 71 = .ok (.iinc 3 1, 3) := by decide +kernel
theorem dX8_swaps_74 : decode cX8_swaps 74 = .ok (.goto (-59), 3) := by decide +kernel
theorem dX8_swaps_77 : decode cX8_swaps 77 = .ok (.iload_n 2, 1) := by decide +kernel
theorem dX8_swaps_78 : decode cX8_swaps 78 = .ok (.ireturn, 1) := by decide +kernel
theorem dX8_isOrder_0 : decode cX8_isOrder 0 = .ok (.iconst 1, 1) := by decide +kernel
theorem dX8_isOrder_1 : decode cX8_isOrder 1 = .ok (.istore_n 3, 1) := by decide +kernel
theorem dX8_isOrder_2 : decode cX8_isOrder 2 = .ok (.iconst (-1), 1) := by decide +kernel
theorem dX8_isOrder_3 : decode cX8_isOrder 3 = .ok (.istore 4, 2) := by decide +kernel
theorem dX8_isOrder_5 : decode cX8_isOrder 5 = .ok (.iconst 0, 1) := by decide +kernel
theorem dX8_isOrder_6 : decode cX8_isOrder 6 = .ok (.istore 5, 2) := by decide +kernel
theorem dX8_isOrder_8 : decode cX8_isOrder 8 = .ok (.iload 5, 2) := by decide +kernel
theorem dX8_isOrder_10 : decode cX8_isOrder 10 = .ok (.aload_n 0, 1) := by decide +kernel
theorem dX8_isOrder_11 : decode cX8_isOrder 11 = .ok (.getfield 7, 3) := by decide +kernel
theorem dX8_isOrder_14 : decode cX8_isOrder 14 = .ok (.iconst 1, 1) := by decide +kernel
theorem dX8_isOrder_15 : decode cX8_isOrder 15 = .ok (.iaload, 1) := by decide +kernel
theorem dX8_isOrder_16 : decode cX8_isOrder 16 = .ok (.if_icmp .ge 49, 3) := by decide +kernel
theorem dX8_isOrder_19 : decode cX8_isOrder 19 = .ok (.iload_n 1, 1) := by decide +kernel
theorem dX8_isOrder_20 : decode cX8_isOrder 20 = .ok (.iload 5, 2) := by decide +kernel
theorem dX8_isOrder_22 : decode cX8_isOrder 22 = .ok (.invokestatic 79, 3) := by decide +kernel
theorem dX8_isOrder_25 : decode cX8_isOrder 25 = .ok (.ifCond .eq 34, 3) := by decide +kernel
theorem dX8_isOrder_28 : decode cX8_isOrder 28 = .ok (.iload_n 3, 1) := by decide +kernel
theorem dX8_isOrder_29 : decode cX8_isOrder 29 = .ok (.ifCond .eq 19, 3) := by decide +kernel
theorem dX8_isOrder_32 : decode cX8_isOrder 32 = .ok (.aload_n 0, 1) := by decide +kernel
theorem dX8_isOrder_33 : decode cX8_isOrder 33 = .ok (.iload 5, 2) := by decide +kernel
theorem dX8_isOrder_35 : decode cX8_isOrder 35 = .ok (.iload_n 2, 1) := by decide +kernel
theorem dX8_isOrder_36 : decode cX8_isOrder 36 = .ok (.invokevirtual 138, 3) := by decide +kernel
theorem dX8_isOrder_39 : decode cX8_isOrder 39 = .ok (.iload 4, 2) := by decide +kernel
theorem dX8_isOrder_41 : decode cX8_isOrder 41 = .ok (.if_icmp .le 7, 3) := by decide +kernel
theorem dX8_isOrder_44 : decode cX8_isOrder 44 = .ok (.iconst 1, 1) := by decide +kernel
theorem dX8_isOrder_45 : decode cX8_isOrder 45 = .ok (.goto 4, 3) := by decide +kernel
theorem dX8_isOrder_48 : decode cX8_isOrder 48 = .ok (.iconst 0, 1) := by decide +kernel
theorem dX8_isOrder_49 : decode cX8_isOrder 49 = .ok (.istore_n 3, 1) := by decide +kernel
theorem dX8_isOrder_50 : decode cX8_isOrder 50 = .ok (.aload_n 0, 1) := by decide +kernel
theorem dX8_isOrder_51 : decode cX8_isOrder 51 = .ok (.iload 5, 2) := by decide +kernel
theorem dX8_isOrder_53 : decode cX8_isOrder 53 = .ok (.iload_n 2, 1) := by decide +kernel
theorem dX8_isOrder_54 : decode cX8_isOrder 54 = .ok (.invokevirtual 138, 3) := by decide +kernel
theorem dX8_isOrder_57 : decode cX8_isOrder 57 = .ok (.istore 4, 2) := by decide +kernel
theorem dX8_isOrder_59 : decode cX8_isOrder 59 = .ok (.iinc 5 1, 3) := by decide +kernel
theorem dX8_isOrder_62 : decode cX8_isOrder 62 = .ok (.goto (-54), 3) := by decide +kernel
theorem dX8_isOrder_65 : decode cX8_isOrder 65 = .ok (.iload_n 3, 1) := by decide +kernel
theorem dX8_isOrder_66 : decode cX8_isOrder 66 = .ok (.ireturn, 1) := by decide +kernel
theorem dX8_isAhead_0 : decode cX8_isAhead 0 = .ok (.iload_n 0, 1) := by decide +kernel
theorem dX8_isAhead_1 : decode cX8_isAhead 1 = .ok (.iload_n 1, 1) := by decide +kernel
theorem dX8_isAhead_2 : decode cX8_isAhead 2 = .ok (.ixor, 1) := by decide +kernel
theorem dX8_isAhead_3 : decode cX8_isAhead 3 = .ok (.istore_n 2, 1) := by decide +kernel
theorem dX8_isAhead_4 : decode cX8_isAhead 4 = .ok (.iload_n 2, 1) := by decide +kernel
theorem dX8_isAhead_5 : decode cX8_isAhead 5 = .ok (.iload_n 2, 1) := by decide +kernel
theorem dX8_isAhead_6 : decode cX8_isAhead 6 = .ok (.ineg, 1) := by decide +kernel
theorem dX8_isAhead_7 : decode cX8_isAhead 7 = .ok (.iand, 1) := by decide +kernel
theorem dX8_isAhead_8 : decode cX8_isAhead 8 = .ok (.iload_n 0, 1) := by decide +kernel
theorem dX8_isAhead_9 : decode cX8_isAhead 9 = .ok (.iand, 1) := by decide +kernel
theorem dX8_isAhead_10 : decode cX8_isAhead 10 = .ok (.ifCond .eq 7, 3) := by decide +kernel
theorem dX8_isAhead_13 : decode cX8_isAhead 13 = .ok (.iconst 1, 1) := by decide +kernel
theorem dX8_isAhead_14 : decode cX8_isAhead 14 = .ok (.goto 4, 3) := by decide +kernel
theorem dX8_isAhead_17 : decode cX8_isAhead 17 = .ok (.iconst 0, 1) := by decide +kernel
theorem dX8_isAhead_18 : decode cX8_isAhead 18 = .ok (.ireturn, 1) := by decide +kernel
theorem dX8_stay_0 : decode cX8_stay 0 = .ok (.iload_n 1, 1) := by decide +kernel
theorem dX8_stay_1 : decode cX8_stay 1 = .ok (.iconst 0, 1) := by decide +kernel
theorem dX8_stay_2 : decode cX8_stay 2 = .ok (.iconst 2, 1) := by decide +kernel
theorem dX8_stay_3 : decode cX8_stay 3 = .ok (.invokestatic 44, 3) := by decide +kernel
theorem dX8_stay_6 : decode cX8_stay 6 = .ok (.ifCond .eq 12, 3) := by decide +kernel
theorem dX8_stay_9 : decode cX8_stay 9 = .ok (.iload_n 2, 1) := by decide +kernel
theorem dX8_stay_10 : decode cX8_stay 10 = .ok (.iconst 0, 1) := by decide +kernel
theorem dX8_stay_11 : decode cX8_stay 11 = .ok (.iconst 1, 1) := by decide +kernel
theorem dX8_stay_12 : decode cX8_stay 12 = .ok (.invokestatic 44, 3) := by decide +kernel
theorem dX8_stay_15 : decode cX8_stay 15 = .ok (.ifCond .ne 5, 3) := by decide +kernel
theorem dX8_stay_18 : decode cX8_stay 18 = .ok (.iconst (-1), 1) := by decide +kernel
theorem dX8_stay_19 : decode cX8_stay 19 = .ok (.ireturn, 1) := by decide +kernel
theorem dX8_stay_20 : decode cX8_stay 20 = .ok (.iconst 0, 1) := by decide +kernel
theorem dX8_stay_21 : decode cX8_stay 21 = .ok (.istore_n 3, 1) := by decide +kernel
theorem dX8_stay_22 : decode cX8_stay 22 = .ok (.iconst 1, 1) := by decide +kernel
theorem dX8_stay_23 : decode cX8_stay 23 = .ok (.istore 4, 2) := by decide +kernel
theorem dX8_stay_25 : decode cX8_stay 25 = .ok (.iload 4, 2) := by decide +kernel
theorem dX8_stay_27 : decode cX8_stay 27 = .ok (.iconst 1, 1) := by decide +kernel
theorem dX8_stay_28 : decode cX8_stay 28 = .ok (.aload_n 0, 1) := by decide +kernel
theorem dX8_stay_29 : decode cX8_stay 29 = .ok (.getfield 7, 3) := by decide +kernel
theorem dX8_stay_32 : decode cX8_stay 32 = .ok (.iconst 1, 1) := by decide +kernel
theorem dX8_stay_33 : decode cX8_stay 33 = .ok (.iaload, 1) := by decide +kernel
theorem dX8_stay_34 : decode cX8_stay 34 = .ok (.ishl, 1) := by decide +kernel
theorem dX8_stay_35 : decode cX8_stay 35 = .ok (.if_icmp .ge 71, 3) := by decide +kernel
theorem dX8_stay_38 : decode cX8_stay 38 = .ok (.iload 4, 2) := by decide +kernel
theorem dX8_stay_40 : decode cX8_stay 40 = .ok (.invokestatic 72, 3) := by decide +kernel
theorem dX8_stay_43 : decode cX8_stay 43 = .ok (.iload_n 3, 1) := by decide +kernel
theorem dX8_stay_44 : decode cX8_stay 44 = .ok (.invokestatic 72, 3) := by decide +kernel
theorem dX8_stay_47 : decode cX8_stay 47 = .ok (.if_icmp .gt 24, 3) := by decide +kernel
theorem dX8_stay_50 : decode cX8_stay 50 = .ok (.iload 4, 2) := by decide +kernel
theorem dX8_stay_52 : decode cX8_stay 52 = .ok (.invokestatic 72, 3) := by decide +kernel
theorem dX8_stay_55 : decode cX8_stay 55 = .ok (.iload_n 3, 1) := by decide +kernel
theorem dX8_stay_56 : decode cX8_stay 56 = .ok (.invokestatic 72, 3) := by decide +kernel
theorem dX8_stay_59 : decode cX8_stay 59 = .ok (.if_icmp .ne 16, 3) := by decide +kernel
theorem dX8_stay_62 : decode cX8_stay 62 = .ok (.iload 4, 2) := by decide +kernel
theorem dX8_stay_64 : decode cX8_stay 64 = .ok (.iload_n 3, 1) := by decide +kernel
theorem dX8_stay_65 : decode cX8_stay 65 = .ok (.invokestatic 142, 3) := by decide +kernel
theorem dX8_stay_68 : decode cX8_stay 68 = .ok (.ifCond .eq 7, 3) := by decide +kernel
theorem dX8_stay_71 : decode cX8_stay 71 = .ok (.iconst 1, 1) := by decide +kernel
theorem dX8_stay_72 : decode cX8_stay 72 = .ok (.goto 4, 3) := by decide +kernel
theorem dX8_stay_75 : decode cX8_stay 75 = .ok (.iconst 0, 1) := by decide +kernel
theorem dX8_stay_76 : decode cX8_stay 76 = .ok (.istore 5, 2) := by decide +kernel
theorem dX8_stay_78 : decode cX8_stay 78 = .ok (.iload 5, 2) := by decide +kernel
theorem dX8_stay_80 : decode cX8_stay 80 = .ok (.ifCond .eq 18, 3) := by decide +kernel
theorem dX8_stay_83 : decode cX8_stay 83 = .ok (.aload_n 0, 1) := by decide +kernel
theorem dX8_stay_84 : decode cX8_stay 84 = .ok (.iload 4, 2) := by decide +kernel
theorem dX8_stay_86 : decode cX8_stay 86 = .ok (.iload_n 1, 1) := by decide +kernel
theorem dX8_stay_87 : decode cX8_stay 87 = .ok (.invokevirtual 145, 3) := by decide +kernel
theorem dX8_stay_90 : decode cX8_stay 90 = .ok (.ifCond .eq 8, 3) := by decide +kernel
theorem dX8_stay_93 : decode cX8_stay 93 = .ok (.iload 4, 2) := by decide +kernel
theorem dX8_stay_95 : decode cX8_stay 95 = .ok (.goto 4, 3) := by decide +kernel
theorem dX8_stay_98 : decode cX8_stay 98 = .ok (.iload_n 3, 1) := by decide +kernel
theorem dX8_stay_99 : decode cX8_stay 99 = .ok (.istore_n 3, 1) := by decide +kernel
theorem dX8_stay_100 : decode cX8_stay 100 = .ok (.iinc 4 1, 3) := by decide +kernel
theorem dX8_stay_103 : decode cX8_stay 103 = .ok (.goto (-78), 3) := by decide +kernel
theorem dX8_stay_106 : decode cX8_stay 106 = .ok (.iconst 0, 1) := by decide +kernel
theorem dX8_stay_107 : decode cX8_stay 107 = .ok (.istore 4, 2) := by decide +kernel
theorem dX8_stay_109 : decode cX8_stay 109 = .ok (.iconst 0, 1) := by decide +kernel
theorem dX8_stay_110 : decode cX8_stay 110 = .ok (.istore 5, 2) := by decide +kernel
theorem dX8_stay_112 : decode cX8_stay 112 = .ok (.iload 5, 2) := by decide +kernel
theorem dX8_stay_114 : decode cX8_stay 114 = .ok (.aload_n 0, 1) := by decide +kernel
theorem dX8_stay_115 : decode cX8_stay 115 = .ok (.getfield 7, 3) := by decide +kernel
theorem dX8_stay_118 : decode cX8_stay 118 = .ok (.iconst 1, 1) := by decide +kernel
theorem dX8_stay_119 : decode cX8_stay 119 = .ok (.iaload, 1) := by decide +kernel
theorem dX8_stay_120 : decode cX8_stay 120 = .ok (.if_icmp .ge 39, 3) := by decide +kernel
theorem dX8_stay_123 : decode cX8_stay 123 = .ok (.iload 4, 2) := by decide +kernel
theorem dX8_stay_125 : decode cX8_stay 125 = .ok (.iload_n 3, 1) := by decide +kernel
theorem dX8_stay_126 : decode cX8_stay 126 = .ok (.iload 5, 2) := by decide +kernel
theorem dX8_stay_128 : decode cX8_stay 128 = .ok (.invokestatic 79, 3) := by decide +kernel
theorem dX8_stay_131 : decode cX8_stay 131 = .ok (.ifCond .eq 18, 3) := by decide +kernel
theorem dX8_stay_134 : decode cX8_stay 134 = .ok (.iconst 1, 1) := by decide +kernel
theorem dX8_stay_135 : decode cX8_stay 135 = .ok (.aload_n 0, 1) := by decide +kernel
theorem dX8_stay_136 : decode cX8_stay 136 = .ok (.getfield 7, 3) := by decide +kernel
theorem dX8_stay_139 : decode cX8_stay 139 = .ok (.bipush 10, 2) := by decide +kernel
theorem dX8_stay_141 : decode cX8_stay 141 = .ok (.iload 5, 2) := by decide +kernel
theorem dX8_stay_143 : decode cX8_stay 143 = .ok (.iadd, 1) := by decide +kernel
theorem dX8_stay_144 : decode cX8_stay 144 = .ok (.iaload, 1) := by decide +kernel
theorem dX8_stay_145 : decode cX8_stay 145 = .ok (.ishl, 1) := by decide +kernel
theorem dX8_stay_146 : decode cX8_stay 146 = .ok (.goto 4, 3) := by decide +kernel
theorem dX8_stay_149 : decode cX8_stay 149 = .ok (.iconst 0, 1) := by decide +kernel
theorem dX8_stay_150 : decode cX8_stay 150 = .ok (.ior, 1) := by decide +kernel
theorem dX8_stay_151 : decode cX8_stay 151 = .ok (.istore 4, 2) := by decide +kernel
theorem dX8_stay_153 : decode cX8_stay 153 = .ok (.iinc 5 1, 3) := by decide +kernel
theorem dX8_stay_156 : decode cX8_stay 156 = .ok (.goto (-44), 3) := by decide +kernel
theorem dX8_stay_159 : decode cX8_stay 159 = .ok (.iload_n 2, 1) := by decide +kernel
theorem dX8_stay_160 : decode cX8_stay 160 = .ok (.ifCond .ne 10, 3) := by decide +kernel
theorem dX8_stay_163 : decode cX8_stay 163 = .ok (.iload_n 3, 1) := by decide +kernel
theorem dX8_stay_164 : decode cX8_stay 164 = .ok (.invokestatic 72, 3) := by decide +kernel
theorem dX8_stay_167 : decode cX8_stay 167 = .ok (.goto 5, 3) := by decide +kernel
theorem dX8_stay_170 : decode cX8_stay 170 = .ok (.iload 4, 2) := by decide +kernel
theorem dX8_stay_172 : decode cX8_stay 172 = .ok (.ireturn, 1) := by decide +kernel
theorem dX8_firstOrder_0 : decode cX8_firstOrder 0 = .ok (.aload_n 0, 1) := by decide +kernel
theorem dX8_firstOrder_1 : decode cX8_firstOrder 1 = .ok (.invokevirtual 75, 3) := by decide +kernel
theorem dX8_firstOrder_4 : decode cX8_firstOrder 4 = .ok (.istore_n 1, 1) := by decide +kernel
theorem dX8_firstOrder_5 : decode cX8_firstOrder 5 = .ok (.iconst 0, 1) := by decide +kernel
theorem dX8_firstOrder_6 : decode cX8_firstOrder 6 = .ok (.istore_n 2, 1) := by decide +kernel
theorem dX8_firstOrder_7 : decode cX8_firstOrder 7 = .ok (.iconst 0, 1) := by decide +kernel
theorem dX8_firstOrder_8 : decode cX8_firstOrder 8 = .ok (.istore_n 3, 1) := by decide +kernel
theorem dX8_firstOrder_9 : decode cX8_firstOrder 9 = .ok (.iload_n 3, 1) := by decide +kernel
theorem dX8_firstOrder_10 : decode cX8_firstOrder 10 = .ok (.bipush 6, 2) := by decide +kernel
theorem dX8_firstOrder_12 : decode cX8_firstOrder 12 = .ok (.if_icmp .ge 30, 3) := by decide +kernel
theorem dX8_firstOrder_15 : decode cX8_firstOrder 15 = .ok (.iload_n 1, 1) := by decide +kernel
theorem dX8_firstOrder_16 : decode cX8_firstOrder 16 = .ok (.iload_n 3, 1) := by decide +kernel
theorem dX8_firstOrder_17 : decode cX8_firstOrder 17 = .ok (.invokestatic 79, 3) := by decide +kernel
theorem dX8_firstOrder_20 : decode cX8_firstOrder 20 = .ok (.ifCond .eq 16, 3) := by decide +kernel
theorem dX8_firstOrder_23 : decode cX8_firstOrder 23 = .ok (.aload_n 0, 1) := by decide +kernel
theorem dX8_firstOrder_24 : decode cX8_firstOrder 24 = .ok (.getfield 7, 3) := by decide +kernel
theorem dX8_firstOrder_27 : decode cX8_firstOrder 27 = .ok (.bipush 10, 2) := by decide +kernel
theorem dX8_firstOrder_29 : decode cX8_firstOrder 29 = .ok (.iload_n 2, 1) := by decide +kernel
theorem dX8_firstOrder_30 : decode cX8_firstOrder 30 = .ok (.iadd, 1) := by decide +kernel
theorem dX8_firstOrder_31 : decode cX8_firstOrder 31 = .ok (.iload_n 3, 1) := by decide +kernel
theorem dX8_firstOrder_32 : decode cX8_firstOrder 32 = .ok (.iastore, 1) := by decide +kernel
theorem dX8_firstOrder_33 : decode cX8_firstOrder 33 = .ok (.iinc 2 1, 3) := by decide +kernel
theorem dX8_firstOrder_36 : decode cX8_firstOrder 36 = .ok (.iinc 3 1, 3) := by decide +kernel
theorem dX8_firstOrder_39 : decode cX8_firstOrder 39 = .ok (.goto (-30), 3) := by decide +kernel
theorem dX8_firstOrder_42 : decode cX8_firstOrder 42 = .ok (.return_, 1) := by decide +kernel
theorem dX8_nextOrder_0 : decode cX8_nextOrder 0 = .ok (.aload_n 0, 1) := by decide +kernel
theorem dX8_nextOrder_1 : decode cX8_nextOrder 1 = .ok (.getfield 7, 3) := by decide +kernel
theorem dX8_nextOrder_4 : decode cX8_nextOrder 4 = .ok (.iconst 1, 1) := by decide +kernel
theorem dX8_nextOrder_5 : decode cX8_nextOrder 5 = .ok (.iaload, 1) := by decide +kernel
theorem dX8_nextOrder_6 : decode cX8_nextOrder 6 = .ok (.iconst 2, 1) := by decide +kernel
theorem dX8_nextOrder_7 : decode cX8_nextOrder 7 = .ok (.isub, 1) := by decide +kernel
theorem dX8_nextOrder_8 : decode cX8_nextOrder 8 = .ok (.istore_n 1, 1) := by decide +kernel
theorem dX8_nextOrder_9 : decode cX8_nextOrder 9 = .ok (.iload_n 1, 1) := by decide +kernel
theorem dX8_nextOrder_10 : decode cX8_nextOrder 10 = .ok (.ifCond .lt 32, 3) := by decide +kernel
theorem dX8_nextOrder_13 : decode cX8_nextOrder 13 = .ok (.aload_n 0, 1) := by decide +kernel
theorem dX8_nextOrder_14 : decode cX8_nextOrder 14 = .ok (.getfield 7, 3) := by decide +kernel
theorem dX8_nextOrder_17 : decode cX8_nextOrder 17 = .ok (.bipush 10, 2) := by decide +kernel
theorem dX8_nextOrder_19 : decode cX8_nextOrder 19 = .ok (.iload_n 1, 1) := by decide +kernel
theorem dX8_nextOrder_20 : decode cX8_nextOrder 20 = .ok (.iadd, 1) := by decide +kernel
theorem dX8_nextOrder_21 : decode cX8_nextOrder 21 = .ok (.iaload, 1) := by decide +kernel
theorem dX8_nextOrder_22 : decode cX8_nextOrder 22 = .ok (.aload_n 0, 1) := by decide +kernel
theorem dX8_nextOrder_23 : decode cX8_nextOrder 23 = .ok (.getfield 7, 3) := by decide +kernel
theorem dX8_nextOrder_26 : decode cX8_nextOrder 26 = .ok (.bipush 10, 2) := by decide +kernel
theorem dX8_nextOrder_28 : decode cX8_nextOrder 28 = .ok (.iload_n 1, 1) := by decide +kernel
theorem dX8_nextOrder_29 : decode cX8_nextOrder 29 = .ok (.iadd, 1) := by decide +kernel
theorem dX8_nextOrder_30 : decode cX8_nextOrder 30 = .ok (.iconst 1, 1) := by decide +kernel
theorem dX8_nextOrder_31 : decode cX8_nextOrder 31 = .ok (.iadd, 1) := by decide +kernel
theorem dX8_nextOrder_32 : decode cX8_nextOrder 32 = .ok (.iaload, 1) := by decide +kernel
theorem dX8_nextOrder_33 : decode cX8_nextOrder 33 = .ok (.if_icmp .le 9, 3) := by decide +kernel
theorem dX8_nextOrder_36 : decode cX8_nextOrder 36 = .ok (.iinc 1 (-1), 3) := by decide +kernel
theorem dX8_nextOrder_39 : decode cX8_nextOrder 39 = .ok (.goto (-30), 3) := by decide +kernel
theorem dX8_nextOrder_42 : decode cX8_nextOrder 42 = .ok (.iload_n 1, 1) := by decide +kernel
theorem dX8_nextOrder_43 : decode cX8_nextOrder 43 = .ok (.ifCond .ge 5, 3) := by decide +kernel
theorem dX8_nextOrder_46 : decode cX8_nextOrder 46 = .ok (.iconst 0, 1) := by decide +kernel
theorem dX8_nextOrder_47 : decode cX8_nextOrder 47 = .ok (.ireturn, 1) := by decide +kernel
theorem dX8_nextOrder_48 : decode cX8_nextOrder 48 = .ok (.aload_n 0, 1) := by decide +kernel
theorem dX8_nextOrder_49 : decode cX8_nextOrder 49 = .ok (.getfield 7, 3) := by decide +kernel
theorem dX8_nextOrder_52 : decode cX8_nextOrder 52 = .ok (.iconst 1, 1) := by decide +kernel
theorem dX8_nextOrder_53 : decode cX8_nextOrder 53 = .ok (.iaload, 1) := by decide +kernel
theorem dX8_nextOrder_54 : decode cX8_nextOrder 54 = .ok (.iconst 1, 1) := by decide +kernel
theorem dX8_nextOrder_55 : decode cX8_nextOrder 55 = .ok (.isub, 1) := by decide +kernel
theorem dX8_nextOrder_56 : decode cX8_nextOrder 56 = .ok (.istore_n 2, 1) := by decide +kernel
theorem dX8_nextOrder_57 : decode cX8_nextOrder 57 = .ok (.aload_n 0, 1) := by decide +kernel
theorem dX8_nextOrder_58 : decode cX8_nextOrder 58 = .ok (.getfield 7, 3) := by decide +kernel
theorem dX8_nextOrder_61 : decode cX8_nextOrder 61 = .ok (.bipush 10, 2) := by decide +kernel
theorem dX8_nextOrder_63 : decode cX8_nextOrder 63 = .ok (.iload_n 2, 1) := by decide +kernel
theorem dX8_nextOrder_64 : decode cX8_nextOrder 64 = .ok (.iadd, 1) := by decide +kernel
theorem dX8_nextOrder_65 : decode cX8_nextOrder 65 = .ok (.iaload, 1) := by decide +kernel
theorem dX8_nextOrder_66 : decode cX8_nextOrder 66 = .ok (.aload_n 0, 1) := by decide +kernel
theorem dX8_nextOrder_67 : decode cX8_nextOrder 67 = .ok (.getfield 7, 3) := by decide +kernel
theorem dX8_nextOrder_70 : decode cX8_nextOrder 70 = .ok (.bipush 10, 2) := by decide +kernel
theorem dX8_nextOrder_72 : decode cX8_nextOrder 72 = .ok (.iload_n 1, 1) := by decide +kernel
theorem dX8_nextOrder_73 : decode cX8_nextOrder 73 = .ok (.iadd, 1) := by decide +kernel
theorem dX8_nextOrder_74 : decode cX8_nextOrder 74 = .ok (.iaload, 1) := by decide +kernel
theorem dX8_nextOrder_75 : decode cX8_nextOrder 75 = .ok (.if_icmp .ge 9, 3) := by decide +kernel
theorem dX8_nextOrder_78 : decode cX8_nextOrder 78 = .ok (.iinc 2 (-1), 3) := by decide +kernel
theorem dX8_nextOrder_81 : decode cX8_nextOrder 81 = .ok (.goto (-24), 3) := by decide +kernel
theorem dX8_nextOrder_84 : decode cX8_nextOrder 84 = .ok (.aload_n 0, 1) := by decide +kernel
theorem dX8_nextOrder_85 : decode cX8_nextOrder 85 = .ok (.getfield 7, 3) := by decide +kernel
theorem dX8_nextOrder_88 : decode cX8_nextOrder 88 = .ok (.bipush 10, 2) := by decide +kernel
theorem dX8_nextOrder_90 : decode cX8_nextOrder 90 = .ok (.iload_n 1, 1) := by decide +kernel
theorem dX8_nextOrder_91 : decode cX8_nextOrder 91 = .ok (.iadd, 1) := by decide +kernel
theorem dX8_nextOrder_92 : decode cX8_nextOrder 92 = .ok (.iaload, 1) := by decide +kernel
theorem dX8_nextOrder_93 : decode cX8_nextOrder 93 = .ok (.istore_n 3, 1) := by decide +kernel
theorem dX8_nextOrder_94 : decode cX8_nextOrder 94 = .ok (.aload_n 0, 1) := by decide +kernel
theorem dX8_nextOrder_95 : decode cX8_nextOrder 95 = .ok (.getfield 7, 3) := by decide +kernel
theorem dX8_nextOrder_98 : decode cX8_nextOrder 98 = .ok (.bipush 10, 2) := by decide +kernel
theorem dX8_nextOrder_100 : decode cX8_nextOrder 100 = .ok (.iload_n 1, 1) := by decide +kernel
theorem dX8_nextOrder_101 : decode cX8_nextOrder 101 = .ok (.iadd, 1) := by decide +kernel
theorem dX8_nextOrder_102 : decode cX8_nextOrder 102 = .ok (.aload_n 0, 1) := by decide +kernel
theorem dX8_nextOrder_103 : decode cX8_nextOrder 103 = .ok (.getfield 7, 3) := by decide +kernel
theorem dX8_nextOrder_106 : decode cX8_nextOrder 106 = .ok (.bipush 10, 2) := by decide +kernel
theorem dX8_nextOrder_108 : decode cX8_nextOrder 108 = .ok (.iload_n 2, 1) := by decide +kernel
theorem dX8_nextOrder_109 : decode cX8_nextOrder 109 = .ok (.iadd, 1) := by decide +kernel
theorem dX8_nextOrder_110 : decode cX8_nextOrder 110 = .ok (.iaload, 1) := by decide +kernel
theorem dX8_nextOrder_111 : decode cX8_nextOrder 111 = .ok (.iastore, 1) := by decide +kernel
theorem dX8_nextOrder_112 : decode cX8_nextOrder 112 = .ok (.aload_n 0, 1) := by decide +kernel
theorem dX8_nextOrder_113 : decode cX8_nextOrder 113 = .ok (.getfield 7, 3) := by decide +kernel
theorem dX8_nextOrder_116 : decode cX8_nextOrder 116 = .ok (.bipush 10, 2) := by decide +kernel
theorem dX8_nextOrder_118 : decode cX8_nextOrder 118 = .ok (.iload_n 2, 1) := by decide +kernel
theorem dX8_nextOrder_119 : decode cX8_nextOrder 119 = .ok (.iadd, 1) := by decide +kernel
theorem dX8_nextOrder_120 : decode cX8_nextOrder 120 = .ok (.iload_n 3, 1) := by decide +kernel
theorem dX8_nextOrder_121 : decode cX8_nextOrder 121 = .ok (.iastore, 1) := by decide +kernel
theorem dX8_nextOrder_122 : decode cX8_nextOrder 122 = .ok (.iload_n 1, 1) := by decide +kernel
theorem dX8_nextOrder_123 : decode cX8_nextOrder 123 = .ok (.iconst 1, 1) := by decide +kernel
theorem dX8_nextOrder_124 : decode cX8_nextOrder 124 = .ok (.iadd, 1) := by decide +kernel
theorem dX8_nextOrder_125 : decode cX8_nextOrder 125 = .ok (.istore 4, 2) := by decide +kernel
theorem dX8_nextOrder_127 : decode cX8_nextOrder 127 = .ok (.aload_n 0, 1) := by decide +kernel
theorem dX8_nextOrder_128 : decode cX8_nextOrder 128 = .ok (.getfield 7, 3) := by decide +kernel
theorem dX8_nextOrder_131 : decode cX8_nextOrder 131 = .ok (.iconst 1, 1) := by decide +kernel
theorem dX8_nextOrder_132 : decode cX8_nextOrder 132 = .ok (.iaload, 1) := by decide +kernel
theorem dX8_nextOrder_133 : decode cX8_nextOrder 133 = .ok (.iconst 1, 1) := by decide +kernel
theorem dX8_nextOrder_134 : decode cX8_nextOrder 134 = .ok (.isub, 1) := by decide +kernel
theorem dX8_nextOrder_135 : decode cX8_nextOrder 135 = .ok (.istore 5, 2) := by decide +kernel
theorem dX8_nextOrder_137 : decode cX8_nextOrder 137 = .ok (.iload 4, 2) := by decide +kernel
theorem dX8_nextOrder_139 : decode cX8_nextOrder 139 = .ok (.iload 5, 2) := by decide +kernel
theorem dX8_nextOrder_141 : decode cX8_nextOrder 141 = .ok (.if_icmp .ge 54, 3) := by decide +kernel
theorem dX8_nextOrder_144 : decode cX8_nextOrder 144 = .ok (.aload_n 0, 1) := by decide +kernel
theorem dX8_nextOrder_145 : decode cX8_nextOrder 145 = .ok (.getfield 7, 3) := by decide +kernel
theorem dX8_nextOrder_148 : decode cX8_nextOrder 148 = .ok (.bipush 10, 2) := by decide +kernel
theorem dX8_nextOrder_150 : decode cX8_nextOrder 150 = .ok (.iload 4, 2) := by decide +kernel
theorem dX8_nextOrder_152 : decode cX8_nextOrder 152 = .ok (.iadd, 1) := by decide +kernel
theorem dX8_nextOrder_153 : decode cX8_nextOrder 153 = .ok (.iaload, 1) := by decide +kernel
theorem dX8_nextOrder_154 : decode cX8_nextOrder 154 = .ok (.istore_n 3, 1) := by decide +kernel
theorem dX8_nextOrder_155 : decode cX8_nextOrder 155 = .ok (.aload_n 0, 1) := by decide +kernel
theorem dX8_nextOrder_156 : decode cX8_nextOrder 156 = .ok (.getfield 7, 3) := by decide +kernel
theorem dX8_nextOrder_159 : decode cX8_nextOrder 159 = .ok (.bipush 10, 2) := by decide +kernel
theorem dX8_nextOrder_161 : decode cX8_nextOrder 161 = .ok (.iload 4, 2) := by decide +kernel
theorem dX8_nextOrder_163 : decode cX8_nextOrder 163 = .ok (.iadd, 1) := by decide +kernel
theorem dX8_nextOrder_164 : decode cX8_nextOrder 164 = .ok (.aload_n 0, 1) := by decide +kernel
theorem dX8_nextOrder_165 : decode cX8_nextOrder 165 = .ok (.getfield 7, 3) := by decide +kernel
theorem dX8_nextOrder_168 : decode cX8_nextOrder 168 = .ok (.bipush 10, 2) := by decide +kernel
theorem dX8_nextOrder_170 : decode cX8_nextOrder 170 = .ok (.iload 5, 2) := by decide +kernel
theorem dX8_nextOrder_172 : decode cX8_nextOrder 172 = .ok (.iadd, 1) := by decide +kernel
theorem dX8_nextOrder_173 : decode cX8_nextOrder 173 = .ok (.iaload, 1) := by decide +kernel
theorem dX8_nextOrder_174 : decode cX8_nextOrder 174 = .ok (.iastore, 1) := by decide +kernel
theorem dX8_nextOrder_175 : decode cX8_nextOrder 175 = .ok (.aload_n 0, 1) := by decide +kernel
theorem dX8_nextOrder_176 : decode cX8_nextOrder 176 = .ok (.getfield 7, 3) := by decide +kernel
theorem dX8_nextOrder_179 : decode cX8_nextOrder 179 = .ok (.bipush 10, 2) := by decide +kernel
theorem dX8_nextOrder_181 : decode cX8_nextOrder 181 = .ok (.iload 5, 2) := by decide +kernel
theorem dX8_nextOrder_183 : decode cX8_nextOrder 183 = .ok (.iadd, 1) := by decide +kernel
theorem dX8_nextOrder_184 : decode cX8_nextOrder 184 = .ok (.iload_n 3, 1) := by decide +kernel
theorem dX8_nextOrder_185 : decode cX8_nextOrder 185 = .ok (.iastore, 1) := by decide +kernel
theorem dX8_nextOrder_186 : decode cX8_nextOrder 186 = .ok (.iinc 4 1, 3) := by decide +kernel
theorem dX8_nextOrder_189 : decode cX8_nextOrder 189 = .ok (.iinc 5 (-1), 3) := by decide +kernel
theorem dX8_nextOrder_192 : decode cX8_nextOrder 192 = .ok (.goto (-55), 3) := by decide +kernel
theorem dX8_nextOrder_195 : decode cX8_nextOrder 195 = .ok (.iconst 1, 1) := by decide +kernel
theorem dX8_nextOrder_196 : decode cX8_nextOrder 196 = .ok (.ireturn, 1) := by decide +kernel
theorem dX8_ways_0 : decode cX8_ways 0 = .ok (.aload_n 0, 1) := by decide +kernel
theorem dX8_ways_1 : decode cX8_ways 1 = .ok (.invokevirtual 132, 3) := by decide +kernel
theorem dX8_ways_4 : decode cX8_ways 4 = .ok (.aload_n 0, 1) := by decide +kernel
theorem dX8_ways_5 : decode cX8_ways 5 = .ok (.invokevirtual 148, 3) := by decide +kernel
theorem dX8_ways_8 : decode cX8_ways 8 = .ok (.iconst 0, 1) := by decide +kernel
theorem dX8_ways_9 : decode cX8_ways 9 = .ok (.istore_n 1, 1) := by decide +kernel
theorem dX8_ways_10 : decode cX8_ways 10 = .ok (.iconst 1, 1) := by decide +kernel
theorem dX8_ways_11 : decode cX8_ways 11 = .ok (.istore_n 2, 1) := by decide +kernel
theorem dX8_ways_12 : decode cX8_ways 12 = .ok (.iload_n 2, 1) := by decide +kernel
theorem dX8_ways_13 : decode cX8_ways 13 = .ok (.ifCond .eq 26, 3) := by decide +kernel
theorem dX8_ways_16 : decode cX8_ways 16 = .ok (.iload_n 1, 1) := by decide +kernel
theorem dX8_ways_17 : decode cX8_ways 17 = .ok (.aload_n 0, 1) := by decide +kernel
theorem dX8_ways_18 : decode cX8_ways 18 = .ok (.invokevirtual 116, 3) := by decide +kernel
theorem dX8_ways_21 : decode cX8_ways 21 = .ok (.ifCond .ne 7, 3) := by decide +kernel
theorem dX8_ways_24 : decode cX8_ways 24 = .ok (.iconst 1, 1) := by decide +kernel
theorem dX8_ways_25 : decode cX8_ways 25 = .ok (.goto 4, 3) := by decide +kernel
theorem dX8_ways_28 : decode cX8_ways 28 = .ok (.iconst 0, 1) := by decide +kernel
theorem dX8_ways_29 : decode cX8_ways 29 = .ok (.iadd, 1) := by decide +kernel
theorem dX8_ways_30 : decode cX8_ways 30 = .ok (.istore_n 1, 1) := by decide +kernel
theorem dX8_ways_31 : decode cX8_ways 31 = .ok (.aload_n 0, 1) := by decide +kernel
theorem dX8_ways_32 : decode cX8_ways 32 = .ok (.invokevirtual 151, 3) := by decide +kernel
theorem dX8_ways_35 : decode cX8_ways 35 = .ok (.istore_n 2, 1) := by decide +kernel
theorem dX8_ways_36 : decode cX8_ways 36 = .ok (.goto (-24), 3) := by decide +kernel
theorem dX8_ways_39 : decode cX8_ways 39 = .ok (.aload_n 0, 1) := by decide +kernel
theorem dX8_ways_40 : decode cX8_ways 40 = .ok (.invokevirtual 135, 3) := by decide +kernel
theorem dX8_ways_43 : decode cX8_ways 43 = .ok (.iload_n 1, 1) := by decide +kernel
theorem dX8_ways_44 : decode cX8_ways 44 = .ok (.ireturn, 1) := by decide +kernel
theorem dX8_ease_0 : decode cX8_ease 0 = .ok (.iload_n 1, 1) := by decide +kernel
theorem dX8_ease_1 : decode cX8_ease 1 = .ok (.iconst (-1), 1) := by decide +kernel
theorem dX8_ease_2 : decode cX8_ease 2 = .ok (.if_icmp .ge 5, 3) := by decide +kernel
theorem dX8_ease_5 : decode cX8_ease 5 = .ok (.iconst (-1), 1) := by decide +kernel
theorem dX8_ease_6 : decode cX8_ease 6 = .ok (.ireturn, 1) := by decide +kernel
theorem dX8_ease_7 : decode cX8_ease 7 = .ok (.aload_n 0, 1) := by decide +kernel
theorem dX8_ease_8 : decode cX8_ease 8 = .ok (.invokevirtual 132, 3) := by decide +kernel
theorem dX8_ease_11 : decode cX8_ease 11 = .ok (.aload_n 0, 1) := by decide +kernel
theorem dX8_ease_12 : decode cX8_ease 12 = .ok (.invokevirtual 148, 3) := by decide +kernel
theorem dX8_ease_15 : decode cX8_ease 15 = .ok (.bipush 99, 2) := by decide +kernel
theorem dX8_ease_17 : decode cX8_ease 17 = .ok (.istore_n 2, 1) := by decide +kernel
theorem dX8_ease_18 : decode cX8_ease 18 = .ok (.bipush (-4), 2) := by decide +kernel
theorem dX8_ease_20 : decode cX8_ease 20 = .ok (.istore_n 3, 1) := by decide +kernel
theorem dX8_ease_21 : decode cX8_ease 21 = .ok (.iconst 1, 1) := by decide +kernel
theorem dX8_ease_22 : decode cX8_ease 22 = .ok (.istore 4, 2) := by decide +kernel
theorem dX8_ease_24 : decode cX8_ease 24 = .ok (.iload 4, 2) := by decide +kernel
theorem dX8_ease_26 : decode cX8_ease 26 = .ok (.ifCond .eq 47, 3) := by decide +kernel
theorem dX8_ease_29 : decode cX8_ease 29 = .ok (.aload_n 0, 1) := by decide +kernel
theorem dX8_ease_30 : decode cX8_ease 30 = .ok (.invokevirtual 116, 3) := by decide +kernel
theorem dX8_ease_33 : decode cX8_ease 33 = .ok (.istore 5, 2) := by decide +kernel
theorem dX8_ease_35 : decode cX8_ease 35 = .ok (.iload 5, 2) := by decide +kernel
theorem dX8_ease_37 : decode cX8_ease 37 = .ok (.iload_n 2, 1) := by decide +kernel
theorem dX8_ease_38 : decode cX8_ease 38 = .ok (.if_icmp .ge 11, 3) := by decide +kernel
theorem dX8_ease_41 : decode cX8_ease 41 = .ok (.aload_n 0, 1) := by decide +kernel
theorem dX8_ease_42 : decode cX8_ease 42 = .ok (.iload_n 1, 1) := by decide +kernel
theorem dX8_ease_43 : decode cX8_ease 43 = .ok (.invokevirtual 63, 3) := by decide +kernel
theorem dX8_ease_46 : decode cX8_ease 46 = .ok (.goto 4, 3) := by decide +kernel
theorem dX8_ease_49 : decode cX8_ease 49 = .ok (.iload_n 3, 1) := by decide +kernel
theorem dX8_ease_50 : decode cX8_ease 50 = .ok (.istore_n 3, 1) := by decide +kernel
theorem dX8_ease_51 : decode cX8_ease 51 = .ok (.iload 5, 2) := by decide +kernel
theorem dX8_ease_53 : decode cX8_ease 53 = .ok (.iload_n 2, 1) := by decide +kernel
theorem dX8_ease_54 : decode cX8_ease 54 = .ok (.if_icmp .ge 8, 3) := by decide +kernel
theorem dX8_ease_57 : decode cX8_ease 57 = .ok (.iload 5, 2) := by decide +kernel
theorem dX8_ease_59 : decode cX8_ease 59 = .ok (.goto 4, 3) := by decide +kernel
theorem dX8_ease_62 : decode cX8_ease 62 = .ok (.iload_n 2, 1) := by decide +kernel
theorem dX8_ease_63 : decode cX8_ease 63 = .ok (.istore_n 2, 1) := by decide +kernel
theorem dX8_ease_64 : decode cX8_ease 64 = .ok (.aload_n 0, 1) := by decide +kernel
theorem dX8_ease_65 : decode cX8_ease 65 = .ok (.invokevirtual 151, 3) := by decide +kernel
theorem dX8_ease_68 : decode cX8_ease 68 = .ok (.istore 4, 2) := by decide +kernel
theorem dX8_ease_70 : decode cX8_ease 70 = .ok (.goto (-46), 3) := by decide +kernel
theorem dX8_ease_73 : decode cX8_ease 73 = .ok (.aload_n 0, 1) := by decide +kernel
theorem dX8_ease_74 : decode cX8_ease 74 = .ok (.invokevirtual 135, 3) := by decide +kernel
theorem dX8_ease_77 : decode cX8_ease 77 = .ok (.iload_n 1, 1) := by decide +kernel
theorem dX8_ease_78 : decode cX8_ease 78 = .ok (.iconst (-1), 1) := by decide +kernel
theorem dX8_ease_79 : decode cX8_ease 79 = .ok (.if_icmp .ne 7, 3) := by decide +kernel
theorem dX8_ease_82 : decode cX8_ease 82 = .ok (.iload_n 2, 1) := by decide +kernel
theorem dX8_ease_83 : decode cX8_ease 83 = .ok (.goto 4, 3) := by decide +kernel
theorem dX8_ease_86 : decode cX8_ease 86 = .ok (.iload_n 3, 1) := by decide +kernel
theorem dX8_ease_87 : decode cX8_ease 87 = .ok (.ireturn, 1) := by decide +kernel
theorem dX8_left_0 : decode cX8_left 0 = .ok (.iload_n 1, 1) := by decide +kernel
theorem dX8_left_1 : decode cX8_left 1 = .ok (.iconst 0, 1) := by decide +kernel
theorem dX8_left_2 : decode cX8_left 2 = .ok (.bipush 30, 2) := by decide +kernel
theorem dX8_left_4 : decode cX8_left 4 = .ok (.invokestatic 44, 3) := by decide +kernel
theorem dX8_left_7 : decode cX8_left 7 = .ok (.ifCond .eq 9, 3) := by decide +kernel
theorem dX8_left_10 : decode cX8_left 10 = .ok (.iload_n 2, 1) := by decide +kernel
theorem dX8_left_11 : decode cX8_left 11 = .ok (.bipush (-2), 2) := by decide +kernel
theorem dX8_left_13 : decode cX8_left 13 = .ok (.if_icmp .ge 5, 3) := by decide +kernel
theorem dX8_left_16 : decode cX8_left 16 = .ok (.iconst (-1), 1) := by decide +kernel
theorem dX8_left_17 : decode cX8_left 17 = .ok (.ireturn, 1) := by decide +kernel
theorem dX8_left_18 : decode cX8_left 18 = .ok (.aload_n 0, 1) := by decide +kernel
theorem dX8_left_19 : decode cX8_left 19 = .ok (.invokevirtual 132, 3) := by decide +kernel
theorem dX8_left_22 : decode cX8_left 22 = .ok (.aload_n 0, 1) := by decide +kernel
theorem dX8_left_23 : decode cX8_left 23 = .ok (.invokevirtual 148, 3) := by decide +kernel
theorem dX8_left_26 : decode cX8_left 26 = .ok (.iconst (-1), 1) := by decide +kernel
theorem dX8_left_27 : decode cX8_left 27 = .ok (.istore_n 3, 1) := by decide +kernel
theorem dX8_left_28 : decode cX8_left 28 = .ok (.iconst (-1), 1) := by decide +kernel
theorem dX8_left_29 : decode cX8_left 29 = .ok (.istore 4, 2) := by decide +kernel
theorem dX8_left_31 : decode cX8_left 31 = .ok (.bipush (-4), 2) := by decide +kernel
theorem dX8_left_33 : decode cX8_left 33 = .ok (.istore 5, 2) := by decide +kernel
theorem dX8_left_35 : decode cX8_left 35 = .ok (.iconst 1, 1) := by decide +kernel
theorem dX8_left_36 : decode cX8_left 36 = .ok (.istore 6, 2) := by decide +kernel
theorem dX8_left_38 : decode cX8_left 38 = .ok (.iload 6, 2) := by decide +kernel
theorem dX8_left_40 : decode cX8_left 40 = .ok (.ifCond .eq 144, 3) := by decide +kernel
theorem dX8_left_43 : decode cX8_left 43 = .ok (.iconst 0, 1) := by decide +kernel
theorem dX8_left_44 : decode cX8_left 44 = .ok (.istore 7, 2) := by decide +kernel
theorem dX8_left_46 : decode cX8_left 46 = .ok (.iload 7, 2) := by decide +kernel
theorem dX8_left_48 : decode cX8_left 48 = .ok (.bipush 40, 2) := by decide +kernel
theorem dX8_left_50 : decode cX8_left 50 = .ok (.if_icmp .ge 23, 3) := by decide +kernel
theorem dX8_left_53 : decode cX8_left 53 = .ok (.aload_n 0, 1) := by decide +kernel
theorem dX8_left_54 : decode cX8_left 54 = .ok (.getfield 41, 3) := by decide +kernel
theorem dX8_left_57 : decode cX8_left 57 = .ok (.iload 7, 2) := by decide +kernel
theorem dX8_left_59 : decode cX8_left 59 = .ok (.aload_n 0, 1) := by decide +kernel
theorem dX8_left_60 : decode cX8_left 60 = .ok (.getfield 7, 3) := by decide +kernel
theorem dX8_left_63 : decode cX8_left 63 = .ok (.iload 7, 2) := by decide +kernel
theorem dX8_left_65 : decode cX8_left 65 = .ok (.iaload, 1) := by decide +kernel
theorem dX8_left_66 : decode cX8_left 66 = .ok (.iastore, 1) := by decide +kernel
theorem dX8_left_67 : decode cX8_left 67 = .ok (.iinc 7 1, 3) := by decide +kernel
theorem dX8_left_70 : decode cX8_left 70 = .ok (.goto (-24), 3) := by decide +kernel
theorem dX8_left_73 : decode cX8_left 73 = .ok (.aload_n 0, 1) := by decide +kernel
theorem dX8_left_74 : decode cX8_left 74 = .ok (.iload_n 2, 1) := by decide +kernel
theorem dX8_left_75 : decode cX8_left 75 = .ok (.invokevirtual 63, 3) := by decide +kernel
theorem dX8_left_78 : decode cX8_left 78 = .ok (.istore 7, 2) := by decide +kernel
theorem dX8_left_80 : decode cX8_left 80 = .ok (.iconst 0, 1) := by decide +kernel
theorem dX8_left_81 : decode cX8_left 81 = .ok (.istore 8, 2) := by decide +kernel
theorem dX8_left_83 : decode cX8_left 83 = .ok (.iload 8, 2) := by decide +kernel
theorem dX8_left_85 : decode cX8_left 85 = .ok (.iload_n 1, 1) := by decide +kernel
theorem dX8_left_86 : decode cX8_left 86 = .ok (.if_icmp .ge 13, 3) := by decide +kernel
theorem dX8_left_89 : decode cX8_left 89 = .ok (.aload_n 0, 1) := by decide +kernel
theorem dX8_left_90 : decode cX8_left 90 = .ok (.invokevirtual 122, 3) := by decide +kernel
theorem dX8_left_93 : decode cX8_left 93 = .ok (.iinc 8 1, 3) := by decide +kernel
theorem dX8_left_96 : decode cX8_left 96 = .ok (.goto (-13), 3) := by decide +kernel
theorem dX8_left_99 : decode cX8_left 99 = .ok (.aload_n 0, 1) := by decide +kernel
theorem dX8_left_100 : decode cX8_left 100 = .ok (.getfield 7, 3) := by decide +kernel
theorem dX8_left_103 : decode cX8_left 103 = .ok (.iconst 1, 1) := by decide +kernel
theorem dX8_left_104 : decode cX8_left 104 = .ok (.iaload, 1) := by decide +kernel
theorem dX8_left_105 : decode cX8_left 105 = .ok (.iload_n 3, 1) := by decide +kernel
theorem dX8_left_106 : decode cX8_left 106 = .ok (.if_icmp .gt 22, 3) := by decide +kernel
theorem dX8_left_109 : decode cX8_left 109 = .ok (.aload_n 0, 1) := by decide +kernel
theorem dX8_left_110 : decode cX8_left 110 = .ok (.getfield 7, 3) := by decide +kernel
theorem dX8_left_113 : decode cX8_left 113 = .ok (.iconst 1, 1) := by decide +kernel
theorem dX8_left_114 : decode cX8_left 114 = .ok (.iaload, 1) := by decide +kernel
theorem dX8_left_115 : decode cX8_left 115 = .ok (.iload_n 3, 1) := by decide +kernel
theorem dX8_left_116 : decode cX8_left 116 = .ok (.if_icmp .ne 29, 3) := by decide +kernel
theorem dX8_left_119 : decode cX8_left 119 = .ok (.aload_n 0, 1) := by decide +kernel
theorem dX8_left_120 : decode cX8_left 120 = .ok (.invokevirtual 113, 3) := by decide +kernel
theorem dX8_left_123 : decode cX8_left 123 = .ok (.iload 4, 2) := by decide +kernel
theorem dX8_left_125 : decode cX8_left 125 = .ok (.if_icmp .le 20, 3) := by decide +kernel
theorem dX8_left_128 : decode cX8_left 128 = .ok (.aload_n 0, 1) := by decide +kernel
theorem dX8_left_129 : decode cX8_left 129 = .ok (.getfield 7, 3) := by decide +kernel
theorem dX8_left_132 : decode cX8_left 132 = .ok (.iconst 1, 1) := by decide +kernel
theorem dX8_left_133 : decode cX8_left 133 = .ok (.iaload, 1) := by decide +kernel
theorem dX8_left_134 : decode cX8_left 134 = .ok (.istore_n 3, 1) := by decide +kernel
theorem dX8_left_135 : decode cX8_left 135 = .ok (.aload_n 0, 1) := by decide +kernel
theorem dX8_left_136 : decode cX8_left 136 = .ok (.invokevirtual 113, 3) := by decide +kernel
theorem dX8_left_139 : decode cX8_left 139 = .ok (.istore 4, 2) := by decide +kernel
theorem dX8_left_141 : decode cX8_left 141 = .ok (.iload 7, 2) := by decide +kernel
theorem dX8_left_143 : decode cX8_left 143 = .ok (.istore 5, 2) := by decide +kernel
theorem dX8_left_145 : decode cX8_left 145 = .ok (.iconst 0, 1) := by decide +kernel
theorem dX8_left_146 : decode cX8_left 146 = .ok (.istore 8, 2) := by decide +kernel
theorem dX8_left_148 : decode cX8_left 148 = .ok (.iload 8, 2) := by decide +kernel
theorem dX8_left_150 : decode cX8_left 150 = .ok (.bipush 40, 2) := by decide +kernel
theorem dX8_left_152 : decode cX8_left 152 = .ok (.if_icmp .ge 23, 3) := by decide +kernel
theorem dX8_left_155 : decode cX8_left 155 = .ok (.aload_n 0, 1) := by decide +kernel
theorem dX8_left_156 : decode cX8_left 156 = .ok (.getfield 7, 3) := by decide +kernel
theorem dX8_left_159 : decode cX8_left 159 = .ok (.iload 8, 2) := by decide +kernel
theorem dX8_left_161 : decode cX8_left 161 = .ok (.aload_n 0, 1) := by decide +kernel
theorem dX8_left_162 : decode cX8_left 162 = .ok (.getfield 41, 3) := by decide +kernel
theorem dX8_left_165 : decode cX8_left 165 = .ok (.iload 8, 2) := by decide +kernel
theorem dX8_left_167 : decode cX8_left 167 = .ok (.iaload, 1) := by decide +kernel
theorem dX8_left_168 : decode cX8_left 168 = .ok (.iastore, 1) := by decide +kernel
theorem dX8_left_169 : decode cX8_left 169 = .ok (.iinc 8 1, 3) := by decide +kernel
theorem dX8_left_172 : decode cX8_left 172 = .ok (.goto (-24), 3) := by decide +kernel
theorem dX8_left_175 : decode cX8_left 175 = .ok (.aload_n 0, 1) := by decide +kernel
theorem dX8_left_176 : decode cX8_left 176 = .ok (.invokevirtual 151, 3) := by decide +kernel
theorem dX8_left_179 : decode cX8_left 179 = .ok (.istore 6, 2) := by decide +kernel
theorem dX8_left_181 : decode cX8_left 181 = .ok (.goto (-143), 3) := by decide +kernel
theorem dX8_left_184 : decode cX8_left 184 = .ok (.aload_n 0, 1) := by decide +kernel
theorem dX8_left_185 : decode cX8_left 185 = .ok (.invokevirtual 135, 3) := by decide +kernel
theorem dX8_left_188 : decode cX8_left 188 = .ok (.iload_n 2, 1) := by decide +kernel
theorem dX8_left_189 : decode cX8_left 189 = .ok (.iconst (-1), 1) := by decide +kernel
theorem dX8_left_190 : decode cX8_left 190 = .ok (.if_icmp .ne 7, 3) := by decide +kernel
theorem dX8_left_193 : decode cX8_left 193 = .ok (.iload_n 3, 1) := by decide +kernel
theorem dX8_left_194 : decode cX8_left 194 = .ok (.goto 16, 3) := by decide +kernel
theorem dX8_left_197 : decode cX8_left 197 = .ok (.iload_n 2, 1) := by decide +kernel
theorem dX8_left_198 : decode cX8_left 198 = .ok (.bipush (-2), 2) := by decide +kernel
theorem dX8_left_200 : decode cX8_left 200 = .ok (.if_icmp .ne 8, 3) := by decide +kernel
theorem dX8_left_203 : decode cX8_left 203 = .ok (.iload 4, 2) := by decide +kernel
theorem dX8_left_205 : decode cX8_left 205 = .ok (.goto 5, 3) := by decide +kernel
theorem dX8_left_208 : decode cX8_left 208 = .ok (.iload 5, 2) := by decide +kernel
theorem dX8_left_210 : decode cX8_left 210 = .ok (.ireturn, 1) := by decide +kernel
theorem dX8_winter_0 : decode cX8_winter 0 = .ok (.iload_n 1, 1) := by decide +kernel
theorem dX8_winter_1 : decode cX8_winter 1 = .ok (.iconst 0, 1) := by decide +kernel
theorem dX8_winter_2 : decode cX8_winter 2 = .ok (.bipush 6, 2) := by decide +kernel
theorem dX8_winter_4 : decode cX8_winter 4 = .ok (.invokestatic 44, 3) := by decide +kernel
theorem dX8_winter_7 : decode cX8_winter 7 = .ok (.ifCond .eq 22, 3) := by decide +kernel
theorem dX8_winter_10 : decode cX8_winter 10 = .ok (.iload_n 2, 1) := by decide +kernel
theorem dX8_winter_11 : decode cX8_winter 11 = .ok (.iconst 0, 1) := by decide +kernel
theorem dX8_winter_12 : decode cX8_winter 12 = .ok (.bipush 10, 2) := by decide +kernel
theorem dX8_winter_14 : decode cX8_winter 14 = .ok (.invokestatic 44, 3) := by decide +kernel
theorem dX8_winter_17 : decode cX8_winter 17 = .ok (.ifCond .eq 12, 3) := by decide +kernel
theorem dX8_winter_20 : decode cX8_winter 20 = .ok (.iload_n 3, 1) := by decide +kernel
theorem dX8_winter_21 : decode cX8_winter 21 = .ok (.iconst 0, 1) := by decide +kernel
theorem dX8_winter_22 : decode cX8_winter 22 = .ok (.iconst 1, 1) := by decide +kernel
theorem dX8_winter_23 : decode cX8_winter 23 = .ok (.invokestatic 44, 3) := by decide +kernel
theorem dX8_winter_26 : decode cX8_winter 26 = .ok (.ifCond .ne 5, 3) := by decide +kernel
theorem dX8_winter_29 : decode cX8_winter 29 = .ok (.iconst (-1), 1) := by decide +kernel
theorem dX8_winter_30 : decode cX8_winter 30 = .ok (.ireturn, 1) := by decide +kernel
theorem dX8_winter_31 : decode cX8_winter 31 = .ok (.iconst 0, 1) := by decide +kernel
theorem dX8_winter_32 : decode cX8_winter 32 = .ok (.istore 4, 2) := by decide +kernel
theorem dX8_winter_34 : decode cX8_winter 34 = .ok (.iconst 1, 1) := by decide +kernel
theorem dX8_winter_35 : decode cX8_winter 35 = .ok (.istore 5, 2) := by decide +kernel
theorem dX8_winter_37 : decode cX8_winter 37 = .ok (.iconst 0, 1) := by decide +kernel
theorem dX8_winter_38 : decode cX8_winter 38 = .ok (.istore 6, 2) := by decide +kernel
theorem dX8_winter_40 : decode cX8_winter 40 = .ok (.iload 6, 2) := by decide +kernel
theorem dX8_winter_42 : decode cX8_winter 42 = .ok (.aload_n 0, 1) := by decide +kernel
theorem dX8_winter_43 : decode cX8_winter 43 = .ok (.getfield 7, 3) := by decide +kernel
theorem dX8_winter_46 : decode cX8_winter 46 = .ok (.iconst 1, 1) := by decide +kernel
theorem dX8_winter_47 : decode cX8_winter 47 = .ok (.iaload, 1) := by decide +kernel
theorem dX8_winter_48 : decode cX8_winter 48 = .ok (.if_icmp .ge 16, 3) := by decide +kernel
theorem dX8_winter_51 : decode cX8_winter 51 = .ok (.iload 5, 2) := by decide +kernel
theorem dX8_winter_53 : decode cX8_winter 53 = .ok (.bipush 10, 2) := by decide +kernel
theorem dX8_winter_55 : decode cX8_winter 55 = .ok (.imul, 1) := by decide +kernel
theorem dX8_winter_56 : decode cX8_winter 56 = .ok (.istore 5, 2) := by decide +kernel
theorem dX8_winter_58 : decode cX8_winter 58 = .ok (.iinc 6 1, 3) := by decide +kernel
theorem dX8_winter_61 : decode cX8_winter 61 = .ok (.goto (-21), 3) := by decide +kernel
theorem dX8_winter_64 : decode cX8_winter 64 = .ok (.iconst 0, 1) := by decide +kernel
theorem dX8_winter_65 : decode cX8_winter 65 = .ok (.istore 6, 2) := by decide +kernel
theorem dX8_winter_67 : decode cX8_winter 67 = .ok (.iload 6, 2) := by decide +kernel
theorem dX8_winter_69 : decode cX8_winter 69 = .ok (.iconst 1, 1) := by decide +kernel
theorem dX8_winter_70 : decode cX8_winter 70 = .ok (.aload_n 0, 1) := by decide +kernel
theorem dX8_winter_71 : decode cX8_winter 71 = .ok (.getfield 7, 3) := by decide +kernel
theorem dX8_winter_74 : decode cX8_winter 74 = .ok (.iconst 1, 1) := by decide +kernel
theorem dX8_winter_75 : decode cX8_winter 75 = .ok (.iaload, 1) := by decide +kernel
theorem dX8_winter_76 : decode cX8_winter 76 = .ok (.ishl, 1) := by decide +kernel
theorem dX8_winter_77 : decode cX8_winter 77 = .ok (.if_icmp .ge 151, 3) := by decide +kernel
theorem dX8_winter_80 : decode cX8_winter 80 = .ok (.iconst 1, 1) := by decide +kernel
theorem dX8_winter_81 : decode cX8_winter 81 = .ok (.istore 7, 2) := by decide +kernel
theorem dX8_winter_83 : decode cX8_winter 83 = .ok (.bipush (-4), 2) := by decide +kernel
theorem dX8_winter_85 : decode cX8_winter 85 = .ok (.istore 8, 2) := by decide +kernel
theorem dX8_winter_87 : decode cX8_winter 87 = .ok (.iload 6, 2) := by decide +kernel
theorem dX8_winter_89 : decode cX8_winter 89 = .ok (.invokestatic 72, 3) := by decide +kernel
theorem dX8_winter_92 : decode cX8_winter 92 = .ok (.iload_n 1, 1) := by decide +kernel
theorem dX8_winter_93 : decode cX8_winter 93 = .ok (.if_icmp .lt 7, 3) := by decide +kernel
theorem dX8_winter_96 : decode cX8_winter 96 = .ok (.iconst 1, 1) := by decide +kernel
theorem dX8_winter_97 : decode cX8_winter 97 = .ok (.goto 4, 3) := by decide +kernel
theorem dX8_winter_100 : decode cX8_winter 100 = .ok (.iconst 0, 1) := by decide +kernel
theorem dX8_winter_101 : decode cX8_winter 101 = .ok (.istore 9, 2) := by decide +kernel
theorem dX8_winter_103 : decode cX8_winter 103 = .ok (.iconst 0, 1) := by decide +kernel
theorem dX8_winter_104 : decode cX8_winter 104 = .ok (.istore 10, 2) := by decide +kernel
theorem dX8_winter_106 : decode cX8_winter 106 = .ok (.iload 10, 2) := by decide +kernel
theorem dX8_winter_108 : decode cX8_winter 108 = .ok (.aload_n 0, 1) := by decide +kernel
theorem dX8_winter_109 : decode cX8_winter 109 = .ok (.getfield 7, 3) := by decide +kernel
theorem dX8_winter_112 : decode cX8_winter 112 = .ok (.iconst 1, 1) := by decide +kernel
theorem dX8_winter_113 : decode cX8_winter 113 = .ok (.iaload, 1) := by decide +kernel
theorem dX8_winter_114 : decode cX8_winter 114 = .ok (.if_icmp .ge 92, 3) := by decide +kernel
theorem dX8_winter_117 : decode cX8_winter 117 = .ok (.iload 7, 2) := by decide +kernel
theorem dX8_winter_119 : decode cX8_winter 119 = .ok (.iload 6, 2) := by decide +kernel
theorem dX8_winter_121 : decode cX8_winter 121 = .ok (.iload 10, 2) := by decide +kernel
theorem dX8_winter_123 : decode cX8_winter 123 = .ok (.invokestatic 79, 3) := by decide +kernel
theorem dX8_winter_126 : decode cX8_winter 126 = .ok (.ifCond .eq 10, 3) := by decide +kernel
theorem dX8_winter_129 : decode cX8_winter 129 = .ok (.bipush 10, 2) := by decide +kernel
theorem dX8_winter_131 : decode cX8_winter 131 = .ok (.iload_n 2, 1) := by decide +kernel
theorem dX8_winter_132 : decode cX8_winter 132 = .ok (.isub, 1) := by decide +kernel
theorem dX8_winter_133 : decode cX8_winter 133 = .ok (.goto 4, 3) := by decide +kernel
theorem dX8_winter_136 : decode cX8_winter 136 = .ok (.iload_n 2, 1) := by decide +kernel
theorem dX8_winter_137 : decode cX8_winter 137 = .ok (.imul, 1) := by decide +kernel
theorem dX8_winter_138 : decode cX8_winter 138 = .ok (.istore 7, 2) := by decide +kernel
theorem dX8_winter_140 : decode cX8_winter 140 = .ok (.iload 6, 2) := by decide +kernel
theorem dX8_winter_142 : decode cX8_winter 142 = .ok (.iload 10, 2) := by decide +kernel
theorem dX8_winter_144 : decode cX8_winter 144 = .ok (.invokestatic 79, 3) := by decide +kernel
theorem dX8_winter_147 : decode cX8_winter 147 = .ok (.ifCond .eq 53, 3) := by decide +kernel
theorem dX8_winter_150 : decode cX8_winter 150 = .ok (.iload 9, 2) := by decide +kernel
theorem dX8_winter_152 : decode cX8_winter 152 = .ok (.ifCond .eq 33, 3) := by decide +kernel
theorem dX8_winter_155 : decode cX8_winter 155 = .ok (.iload 8, 2) := by decide +kernel
theorem dX8_winter_157 : decode cX8_winter 157 = .ok (.bipush (-4), 2) := by decide +kernel
theorem dX8_winter_159 : decode cX8_winter 159 = .ok (.if_icmp .eq 22, 3) := by decide +kernel
theorem dX8_winter_162 : decode cX8_winter 162 = .ok (.aload_n 0, 1) := by decide +kernel
theorem dX8_winter_163 : decode cX8_winter 163 = .ok (.iload 8, 2) := by decide +kernel
theorem dX8_winter_165 : decode cX8_winter 165 = .ok (.aload_n 0, 1) := by decide +kernel
theorem dX8_winter_166 : decode cX8_winter 166 = .ok (.getfield 7, 3) := by decide +kernel
theorem dX8_winter_169 : decode cX8_winter 169 = .ok (.bipush 10, 2) := by decide +kernel
theorem dX8_winter_171 : decode cX8_winter 171 = .ok (.iload 10, 2) := by decide +kernel
theorem dX8_winter_173 : decode cX8_winter 173 = .ok (.iadd, 1) := by decide +kernel
theorem dX8_winter_174 : decode cX8_winter 174 = .ok (.iaload, 1) := by decide +kernel
theorem dX8_winter_175 : decode cX8_winter 175 = .ok (.invokevirtual 56, 3) := by decide +kernel
theorem dX8_winter_178 : decode cX8_winter 178 = .ok (.ifCond .eq 7, 3) := by decide +kernel
theorem dX8_winter_181 : decode cX8_winter 181 = .ok (.iconst 1, 1) := by decide +kernel
theorem dX8_winter_182 : decode cX8_winter 182 = .ok (.goto 4, 3) := by decide +kernel
theorem dX8_winter_185 : decode cX8_winter 185 = .ok (.iconst 0, 1) := by decide +kernel
theorem dX8_winter_186 : decode cX8_winter 186 = .ok (.istore 9, 2) := by decide +kernel
theorem dX8_winter_188 : decode cX8_winter 188 = .ok (.aload_n 0, 1) := by decide +kernel
theorem dX8_winter_189 : decode cX8_winter 189 = .ok (.getfield 7, 3) := by decide +kernel
theorem dX8_winter_192 : decode cX8_winter 192 = .ok (.bipush 10, 2) := by decide +kernel
theorem dX8_winter_194 : decode cX8_winter 194 = .ok (.iload 10, 2) := by decide +kernel
theorem dX8_winter_196 : decode cX8_winter 196 = .ok (.iadd, 1) := by decide +kernel
theorem dX8_winter_197 : decode cX8_winter 197 = .ok (.iaload, 1) := by decide +kernel
theorem dX8_winter_198 : decode cX8_winter 198 = .ok (.istore 8, 2) := by decide +kernel
theorem dX8_winter_200 : decode cX8_winter 200 = .ok (.iinc 10 1, 3) := by decide +kernel
theorem dX8_winter_203 : decode cX8_winter 203 = .ok (.goto (-97), 3) := by decide +kernel
theorem dX8_winter_206 : decode cX8_winter 206 = .ok (.iload 4, 2) := by decide +kernel
theorem dX8_winter_208 : decode cX8_winter 208 = .ok (.iload 9, 2) := by decide +kernel
theorem dX8_winter_210 : decode cX8_winter 210 = .ok (.ifCond .eq 8, 3) := by decide +kernel
theorem dX8_winter_213 : decode cX8_winter 213 = .ok (.iload 7, 2) := by decide +kernel
theorem dX8_winter_215 : decode cX8_winter 215 = .ok (.goto 4, 3) := by decide +kernel
theorem dX8_winter_218 : decode cX8_winter 218 = .ok (.iconst 0, 1) := by decide +kernel
theorem dX8_winter_219 : decode cX8_winter 219 = .ok (.iadd, 1) := by decide +kernel
theorem dX8_winter_220 : decode cX8_winter 220 = .ok (.istore 4, 2) := by decide +kernel
theorem dX8_winter_222 : decode cX8_winter 222 = .ok (.iinc 6 1, 3) := by decide +kernel
theorem dX8_winter_225 : decode cX8_winter 225 = .ok (.goto (-158), 3) := by decide +kernel
theorem dX8_winter_228 : decode cX8_winter 228 = .ok (.iload 4, 2) := by decide +kernel
theorem dX8_winter_230 : decode cX8_winter 230 = .ok (.istore 6, 2) := by decide +kernel
theorem dX8_winter_232 : decode cX8_winter 232 = .ok (.iload 5, 2) := by decide +kernel
theorem dX8_winter_234 : decode cX8_winter 234 = .ok (.istore 7, 2) := by decide +kernel
theorem dX8_winter_236 : decode cX8_winter 236 = .ok (.iload 7, 2) := by decide +kernel
theorem dX8_winter_238 : decode cX8_winter 238 = .ok (.ifCond .le 21, 3) := by decide +kernel
theorem dX8_winter_241 : decode cX8_winter 241 = .ok (.iload 6, 2) := by decide +kernel
theorem dX8_winter_243 : decode cX8_winter 243 = .ok (.iload 7, 2) := by decide +kernel
theorem dX8_winter_245 : decode cX8_winter 245 = .ok (.irem, 1) := by decide +kernel
theorem dX8_winter_246 : decode cX8_winter 246 = .ok (.istore 8, 2) := by decide +kernel
theorem dX8_winter_248 : decode cX8_winter 248 = .ok (.iload 7, 2) := by decide +kernel
theorem dX8_winter_250 : decode cX8_winter 250 = .ok (.istore 6, 2) := by decide +kernel
theorem dX8_winter_252 : decode cX8_winter 252 = .ok (.iload 8, 2) := by decide +kernel
theorem dX8_winter_254 : decode cX8_winter 254 = .ok (.istore 7, 2) := by decide +kernel
theorem dX8_winter_256 : decode cX8_winter 256 = .ok (.goto (-20), 3) := by decide +kernel
theorem dX8_winter_259 : decode cX8_winter 259 = .ok (.iload_n 3, 1) := by decide +kernel
theorem dX8_winter_260 : decode cX8_winter 260 = .ok (.ifCond .ne 11, 3) := by decide +kernel
theorem dX8_winter_263 : decode cX8_winter 263 = .ok (.iload 4, 2) := by decide +kernel
theorem dX8_winter_265 : decode cX8_winter 265 = .ok (.iload 6, 2) := by decide +kernel
theorem dX8_winter_267 : decode cX8_winter 267 = .ok (.idiv, 1) := by decide +kernel
theorem dX8_winter_268 : decode cX8_winter 268 = .ok (.goto 8, 3) := by decide +kernel
theorem dX8_winter_271 : decode cX8_winter 271 = .ok (.iload 5, 2) := by decide +kernel
theorem dX8_winter_273 : decode cX8_winter 273 = .ok (.iload 6, 2) := by decide +kernel
theorem dX8_winter_275 : decode cX8_winter 275 = .ok (.idiv, 1) := by decide +kernel
theorem dX8_winter_276 : decode cX8_winter 276 = .ok (.ireturn, 1) := by decide +kernel
theorem dX8_image_0 : decode cX8_image 0 = .ok (.iconst 0, 1) := by decide +kernel
theorem dX8_image_1 : decode cX8_image 1 = .ok (.istore_n 1, 1) := by decide +kernel
theorem dX8_image_2 : decode cX8_image 2 = .ok (.iload_n 1, 1) := by decide +kernel
theorem dX8_image_3 : decode cX8_image 3 = .ok (.sipush 161, 3) := by decide +kernel
theorem dX8_image_6 : decode cX8_image 6 = .ok (.if_icmp .ge 21, 3) := by decide +kernel
theorem dX8_image_9 : decode cX8_image 9 = .ok (.aload_n 0, 1) := by decide +kernel
theorem dX8_image_10 : decode cX8_image 10 = .ok (.getfield 13, 3) := by decide +kernel
theorem dX8_image_13 : decode cX8_image 13 = .ok (.iload_n 1, 1) := by decide +kernel
theorem dX8_image_14 : decode cX8_image 14 = .ok (.aload_n 0, 1) := by decide +kernel
theorem dX8_image_15 : decode cX8_image 15 = .ok (.getfield 7, 3) := by decide +kernel
theorem dX8_image_18 : decode cX8_image 18 = .ok (.iload_n 1, 1) := by decide +kernel
theorem dX8_image_19 : decode cX8_image 19 = .ok (.iaload, 1) := by decide +kernel
theorem dX8_image_20 : decode cX8_image 20 = .ok (.iastore, 1) := by decide +kernel
theorem dX8_image_21 : decode cX8_image 21 = .ok (.iinc 1 1, 3) := by decide +kernel
theorem dX8_image_24 : decode cX8_image 24 = .ok (.goto (-22), 3) := by decide +kernel
theorem dX8_image_27 : decode cX8_image 27 = .ok (.aload_n 0, 1) := by decide +kernel
theorem dX8_image_28 : decode cX8_image 28 = .ok (.iconst 1, 1) := by decide +kernel
theorem dX8_image_29 : decode cX8_image 29 = .ok (.putfield 155, 3) := by decide +kernel
theorem dX8_image_32 : decode cX8_image 32 = .ok (.iconst 1, 1) := by decide +kernel
theorem dX8_image_33 : decode cX8_image 33 = .ok (.ireturn, 1) := by decide +kernel
theorem dX8_restore_0 : decode cX8_restore 0 = .ok (.aload_n 0, 1) := by decide +kernel
theorem dX8_restore_1 : decode cX8_restore 1 = .ok (.getfield 155, 3) := by decide +kernel
theorem dX8_restore_4 : decode cX8_restore 4 = .ok (.ifCond .ne 6, 3) := by decide +kernel
theorem dX8_restore_7 : decode cX8_restore 7 = .ok (.bipush (-4), 2) := by decide +kernel
theorem dX8_restore_9 : decode cX8_restore 9 = .ok (.ireturn, 1) := by decide +kernel
theorem dX8_restore_10 : decode cX8_restore 10 = .ok (.iconst 0, 1) := by decide +kernel
theorem dX8_restore_11 : decode cX8_restore 11 = .ok (.istore_n 1, 1) := by decide +kernel
theorem dX8_restore_12 : decode cX8_restore 12 = .ok (.iload_n 1, 1) := by decide +kernel
theorem dX8_restore_13 : decode cX8_restore 13 = .ok (.sipush 161, 3) := by decide +kernel
theorem dX8_restore_16 : decode cX8_restore 16 = .ok (.if_icmp .ge 21, 3) := by decide +kernel
theorem dX8_restore_19 : decode cX8_restore 19 = .ok (.aload_n 0, 1) := by decide +kernel
theorem dX8_restore_20 : decode cX8_restore 20 = .ok (.getfield 7, 3) := by decide +kernel
theorem dX8_restore_23 : decode cX8_restore 23 = .ok (.iload_n 1, 1) := by decide +kernel
theorem dX8_restore_24 : decode cX8_restore 24 = .ok (.aload_n 0, 1) := by decide +kernel
theorem dX8_restore_25 : decode cX8_restore 25 = .ok (.getfield 13, 3) := by decide +kernel
theorem dX8_restore_28 : decode cX8_restore 28 = .ok (.iload_n 1, 1) := by decide +kernel
theorem dX8_restore_29 : decode cX8_restore 29 = .ok (.iaload, 1) := by decide +kernel
theorem dX8_restore_30 : decode cX8_restore 30 = .ok (.iastore, 1) := by decide +kernel
theorem dX8_restore_31 : decode cX8_restore 31 = .ok (.iinc 1 1, 3) := by decide +kernel
theorem dX8_restore_34 : decode cX8_restore 34 = .ok (.goto (-22), 3) := by decide +kernel
theorem dX8_restore_37 : decode cX8_restore 37 = .ok (.iconst 1, 1) := by decide +kernel
theorem dX8_restore_38 : decode cX8_restore 38 = .ok (.ireturn, 1) := by decide +kernel
theorem dX8_isSheet_0 : decode cX8_isSheet 0 = .ok (.iload_n 0, 1) := by decide +kernel
theorem dX8_isSheet_1 : decode cX8_isSheet 1 = .ok (.iconst 0, 1) := by decide +kernel
theorem dX8_isSheet_2 : decode cX8_isSheet 2 = .ok (.iconst 3, 1) := by decide +kernel
theorem dX8_isSheet_3 : decode cX8_isSheet 3 = .ok (.invokestatic 44, 3) := by decide +kernel
theorem dX8_isSheet_6 : decode cX8_isSheet 6 = .ok (.ireturn, 1) := by decide +kernel
theorem dX8_barred_0 : decode cX8_barred 0 = .ok (.aload_n 0, 1) := by decide +kernel
theorem dX8_barred_1 : decode cX8_barred 1 = .ok (.getfield 29, 3) := by decide +kernel
theorem dX8_barred_4 : decode cX8_barred 4 = .ok (.iload_n 1, 1) := by decide +kernel
theorem dX8_barred_5 : decode cX8_barred 5 = .ok (.iaload, 1) := by decide +kernel
theorem dX8_barred_6 : decode cX8_barred 6 = .ok (.ifCond .ge 6, 3) := by decide +kernel
theorem dX8_barred_9 : decode cX8_barred 9 = .ok (.bipush (-11), 2) := by decide +kernel
theorem dX8_barred_11 : decode cX8_barred 11 = .ok (.ireturn, 1) := by decide +kernel
theorem dX8_barred_12 : decode cX8_barred 12 = .ok (.aload_n 0, 1) := by decide +kernel
theorem dX8_barred_13 : decode cX8_barred 13 = .ok (.getfield 32, 3) := by decide +kernel
theorem dX8_barred_16 : decode cX8_barred 16 = .ok (.iload_n 1, 1) := by decide +kernel
theorem dX8_barred_17 : decode cX8_barred 17 = .ok (.iaload, 1) := by decide +kernel
theorem dX8_barred_18 : decode cX8_barred 18 = .ok (.iload_n 2, 1) := by decide +kernel
theorem dX8_barred_19 : decode cX8_barred 19 = .ok (.if_icmp .eq 6, 3) := by decide +kernel
theorem dX8_barred_22 : decode cX8_barred 22 = .ok (.bipush (-12), 2) := by decide +kernel
theorem dX8_barred_24 : decode cX8_barred 24 = .ok (.ireturn, 1) := by decide +kernel
theorem dX8_barred_25 : decode cX8_barred 25 = .ok (.iload_n 3, 1) := by decide +kernel
theorem dX8_barred_26 : decode cX8_barred 26 = .ok (.ifCond .lt 32, 3) := by decide +kernel
theorem dX8_barred_29 : decode cX8_barred 29 = .ok (.iload 4, 2) := by decide +kernel
theorem dX8_barred_31 : decode cX8_barred 31 = .ok (.ifCond .lt 27, 3) := by decide +kernel
theorem dX8_barred_34 : decode cX8_barred 34 = .ok (.iload 4, 2) := by decide +kernel
theorem dX8_barred_36 : decode cX8_barred 36 = .ok (.aload_n 0, 1) := by decide +kernel
theorem dX8_barred_37 : decode cX8_barred 37 = .ok (.getfield 29, 3) := by decide +kernel
theorem dX8_barred_40 : decode cX8_barred 40 = .ok (.iload_n 1, 1) := by decide +kernel
theorem dX8_barred_41 : decode cX8_barred 41 = .ok (.iaload, 1) := by decide +kernel
theorem dX8_barred_42 : decode cX8_barred 42 = .ok (.if_icmp .gt 16, 3) := by decide +kernel
theorem dX8_barred_45 : decode cX8_barred 45 = .ok (.iload_n 3, 1) := by decide +kernel
theorem dX8_barred_46 : decode cX8_barred 46 = .ok (.aload_n 0, 1) := by decide +kernel
theorem dX8_barred_47 : decode cX8_barred 47 = .ok (.getfield 29, 3) := by decide +kernel
theorem dX8_barred_50 : decode cX8_barred 50 = .ok (.iload_n 1, 1) := by decide +kernel
theorem dX8_barred_51 : decode cX8_barred 51 = .ok (.iaload, 1) := by decide +kernel
theorem dX8_barred_52 : decode cX8_barred 52 = .ok (.iload 4, 2) := by decide +kernel
theorem dX8_barred_54 : decode cX8_barred 54 = .ok (.isub, 1) := by decide +kernel
theorem dX8_barred_55 : decode cX8_barred 55 = .ok (.if_icmp .le 8, 3) := by decide +kernel
theorem dX8_barred_58 : decode cX8_barred 58 = .ok (.bipush (-13), 2) := by decide +kernel
theorem dX8_barred_60 : decode cX8_barred 60 = .ok (.goto 4, 3) := by decide +kernel
theorem dX8_barred_63 : decode cX8_barred 63 = .ok (.iconst 0, 1) := by decide +kernel
theorem dX8_barred_64 : decode cX8_barred 64 = .ok (.ireturn, 1) := by decide +kernel
theorem dX8_cut_0 : decode cX8_cut 0 = .ok (.iload_n 0, 1) := by decide +kernel
theorem dX8_cut_1 : decode cX8_cut 1 = .ok (.ifCond .ne 10, 3) := by decide +kernel
theorem dX8_cut_4 : decode cX8_cut 4 = .ok (.lload_n 1, 1) := by decide +kernel
theorem dX8_cut_5 : decode cX8_cut 5 = .ok (.l2i, 1) := by decide +kernel
theorem dX8_cut_6 : decode cX8_cut 6 = .ok (.i2b, 1) := by decide +kernel
theorem dX8_cut_7 : decode cX8_cut 7 = .ok (.i2l, 1) := by decide +kernel
theorem dX8_cut_8 : decode cX8_cut 8 = .ok (.goto 27, 3) := by decide +kernel
theorem dX8_cut_11 : decode cX8_cut 11 = .ok (.iload_n 0, 1) := by decide +kernel
theorem dX8_cut_12 : decode cX8_cut 12 = .ok (.iconst 1, 1) := by decide +kernel
theorem dX8_cut_13 : decode cX8_cut 13 = .ok (.if_icmp .ne 10, 3) := by decide +kernel
theorem dX8_cut_16 : decode cX8_cut 16 = .ok (.lload_n 1, 1) := by decide +kernel
theorem dX8_cut_17 : decode cX8_cut 17 = .ok (.l2i, 1) := by decide +kernel
theorem dX8_cut_18 : decode cX8_cut 18 = .ok (.i2s, 1) := by decide +kernel
theorem dX8_cut_19 : decode cX8_cut 19 = .ok (.i2l, 1) := by decide +kernel
theorem dX8_cut_20 : decode cX8_cut 20 = .ok (.goto 15, 3) := by decide +kernel
theorem dX8_cut_23 : decode cX8_cut 23 = .ok (.iload_n 0, 1) := by decide +kernel
theorem dX8_cut_24 : decode cX8_cut 24 = .ok (.iconst 2, 1) := by decide +kernel
theorem dX8_cut_25 : decode cX8_cut 25 = .ok (.if_icmp .ne 9, 3) := by decide +kernel
theorem dX8_cut_28 : decode cX8_cut 28 = .ok (.lload_n 1, 1) := by decide +kernel
theorem dX8_cut_29 : decode cX8_cut 29 = .ok (.l2i, 1) := by decide +kernel
theorem dX8_cut_30 : decode cX8_cut 30 = .ok (.i2l, 1) := by decide +kernel
theorem dX8_cut_31 : decode cX8_cut 31 = .ok (.goto 4, 3) := by decide +kernel
theorem dX8_cut_34 : decode cX8_cut 34 = .ok (.lload_n 1, 1) := by decide +kernel
theorem dX8_cut_35 : decode cX8_cut 35 = .ok (.lreturn, 1) := by decide +kernel
theorem dX8_isSo_0 : decode cX8_isSo 0 = .ok (.iconst 1, 1) := by decide +kernel
theorem dX8_isSo_1 : decode cX8_isSo 1 = .ok (.istore 4, 2) := by decide +kernel
theorem dX8_isSo_3 : decode cX8_isSo 3 = .ok (.iconst 0, 1) := by decide +kernel
theorem dX8_isSo_4 : decode cX8_isSo 4 = .ok (.istore 5, 2) := by decide +kernel
theorem dX8_isSo_6 : decode cX8_isSo 6 = .ok (.iload 5, 2) := by decide +kernel
theorem dX8_isSo_8 : decode cX8_isSo 8 = .ok (.iload_n 3, 1) := by decide +kernel
theorem dX8_isSo_9 : decode cX8_isSo 9 = .ok (.if_icmp .ge 47, 3) := by decide +kernel
theorem dX8_isSo_12 : decode cX8_isSo 12 = .ok (.iload 4, 2) := by decide +kernel
theorem dX8_isSo_14 : decode cX8_isSo 14 = .ok (.ifCond .eq 42, 3) := by decide +kernel
theorem dX8_isSo_17 : decode cX8_isSo 17 = .ok (.aload_n 0, 1) := by decide +kernel
theorem dX8_isSo_18 : decode cX8_isSo 18 = .ok (.invokevirtual 122, 3) := by decide +kernel
theorem dX8_isSo_21 : decode cX8_isSo 21 = .ok (.aload_n 0, 1) := by decide +kernel
theorem dX8_isSo_22 : decode cX8_isSo 22 = .ok (.getfield 22, 3) := by decide +kernel
theorem dX8_isSo_25 : decode cX8_isSo 25 = .ok (.iload_n 2, 1) := by decide +kernel
theorem dX8_isSo_26 : decode cX8_isSo 26 = .ok (.iload 5, 2) := by decide +kernel
theorem dX8_isSo_28 : decode cX8_isSo 28 = .ok (.iadd, 1) := by decide +kernel
theorem dX8_isSo_29 : decode cX8_isSo 29 = .ok (.laload, 1) := by decide +kernel
theorem dX8_isSo_30 : decode cX8_isSo 30 = .ok (.aload_n 0, 1) := by decide +kernel
theorem dX8_isSo_31 : decode cX8_isSo 31 = .ok (.getfield 7, 3) := by decide +kernel
theorem dX8_isSo_34 : decode cX8_isSo 34 = .ok (.iconst 4, 1) := by decide +kernel
theorem dX8_isSo_35 : decode cX8_isSo 35 = .ok (.iload_n 1, 1) := by decide +kernel
theorem dX8_isSo_36 : decode cX8_isSo 36 = .ok (.iadd, 1) := by decide +kernel
theorem dX8_isSo_37 : decode cX8_isSo 37 = .ok (.iaload, 1) := by decide +kernel
theorem dX8_isSo_38 : decode cX8_isSo 38 = .ok (.i2l, 1) := by decide +kernel
theorem dX8_isSo_39 : decode cX8_isSo 39 = .ok (.lcmp, 1) := by decide +kernel
theorem dX8_isSo_40 : decode cX8_isSo 40 = .ok (.ifCond .ne 7, 3) := by decide +kernel
theorem dX8_isSo_43 : decode cX8_isSo 43 = .ok (.iconst 1, 1) := by decide +kernel
theorem dX8_isSo_44 : decode cX8_isSo 44 = .ok (.goto 4, 3) := by decide +kernel
theorem dX8_isSo_47 : decode cX8_isSo 47 = .ok (.iconst 0, 1) := by decide +kernel
theorem dX8_isSo_48 : decode cX8_isSo 48 = .ok (.istore 4, 2) := by decide +kernel
theorem dX8_isSo_50 : decode cX8_isSo 50 = .ok (.iinc 5 1, 3) := by decide +kernel
theorem dX8_isSo_53 : decode cX8_isSo 53 = .ok (.goto (-47), 3) := by decide +kernel
theorem dX8_isSo_56 : decode cX8_isSo 56 = .ok (.aload_n 0, 1) := by decide +kernel
theorem dX8_isSo_57 : decode cX8_isSo 57 = .ok (.invokevirtual 135, 3) := by decide +kernel
theorem dX8_isSo_60 : decode cX8_isSo 60 = .ok (.iload 4, 2) := by decide +kernel
theorem dX8_isSo_62 : decode cX8_isSo 62 = .ok (.ireturn, 1) := by decide +kernel
theorem dX8_failed_0 : decode cX8_failed 0 = .ok (.aload_n 0, 1) := by decide +kernel
theorem dX8_failed_1 : decode cX8_failed 1 = .ok (.iload_n 1, 1) := by decide +kernel
theorem dX8_failed_2 : decode cX8_failed 2 = .ok (.invokevirtual 52, 3) := by decide +kernel
theorem dX8_failed_5 : decode cX8_failed 5 = .ok (.ifCond .eq 40, 3) := by decide +kernel
theorem dX8_failed_8 : decode cX8_failed 8 = .ok (.iload_n 2, 1) := by decide +kernel
theorem dX8_failed_9 : decode cX8_failed 9 = .ok (.invokestatic 159, 3) := by decide +kernel
theorem dX8_failed_12 : decode cX8_failed 12 = .ok (.ifCond .eq 33, 3) := by decide +kernel
theorem dX8_failed_15 : decode cX8_failed 15 = .ok (.iload_n 3, 1) := by decide +kernel
theorem dX8_failed_16 : decode cX8_failed 16 = .ok (.iconst 0, 1) := by decide +kernel
theorem dX8_failed_17 : decode cX8_failed 17 = .ok (.iconst 3, 1) := by decide +kernel
theorem dX8_failed_18 : decode cX8_failed 18 = .ok (.invokestatic 44, 3) := by decide +kernel
theorem dX8_failed_21 : decode cX8_failed 21 = .ok (.ifCond .eq 24, 3) := by decide +kernel
theorem dX8_failed_24 : decode cX8_failed 24 = .ok (.iload 5, 2) := by decide +kernel
theorem dX8_failed_26 : decode cX8_failed 26 = .ok (.iconst 1, 1) := by decide +kernel
theorem dX8_failed_27 : decode cX8_failed 27 = .ok (.bipush 8, 2) := by decide +kernel
theorem dX8_failed_29 : decode cX8_failed 29 = .ok (.invokestatic 44, 3) := by decide +kernel
theorem dX8_failed_32 : decode cX8_failed 32 = .ok (.ifCond .eq 13, 3) := by decide +kernel
theorem dX8_failed_35 : decode cX8_failed 35 = .ok (.iload 6, 2) := by decide +kernel
theorem dX8_failed_37 : decode cX8_failed 37 = .ok (.iconst 0, 1) := by decide +kernel
theorem dX8_failed_38 : decode cX8_failed 38 = .ok (.iconst 2, 1) := by decide +kernel
theorem dX8_failed_39 : decode cX8_failed 39 = .ok (.invokestatic 44, 3) := by decide +kernel
theorem dX8_failed_42 : decode cX8_failed 42 = .ok (.ifCond .ne 5, 3) := by decide +kernel
theorem dX8_failed_45 : decode cX8_failed 45 = .ok (.iconst (-1), 1) := by decide +kernel
theorem dX8_failed_46 : decode cX8_failed 46 = .ok (.ireturn, 1) := by decide +kernel
theorem dX8_failed_47 : decode cX8_failed 47 = .ok (.aload_n 0, 1) := by decide +kernel
theorem dX8_failed_48 : decode cX8_failed 48 = .ok (.iload_n 2, 1) := by decide +kernel
theorem dX8_failed_49 : decode cX8_failed 49 = .ok (.iload_n 3, 1) := by decide +kernel
theorem dX8_failed_50 : decode cX8_failed 50 = .ok (.iload 4, 2) := by decide +kernel
theorem dX8_failed_52 : decode cX8_failed 52 = .ok (.iload 5, 2) := by decide +kernel
theorem dX8_failed_54 : decode cX8_failed 54 = .ok (.invokevirtual 162, 3) := by decide +kernel
theorem dX8_failed_57 : decode cX8_failed 57 = .ok (.istore 7, 2) := by decide +kernel
theorem dX8_failed_59 : decode cX8_failed 59 = .ok (.iload 7, 2) := by decide +kernel
theorem dX8_failed_61 : decode cX8_failed 61 = .ok (.ifCond .eq 6, 3) := by decide +kernel
theorem dX8_failed_64 : decode cX8_failed 64 = .ok (.iload 7, 2) := by decide +kernel
theorem dX8_failed_66 : decode cX8_failed 66 = .ok (.ireturn, 1) := by decide +kernel
theorem dX8_failed_67 : decode cX8_failed 67 = .ok (.aload_n 0, 1) := by decide +kernel
theorem dX8_failed_68 : decode cX8_failed 68 = .ok (.iload_n 1, 1) := by decide +kernel
theorem dX8_failed_69 : decode cX8_failed 69 = .ok (.invokevirtual 59, 3) := by decide +kernel
theorem dX8_failed_72 : decode cX8_failed 72 = .ok (.bipush (-4), 2) := by decide +kernel
theorem dX8_failed_74 : decode cX8_failed 74 = .ok (.if_icmp .ne 6, 3) := by decide +kernel
theorem dX8_failed_77 : decode cX8_failed 77 = .ok (.bipush (-2), 2) := by decide +kernel
theorem dX8_failed_79 : decode cX8_failed 79 = .ok (.ireturn, 1) := by decide +kernel
theorem dX8_failed_80 : decode cX8_failed 80 = .ok (.aload_n 0, 1) := by decide +kernel
theorem dX8_failed_81 : decode cX8_failed 81 = .ok (.invokevirtual 132, 3) := by decide +kernel
theorem dX8_failed_84 : decode cX8_failed 84 = .ok (.bipush 24, 2) := by decide +kernel
theorem dX8_failed_86 : decode cX8_failed 86 = .ok (.iload_n 2, 1) := by decide +kernel
theorem dX8_failed_87 : decode cX8_failed 87 = .ok (.imul, 1) := by decide +kernel
theorem dX8_failed_88 : decode cX8_failed 88 = .ok (.iload 4, 2) := by decide +kernel
theorem dX8_failed_90 : decode cX8_failed 90 = .ok (.iadd, 1) := by decide +kernel
theorem dX8_failed_91 : decode cX8_failed 91 = .ok (.istore 8, 2) := by decide +kernel
theorem dX8_failed_93 : decode cX8_failed 93 = .ok (.iconst 0, 1) := by decide +kernel
theorem dX8_failed_94 : decode cX8_failed 94 = .ok (.istore 9, 2) := by decide +kernel
theorem dX8_failed_96 : decode cX8_failed 96 = .ok (.iconst 0, 1) := by decide +kernel
theorem dX8_failed_97 : decode cX8_failed 97 = .ok (.istore 10, 2) := by decide +kernel
theorem dX8_failed_99 : decode cX8_failed 99 = .ok (.iload 10, 2) := by decide +kernel
theorem dX8_failed_101 : decode cX8_failed 101 = .ok (.iconst 4, 1) := by decide +kernel
theorem dX8_failed_102 : decode cX8_failed 102 = .ok (.if_icmp .gt 45, 3) := by decide +kernel
theorem dX8_failed_105 : decode cX8_failed 105 = .ok (.aload_n 0, 1) := by decide +kernel
theorem dX8_failed_106 : decode cX8_failed 106 = .ok (.getfield 7, 3) := by decide +kernel
theorem dX8_failed_109 : decode cX8_failed 109 = .ok (.bipush 16, 2) := by decide +kernel
theorem dX8_failed_111 : decode cX8_failed 111 = .ok (.iload_n 1, 1) := by decide +kernel
theorem dX8_failed_112 : decode cX8_failed 112 = .ok (.iadd, 1) := by decide +kernel
theorem dX8_failed_113 : decode cX8_failed 113 = .ok (.iload 10, 2) := by decide +kernel
theorem dX8_failed_115 : decode cX8_failed 115 = .ok (.iastore, 1) := by decide +kernel
theorem dX8_failed_116 : decode cX8_failed 116 = .ok (.iload 9, 2) := by decide +kernel
theorem dX8_failed_118 : decode cX8_failed 118 = .ok (.aload_n 0, 1) := by decide +kernel
theorem dX8_failed_119 : decode cX8_failed 119 = .ok (.iload_n 1, 1) := by decide +kernel
theorem dX8_failed_120 : decode cX8_failed 120 = .ok (.iload 8, 2) := by decide +kernel
theorem dX8_failed_122 : decode cX8_failed 122 = .ok (.iload 5, 2) := by decide +kernel
theorem dX8_failed_124 : decode cX8_failed 124 = .ok (.invokevirtual 166, 3) := by decide +kernel
theorem dX8_failed_127 : decode cX8_failed 127 = .ok (.ifCond .eq 10, 3) := by decide +kernel
theorem dX8_failed_130 : decode cX8_failed 130 = .ok (.iconst 1, 1) := by decide +kernel
theorem dX8_failed_131 : decode cX8_failed 131 = .ok (.iload 10, 2) := by decide +kernel
theorem dX8_failed_133 : decode cX8_failed 133 = .ok (.ishl, 1) := by decide +kernel
theorem dX8_failed_134 : decode cX8_failed 134 = .ok (.goto 4, 3) := by decide +kernel
theorem dX8_failed_137 : decode cX8_failed 137 = .ok (.iconst 0, 1) := by decide +kernel
theorem dX8_failed_138 : decode cX8_failed 138 = .ok (.ior, 1) := by decide +kernel
theorem dX8_failed_139 : decode cX8_failed 139 = .ok (.istore 9, 2) := by decide +kernel
theorem dX8_failed_141 : decode cX8_failed 141 = .ok (.iinc 10 1, 3) := by decide +kernel
theorem dX8_failed_144 : decode cX8_failed 144 = .ok (.goto (-45), 3) := by decide +kernel
theorem dX8_failed_147 : decode cX8_failed 147 = .ok (.iconst 0, 1) := by decide +kernel
theorem dX8_failed_148 : decode cX8_failed 148 = .ok (.istore 10, 2) := by decide +kernel
theorem dX8_failed_150 : decode cX8_failed 150 = .ok (.bipush (-4), 2) := by decide +kernel
theorem dX8_failed_152 : decode cX8_failed 152 = .ok (.istore 11, 2) := by decide +kernel
theorem dX8_failed_154 : decode cX8_failed 154 = .ok (.bipush 60, 2) := by decide +kernel
theorem dX8_failed_156 : decode cX8_failed 156 = .ok (.istore 12, 2) := by decide +kernel
theorem dX8_failed_158 : decode cX8_failed 158 = .ok (.iload 12, 2) := by decide +kernel
theorem dX8_failed_160 : decode cX8_failed 160 = .ok (.ifCond .le 59, 3) := by decide +kernel
theorem dX8_failed_163 : decode cX8_failed 163 = .ok (.aload_n 0, 1) := by decide +kernel
theorem dX8_failed_164 : decode cX8_failed 164 = .ok (.getfield 7, 3) := by decide +kernel
theorem dX8_failed_167 : decode cX8_failed 167 = .ok (.iconst 4, 1) := by decide +kernel
theorem dX8_failed_168 : decode cX8_failed 168 = .ok (.iload_n 1, 1) := by decide +kernel
theorem dX8_failed_169 : decode cX8_failed 169 = .ok (.iadd, 1) := by decide +kernel
theorem dX8_failed_170 : decode cX8_failed 170 = .ok (.iload 12, 2) := by decide +kernel
theorem dX8_failed_172 : decode cX8_failed 172 = .ok (.iastore, 1) := by decide +kernel
theorem dX8_failed_173 : decode cX8_failed 173 = .ok (.aload_n 0, 1) := by decide +kernel
theorem dX8_failed_174 : decode cX8_failed 174 = .ok (.iload_n 1, 1) := by decide +kernel
theorem dX8_failed_175 : decode cX8_failed 175 = .ok (.iload 8, 2) := by decide +kernel
theorem dX8_failed_177 : decode cX8_failed 177 = .ok (.iload 5, 2) := by decide +kernel
theorem dX8_failed_179 : decode cX8_failed 179 = .ok (.invokevirtual 166, 3) := by decide +kernel
theorem dX8_failed_182 : decode cX8_failed 182 = .ok (.istore 13, 2) := by decide +kernel
theorem dX8_failed_184 : decode cX8_failed 184 = .ok (.iload 10, 2) := by decide +kernel
theorem dX8_failed_186 : decode cX8_failed 186 = .ok (.iload 13, 2) := by decide +kernel
theorem dX8_failed_188 : decode cX8_failed 188 = .ok (.ifCond .eq 7, 3) := by decide +kernel
theorem dX8_failed_191 : decode cX8_failed 191 = .ok (.iconst 1, 1) := by decide +kernel
theorem dX8_failed_192 : decode cX8_failed 192 = .ok (.goto 4, 3) := by decide +kernel
theorem dX8_failed_195 : decode cX8_failed 195 = .ok (.iconst 0, 1) := by decide +kernel
theorem dX8_failed_196 : decode cX8_failed 196 = .ok (.iadd, 1) := by decide +kernel
theorem dX8_failed_197 : decode cX8_failed 197 = .ok (.istore 10, 2) := by decide +kernel
theorem dX8_failed_199 : decode cX8_failed 199 = .ok (.iload 13, 2) := by decide +kernel
theorem dX8_failed_201 : decode cX8_failed 201 = .ok (.ifCond .eq 8, 3) := by decide +kernel
theorem dX8_failed_204 : decode cX8_failed 204 = .ok (.iload 12, 2) := by decide +kernel
theorem dX8_failed_206 : decode cX8_failed 206 = .ok (.goto 5, 3) := by decide +kernel
theorem dX8_failed_209 : decode cX8_failed 209 = .ok (.iload 11, 2) := by decide +kernel
theorem dX8_failed_211 : decode cX8_failed 211 = .ok (.istore 11, 2) := by decide +kernel
theorem dX8_failed_213 : decode cX8_failed 213 = .ok (.iinc 12 (-1), 3) := by decide +kernel
theorem dX8_failed_216 : decode cX8_failed 216 = .ok (.goto (-58), 3) := by decide +kernel
theorem dX8_failed_219 : decode cX8_failed 219 = .ok (.iload 6, 2) := by decide +kernel
theorem dX8_failed_221 : decode cX8_failed 221 = .ok (.ifCond .ne 8, 3) := by decide +kernel
theorem dX8_failed_224 : decode cX8_failed 224 = .ok (.iload 9, 2) := by decide +kernel
theorem dX8_failed_226 : decode cX8_failed 226 = .ok (.goto 16, 3) := by decide +kernel
theorem dX8_failed_229 : decode cX8_failed 229 = .ok (.iload 6, 2) := by decide +kernel
theorem dX8_failed_231 : decode cX8_failed 231 = .ok (.iconst 1, 1) := by decide +kernel
theorem dX8_failed_232 : decode cX8_failed 232 = .ok (.if_icmp .ne 8, 3) := by decide +kernel
theorem dX8_failed_235 : decode cX8_failed 235 = .ok (.iload 10, 2) := by decide +kernel
theorem dX8_failed_237 : decode cX8_failed 237 = .ok (.goto 5, 3) := by decide +kernel
theorem dX8_failed_240 : decode cX8_failed 240 = .ok (.iload 11, 2) := by decide +kernel
theorem dX8_failed_242 : decode cX8_failed 242 = .ok (.ireturn, 1) := by decide +kernel
theorem dX8_film_0 : decode cX8_film 0 = .ok (.aload_n 0, 1) := by decide +kernel
theorem dX8_film_1 : decode cX8_film 1 = .ok (.iload_n 1, 1) := by decide +kernel
theorem dX8_film_2 : decode cX8_film 2 = .ok (.invokevirtual 52, 3) := by decide +kernel
theorem dX8_film_5 : decode cX8_film 5 = .ok (.ifCond .eq 30, 3) := by decide +kernel
theorem dX8_film_8 : decode cX8_film 8 = .ok (.iload_n 2, 1) := by decide +kernel
theorem dX8_film_9 : decode cX8_film 9 = .ok (.iconst 1, 1) := by decide +kernel
theorem dX8_film_10 : decode cX8_film 10 = .ok (.bipush 24, 2) := by decide +kernel
theorem dX8_film_12 : decode cX8_film 12 = .ok (.invokestatic 44, 3) := by decide +kernel
theorem dX8_film_15 : decode cX8_film 15 = .ok (.ifCond .eq 20, 3) := by decide +kernel
theorem dX8_film_18 : decode cX8_film 18 = .ok (.iload_n 3, 1) := by decide +kernel
theorem dX8_film_19 : decode cX8_film 19 = .ok (.invokestatic 159, 3) := by decide +kernel
theorem dX8_film_22 : decode cX8_film 22 = .ok (.ifCond .eq 13, 3) := by decide +kernel
theorem dX8_film_25 : decode cX8_film 25 = .ok (.iload 4, 2) := by decide +kernel
theorem dX8_film_27 : decode cX8_film 27 = .ok (.iconst 0, 1) := by decide +kernel
theorem dX8_film_28 : decode cX8_film 28 = .ok (.iconst 3, 1) := by decide +kernel
theorem dX8_film_29 : decode cX8_film 29 = .ok (.invokestatic 44, 3) := by decide +kernel
theorem dX8_film_32 : decode cX8_film 32 = .ok (.ifCond .ne 5, 3) := by decide +kernel
theorem dX8_film_35 : decode cX8_film 35 = .ok (.iconst (-1), 1) := by decide +kernel
theorem dX8_film_36 : decode cX8_film 36 = .ok (.ireturn, 1) := by decide +kernel
theorem dX8_film_37 : decode cX8_film 37 = .ok (.aload_n 0, 1) := by decide +kernel
theorem dX8_film_38 : decode cX8_film 38 = .ok (.iload_n 3, 1) := by decide +kernel
theorem dX8_film_39 : decode cX8_film 39 = .ok (.iload 4, 2) := by decide +kernel
theorem dX8_film_41 : decode cX8_film 41 = .ok (.iload 5, 2) := by decide +kernel
theorem dX8_film_43 : decode cX8_film 43 = .ok (.iload_n 2, 1) := by decide +kernel
theorem dX8_film_44 : decode cX8_film 44 = .ok (.invokevirtual 162, 3) := by decide +kernel
theorem dX8_film_47 : decode cX8_film 47 = .ok (.istore 6, 2) := by decide +kernel
theorem dX8_film_49 : decode cX8_film 49 = .ok (.iload 6, 2) := by decide +kernel
theorem dX8_film_51 : decode cX8_film 51 = .ok (.ifCond .eq 6, 3) := by decide +kernel
theorem dX8_film_54 : decode cX8_film 54 = .ok (.iload 6, 2) := by decide +kernel
theorem dX8_film_56 : decode cX8_film 56 = .ok (.ireturn, 1) := by decide +kernel
theorem dX8_film_57 : decode cX8_film 57 = .ok (.aload_n 0, 1) := by decide +kernel
theorem dX8_film_58 : decode cX8_film 58 = .ok (.invokevirtual 132, 3) := by decide +kernel
theorem dX8_film_61 : decode cX8_film 61 = .ok (.iconst 0, 1) := by decide +kernel
theorem dX8_film_62 : decode cX8_film 62 = .ok (.istore 7, 2) := by decide +kernel
theorem dX8_film_64 : decode cX8_film 64 = .ok (.iload 7, 2) := by decide +kernel
theorem dX8_film_66 : decode cX8_film 66 = .ok (.iload_n 2, 1) := by decide +kernel
theorem dX8_film_67 : decode cX8_film 67 = .ok (.if_icmp .ge 37, 3) := by decide +kernel
theorem dX8_film_70 : decode cX8_film 70 = .ok (.aload_n 0, 1) := by decide +kernel
theorem dX8_film_71 : decode cX8_film 71 = .ok (.invokevirtual 122, 3) := by decide +kernel
theorem dX8_film_74 : decode cX8_film 74 = .ok (.aload_n 0, 1) := by decide +kernel
theorem dX8_film_75 : decode cX8_film 75 = .ok (.getfield 22, 3) := by decide +kernel
theorem dX8_film_78 : decode cX8_film 78 = .ok (.bipush 24, 2) := by decide +kernel
theorem dX8_film_80 : decode cX8_film 80 = .ok (.iload_n 3, 1) := by decide +kernel
theorem dX8_film_81 : decode cX8_film 81 = .ok (.imul, 1) := by decide +kernel
theorem dX8_film_82 : decode cX8_film 82 = .ok (.iload 5, 2) := by decide +kernel
theorem dX8_film_84 : decode cX8_film 84 = .ok (.iadd, 1) := by decide +kernel
theorem dX8_film_85 : decode cX8_film 85 = .ok (.iload 7, 2) := by decide +kernel
theorem dX8_film_87 : decode cX8_film 87 = .ok (.iadd, 1) := by decide +kernel
theorem dX8_film_88 : decode cX8_film 88 = .ok (.aload_n 0, 1) := by decide +kernel
theorem dX8_film_89 : decode cX8_film 89 = .ok (.getfield 7, 3) := by decide +kernel
theorem dX8_film_92 : decode cX8_film 92 = .ok (.iconst 4, 1) := by decide +kernel
theorem dX8_film_93 : decode cX8_film 93 = .ok (.iload_n 1, 1) := by decide +kernel
theorem dX8_film_94 : decode cX8_film 94 = .ok (.iadd, 1) := by decide +kernel
theorem dX8_film_95 : decode cX8_film 95 = .ok (.iaload, 1) := by decide +kernel
theorem dX8_film_96 : decode cX8_film 96 = .ok (.i2l, 1) := by decide +kernel
theorem dX8_film_97 : decode cX8_film 97 = .ok (.lastore, 1) := by decide +kernel
theorem dX8_film_98 : decode cX8_film 98 = .ok (.iinc 7 1, 3) := by decide +kernel
theorem dX8_film_101 : decode cX8_film 101 = .ok (.goto (-37), 3) := by decide +kernel
theorem dX8_film_104 : decode cX8_film 104 = .ok (.aload_n 0, 1) := by decide +kernel
theorem dX8_film_105 : decode cX8_film 105 = .ok (.invokevirtual 135, 3) := by decide +kernel
theorem dX8_film_108 : decode cX8_film 108 = .ok (.iload_n 2, 1) := by decide +kernel
theorem dX8_film_109 : decode cX8_film 109 = .ok (.ireturn, 1) := by decide +kernel
theorem dX8_sheet_0 : decode cX8_sheet 0 = .ok (.iload_n 1, 1) := by decide +kernel
theorem dX8_sheet_1 : decode cX8_sheet 1 = .ok (.invokestatic 159, 3) := by decide +kernel
theorem dX8_sheet_4 : decode cX8_sheet 4 = .ok (.ifCond .eq 18, 3) := by decide +kernel
theorem dX8_sheet_7 : decode cX8_sheet 7 = .ok (.iload_n 2, 1) := by decide +kernel
theorem dX8_sheet_8 : decode cX8_sheet 8 = .ok (.iconst 0, 1) := by decide +kernel
theorem dX8_sheet_9 : decode cX8_sheet 9 = .ok (.iconst 3, 1) := by decide +kernel
theorem dX8_sheet_10 : decode cX8_sheet 10 = .ok (.invokestatic 44, 3) := by decide +kernel
theorem dX8_sheet_13 : decode cX8_sheet 13 = .ok (.ifCond .eq 9, 3) := by decide +kernel
theorem dX8_sheet_16 : decode cX8_sheet 16 = .ok (.iload_n 3, 1) := by decide +kernel
theorem dX8_sheet_17 : decode cX8_sheet 17 = .ok (.bipush 24, 2) := by decide +kernel
theorem dX8_sheet_19 : decode cX8_sheet 19 = .ok (.if_icmp .le 5, 3) := by decide +kernel
theorem dX8_sheet_22 : decode cX8_sheet 22 = .ok (.iconst (-1), 1) := by decide +kernel
theorem dX8_sheet_23 : decode cX8_sheet 23 = .ok (.ireturn, 1) := by decide +kernel
theorem dX8_sheet_24 : decode cX8_sheet 24 = .ok (.iload_n 3, 1) := by decide +kernel
theorem dX8_sheet_25 : decode cX8_sheet 25 = .ok (.ifCond .ge 6, 3) := by decide +kernel
theorem dX8_sheet_28 : decode cX8_sheet 28 = .ok (.bipush (-14), 2) := by decide +kernel
theorem dX8_sheet_30 : decode cX8_sheet 30 = .ok (.ireturn, 1) := by decide +kernel
theorem dX8_sheet_31 : decode cX8_sheet 31 = .ok (.aload_n 0, 1) := by decide +kernel
theorem dX8_sheet_32 : decode cX8_sheet 32 = .ok (.getfield 29, 3) := by decide +kernel
theorem dX8_sheet_35 : decode cX8_sheet 35 = .ok (.iload_n 1, 1) := by decide +kernel
theorem dX8_sheet_36 : decode cX8_sheet 36 = .ok (.iload_n 3, 1) := by decide +kernel
theorem dX8_sheet_37 : decode cX8_sheet 37 = .ok (.iastore, 1) := by decide +kernel
theorem dX8_sheet_38 : decode cX8_sheet 38 = .ok (.aload_n 0, 1) := by decide +kernel
theorem dX8_sheet_39 : decode cX8_sheet 39 = .ok (.getfield 32, 3) := by decide +kernel
theorem dX8_sheet_42 : decode cX8_sheet 42 = .ok (.iload_n 1, 1) := by decide +kernel
theorem dX8_sheet_43 : decode cX8_sheet 43 = .ok (.iload_n 2, 1) := by decide +kernel
theorem dX8_sheet_44 : decode cX8_sheet 44 = .ok (.iastore, 1) := by decide +kernel
theorem dX8_sheet_45 : decode cX8_sheet 45 = .ok (.iconst 0, 1) := by decide +kernel
theorem dX8_sheet_46 : decode cX8_sheet 46 = .ok (.istore 4, 2) := by decide +kernel
theorem dX8_sheet_48 : decode cX8_sheet 48 = .ok (.iload 4, 2) := by decide +kernel
theorem dX8_sheet_50 : decode cX8_sheet 50 = .ok (.bipush 24, 2) := by decide +kernel
theorem dX8_sheet_52 : decode cX8_sheet 52 = .ok (.if_icmp .ge 22, 3) := by decide +kernel
theorem dX8_sheet_55 : decode cX8_sheet 55 = .ok (.aload_n 0, 1) := by decide +kernel
theorem dX8_sheet_56 : decode cX8_sheet 56 = .ok (.getfield 22, 3) := by decide +kernel
theorem dX8_sheet_59 : decode cX8_sheet 59 = .ok (.bipush 24, 2) := by decide +kernel
theorem dX8_sheet_61 : decode cX8_sheet 61 = .ok (.iload_n 1, 1) := by decide +kernel
theorem dX8_sheet_62 : decode cX8_sheet 62 = .ok (.imul, 1) := by decide +kernel
theorem dX8_sheet_63 : decode cX8_sheet 63 = .ok (.iload 4, 2) := by decide +kernel
theorem dX8_sheet_65 : decode cX8_sheet 65 = .ok (.iadd, 1) := by decide +kernel
theorem dX8_sheet_66 : decode cX8_sheet 66 = .ok (.lconst 0, 1) := by decide +kernel
theorem dX8_sheet_67 : decode cX8_sheet 67 = .ok (.lastore, 1) := by decide +kernel
theorem dX8_sheet_68 : decode cX8_sheet 68 = .ok (.iinc 4 1, 3) := by decide +kernel
theorem dX8_sheet_71 : decode cX8_sheet 71 = .ok (.goto (-23), 3) := by decide +kernel
theorem dX8_sheet_74 : decode cX8_sheet 74 = .ok (.iload_n 3, 1) := by decide +kernel
theorem dX8_sheet_75 : decode cX8_sheet 75 = .ok (.ireturn, 1) := by decide +kernel
theorem dX8_drop_0 : decode cX8_drop 0 = .ok (.iload_n 1, 1) := by decide +kernel
theorem dX8_drop_1 : decode cX8_drop 1 = .ok (.invokestatic 159, 3) := by decide +kernel
theorem dX8_drop_4 : decode cX8_drop 4 = .ok (.ifCond .ne 5, 3) := by decide +kernel
theorem dX8_drop_7 : decode cX8_drop 7 = .ok (.iconst (-1), 1) := by decide +kernel
theorem dX8_drop_8 : decode cX8_drop 8 = .ok (.ireturn, 1) := by decide +kernel
theorem dX8_drop_9 : decode cX8_drop 9 = .ok (.aload_n 0, 1) := by decide +kernel
theorem dX8_drop_10 : decode cX8_drop 10 = .ok (.getfield 29, 3) := by decide +kernel
theorem dX8_drop_13 : decode cX8_drop 13 = .ok (.iload_n 1, 1) := by decide +kernel
theorem dX8_drop_14 : decode cX8_drop 14 = .ok (.iaload, 1) := by decide +kernel
theorem dX8_drop_15 : decode cX8_drop 15 = .ok (.ifCond .ge 6, 3) := by decide +kernel
theorem dX8_drop_18 : decode cX8_drop 18 = .ok (.bipush (-11), 2) := by decide +kernel
theorem dX8_drop_20 : decode cX8_drop 20 = .ok (.ireturn, 1) := by decide +kernel
theorem dX8_drop_21 : decode cX8_drop 21 = .ok (.aload_n 0, 1) := by decide +kernel
theorem dX8_drop_22 : decode cX8_drop 22 = .ok (.getfield 29, 3) := by decide +kernel
theorem dX8_drop_25 : decode cX8_drop 25 = .ok (.iload_n 1, 1) := by decide +kernel
theorem dX8_drop_26 : decode cX8_drop 26 = .ok (.iaload, 1) := by decide +kernel
theorem dX8_drop_27 : decode cX8_drop 27 = .ok (.istore_n 2, 1) := by decide +kernel
theorem dX8_drop_28 : decode cX8_drop 28 = .ok (.aload_n 0, 1) := by decide +kernel
theorem dX8_drop_29 : decode cX8_drop 29 = .ok (.getfield 29, 3) := by decide +kernel
theorem dX8_drop_32 : decode cX8_drop 32 = .ok (.iload_n 1, 1) := by decide +kernel
theorem dX8_drop_33 : decode cX8_drop 33 = .ok (.iconst (-1), 1) := by decide +kernel
theorem dX8_drop_34 : decode cX8_drop 34 = .ok (.iastore, 1) := by decide +kernel
theorem dX8_drop_35 : decode cX8_drop 35 = .ok (.iload_n 2, 1) := by decide +kernel
theorem dX8_drop_36 : decode cX8_drop 36 = .ok (.ireturn, 1) := by decide +kernel
theorem dX8_item_0 : decode cX8_item 0 = .ok (.iload_n 1, 1) := by decide +kernel
theorem dX8_item_1 : decode cX8_item 1 = .ok (.invokestatic 159, 3) := by decide +kernel
theorem dX8_item_4 : decode cX8_item 4 = .ok (.ifCond .eq 12, 3) := by decide +kernel
theorem dX8_item_7 : decode cX8_item 7 = .ok (.iload_n 2, 1) := by decide +kernel
theorem dX8_item_8 : decode cX8_item 8 = .ok (.iconst 0, 1) := by decide +kernel
theorem dX8_item_9 : decode cX8_item 9 = .ok (.iconst 3, 1) := by decide +kernel
theorem dX8_item_10 : decode cX8_item 10 = .ok (.invokestatic 44, 3) := by decide +kernel
theorem dX8_item_13 : decode cX8_item 13 = .ok (.ifCond .ne 5, 3) := by decide +kernel
theorem dX8_item_16 : decode cX8_item 16 = .ok (.iconst (-1), 1) := by decide +kernel
theorem dX8_item_17 : decode cX8_item 17 = .ok (.ireturn, 1) := by decide +kernel
theorem dX8_item_18 : decode cX8_item 18 = .ok (.aload_n 0, 1) := by decide +kernel
theorem dX8_item_19 : decode cX8_item 19 = .ok (.iload_n 1, 1) := by decide +kernel
theorem dX8_item_20 : decode cX8_item 20 = .ok (.iload_n 2, 1) := by decide +kernel
theorem dX8_item_21 : decode cX8_item 21 = .ok (.iload_n 3, 1) := by decide +kernel
theorem dX8_item_22 : decode cX8_item 22 = .ok (.iconst 1, 1) := by decide +kernel
theorem dX8_item_23 : decode cX8_item 23 = .ok (.invokevirtual 162, 3) := by decide +kernel
theorem dX8_item_26 : decode cX8_item 26 = .ok (.istore 6, 2) := by decide +kernel
theorem dX8_item_28 : decode cX8_item 28 = .ok (.iload 6, 2) := by decide +kernel
theorem dX8_item_30 : decode cX8_item 30 = .ok (.ifCond .eq 6, 3) := by decide +kernel
theorem dX8_item_33 : decode cX8_item 33 = .ok (.iload 6, 2) := by decide +kernel
theorem dX8_item_35 : decode cX8_item 35 = .ok (.ireturn, 1) := by decide +kernel
theorem dX8_item_36 : decode cX8_item 36 = .ok (.aload_n 0, 1) := by decide +kernel
theorem dX8_item_37 : decode cX8_item 37 = .ok (.getfield 22, 3) := by decide +kernel
theorem dX8_item_40 : decode cX8_item 40 = .ok (.bipush 24, 2) := by decide +kernel
theorem dX8_item_42 : decode cX8_item 42 = .ok (.iload_n 1, 1) := by decide +kernel
theorem dX8_item_43 : decode cX8_item 43 = .ok (.imul, 1) := by decide +kernel
theorem dX8_item_44 : decode cX8_item 44 = .ok (.iload_n 3, 1) := by decide +kernel
theorem dX8_item_45 : decode cX8_item 45 = .ok (.iadd, 1) := by decide +kernel
theorem dX8_item_46 : decode cX8_item 46 = .ok (.iload_n 2, 1) := by decide +kernel
theorem dX8_item_47 : decode cX8_item 47 = .ok (.lload 4, 2) := by decide +kernel
theorem dX8_item_49 : decode cX8_item 49 = .ok (.invokestatic 169, 3) := by decide +kernel
theorem dX8_item_52 : decode cX8_item 52 = .ok (.lastore, 1) := by decide +kernel
theorem dX8_item_53 : decode cX8_item 53 = .ok (.iconst 1, 1) := by decide +kernel
theorem dX8_item_54 : decode cX8_item 54 = .ok (.ireturn, 1) := by decide +kernel
theorem dX8_copy_0 : decode cX8_copy 0 = .ok (.iload_n 1, 1) := by decide +kernel
theorem dX8_copy_1 : decode cX8_copy 1 = .ok (.invokestatic 159, 3) := by decide +kernel
theorem dX8_copy_4 : decode cX8_copy 4 = .ok (.ifCond .eq 10, 3) := by decide +kernel
theorem dX8_copy_7 : decode cX8_copy 7 = .ok (.iload_n 3, 1) := by decide +kernel
theorem dX8_copy_8 : decode cX8_copy 8 = .ok (.invokestatic 159, 3) := by decide +kernel
theorem dX8_copy_11 : decode cX8_copy 11 = .ok (.ifCond .ne 5, 3) := by decide +kernel
theorem dX8_copy_14 : decode cX8_copy 14 = .ok (.iconst (-1), 1) := by decide +kernel
theorem dX8_copy_15 : decode cX8_copy 15 = .ok (.ireturn, 1) := by decide +kernel
theorem dX8_copy_16 : decode cX8_copy 16 = .ok (.aload_n 0, 1) := by decide +kernel
theorem dX8_copy_17 : decode cX8_copy 17 = .ok (.getfield 29, 3) := by decide +kernel
theorem dX8_copy_20 : decode cX8_copy 20 = .ok (.iload_n 1, 1) := by decide +kernel
theorem dX8_copy_21 : decode cX8_copy 21 = .ok (.iaload, 1) := by decide +kernel
theorem dX8_copy_22 : decode cX8_copy 22 = .ok (.ifCond .lt 12, 3) := by decide +kernel
theorem dX8_copy_25 : decode cX8_copy 25 = .ok (.aload_n 0, 1) := by decide +kernel
theorem dX8_copy_26 : decode cX8_copy 26 = .ok (.getfield 29, 3) := by decide +kernel
theorem dX8_copy_29 : decode cX8_copy 29 = .ok (.iload_n 3, 1) := by decide +kernel
theorem dX8_copy_30 : decode cX8_copy 30 = .ok (.iaload, 1) := by decide +kernel
theorem dX8_copy_31 : decode cX8_copy 31 = .ok (.ifCond .ge 6, 3) := by decide +kernel
theorem dX8_copy_34 : decode cX8_copy 34 = .ok (.bipush (-11), 2) := by decide +kernel
theorem dX8_copy_36 : decode cX8_copy 36 = .ok (.ireturn, 1) := by decide +kernel
theorem dX8_copy_37 : decode cX8_copy 37 = .ok (.aload_n 0, 1) := by decide +kernel
theorem dX8_copy_38 : decode cX8_copy 38 = .ok (.iload_n 1, 1) := by decide +kernel
theorem dX8_copy_39 : decode cX8_copy 39 = .ok (.aload_n 0, 1) := by decide +kernel
theorem dX8_copy_40 : decode cX8_copy 40 = .ok (.getfield 32, 3) := by decide +kernel
theorem dX8_copy_43 : decode cX8_copy 43 = .ok (.iload_n 3, 1) := by decide +kernel
theorem dX8_copy_44 : decode cX8_copy 44 = .ok (.iaload, 1) := by decide +kernel
theorem dX8_copy_45 : decode cX8_copy 45 = .ok (.iload_n 2, 1) := by decide +kernel
theorem dX8_copy_46 : decode cX8_copy 46 = .ok (.iload 5, 2) := by decide +kernel
theorem dX8_copy_48 : decode cX8_copy 48 = .ok (.invokevirtual 162, 3) := by decide +kernel
theorem dX8_copy_51 : decode cX8_copy 51 = .ok (.istore 6, 2) := by decide +kernel
theorem dX8_copy_53 : decode cX8_copy 53 = .ok (.aload_n 0, 1) := by decide +kernel
theorem dX8_copy_54 : decode cX8_copy 54 = .ok (.iload_n 3, 1) := by decide +kernel
theorem dX8_copy_55 : decode cX8_copy 55 = .ok (.aload_n 0, 1) := by decide +kernel
theorem dX8_copy_56 : decode cX8_copy 56 = .ok (.getfield 32, 3) := by decide +kernel
theorem dX8_copy_59 : decode cX8_copy 59 = .ok (.iload_n 3, 1) := by decide +kernel
theorem dX8_copy_60 : decode cX8_copy 60 = .ok (.iaload, 1) := by decide +kernel
theorem dX8_copy_61 : decode cX8_copy 61 = .ok (.iload 4, 2) := by decide +kernel
theorem dX8_copy_63 : decode cX8_copy 63 = .ok (.iload 5, 2) := by decide +kernel
theorem dX8_copy_65 : decode cX8_copy 65 = .ok (.invokevirtual 162, 3) := by decide +kernel
theorem dX8_copy_68 : decode cX8_copy 68 = .ok (.istore 7, 2) := by decide +kernel
theorem dX8_copy_70 : decode cX8_copy 70 = .ok (.iload 6, 2) := by decide +kernel
theorem dX8_copy_72 : decode cX8_copy 72 = .ok (.ifCond .ne 8, 3) := by decide +kernel
theorem dX8_copy_75 : decode cX8_copy 75 = .ok (.iload 7, 2) := by decide +kernel
theorem dX8_copy_77 : decode cX8_copy 77 = .ok (.ifCond .eq 16, 3) := by decide +kernel
theorem dX8_copy_80 : decode cX8_copy 80 = .ok (.iload 6, 2) := by decide +kernel
theorem dX8_copy_82 : decode cX8_copy 82 = .ok (.ifCond .eq 8, 3) := by decide +kernel
theorem dX8_copy_85 : decode cX8_copy 85 = .ok (.iload 6, 2) := by decide +kernel
theorem dX8_copy_87 : decode cX8_copy 87 = .ok (.goto 5, 3) := by decide +kernel
theorem dX8_copy_90 : decode cX8_copy 90 = .ok (.iload 7, 2) := by decide +kernel
theorem dX8_copy_92 : decode cX8_copy 92 = .ok (.ireturn, 1) := by decide +kernel
theorem dX8_copy_93 : decode cX8_copy 93 = .ok (.iconst 0, 1) := by decide +kernel
theorem dX8_copy_94 : decode cX8_copy 94 = .ok (.istore 8, 2) := by decide +kernel
theorem dX8_copy_96 : decode cX8_copy 96 = .ok (.iload 8, 2) := by decide +kernel
theorem dX8_copy_98 : decode cX8_copy 98 = .ok (.iload 5, 2) := by decide +kernel
theorem dX8_copy_100 : decode cX8_copy 100 = .ok (.if_icmp .ge 30, 3) := by decide +kernel
theorem dX8_copy_103 : decode cX8_copy 103 = .ok (.aload_n 0, 1) := by decide +kernel
theorem dX8_copy_104 : decode cX8_copy 104 = .ok (.getfield 26, 3) := by decide +kernel
theorem dX8_copy_107 : decode cX8_copy 107 = .ok (.iload 8, 2) := by decide +kernel
theorem dX8_copy_109 : decode cX8_copy 109 = .ok (.aload_n 0, 1) := by decide +kernel
theorem dX8_copy_110 : decode cX8_copy 110 = .ok (.getfield 22, 3) := by decide +kernel
theorem dX8_copy_113 : decode cX8_copy 113 = .ok (.bipush 24, 2) := by decide +kernel
theorem dX8_copy_115 : decode cX8_copy 115 = .ok (.iload_n 1, 1) := by decide +kernel
theorem dX8_copy_116 : decode cX8_copy 116 = .ok (.imul, 1) := by decide +kernel
theorem dX8_copy_117 : decode cX8_copy 117 = .ok (.iload_n 2, 1) := by decide +kernel
theorem dX8_copy_118 : decode cX8_copy 118 = .ok (.iadd, 1) := by decide +kernel
theorem dX8_copy_119 : decode cX8_copy 119 = .ok (.iload 8, 2) := by decide +kernel
theorem dX8_copy_121 : decode cX8_copy 121 = .ok (.iadd, 1) := by decide +kernel
theorem dX8_copy_122 : decode cX8_copy 122 = .ok (.laload, 1) := by decide +kernel
theorem dX8_copy_123 : decode cX8_copy 123 = .ok (.lastore, 1) := by decide +kernel
theorem dX8_copy_124 : decode cX8_copy 124 = .ok (.iinc 8 1, 3) := by decide +kernel
theorem dX8_copy_127 : decode cX8_copy 127 = .ok (.goto (-31), 3) := by decide +kernel
theorem dX8_copy_130 : decode cX8_copy 130 = .ok (.iconst 0, 1) := by decide +kernel
theorem dX8_copy_131 : decode cX8_copy 131 = .ok (.istore 8, 2) := by decide +kernel
theorem dX8_copy_133 : decode cX8_copy 133 = .ok (.iload 8, 2) := by decide +kernel
theorem dX8_copy_135 : decode cX8_copy 135 = .ok (.iload 5, 2) := by decide +kernel
theorem dX8_copy_137 : decode cX8_copy 137 = .ok (.if_icmp .ge 31, 3) := by decide +kernel
theorem dX8_copy_140 : decode cX8_copy 140 = .ok (.aload_n 0, 1) := by decide +kernel
theorem dX8_copy_141 : decode cX8_copy 141 = .ok (.getfield 22, 3) := by decide +kernel
theorem dX8_copy_144 : decode cX8_copy 144 = .ok (.bipush 24, 2) := by decide +kernel
theorem dX8_copy_146 : decode cX8_copy 146 = .ok (.iload_n 3, 1) := by decide +kernel
theorem dX8_copy_147 : decode cX8_copy 147 = .ok (.imul, 1) := by decide +kernel
theorem dX8_copy_148 : decode cX8_copy 148 = .ok (.iload 4, 2) := by decide +kernel
theorem dX8_copy_150 : decode cX8_copy 150 = .ok (.iadd, 1) := by decide +kernel
theorem dX8_copy_151 : decode cX8_copy 151 = .ok (.iload 8, 2) := by decide +kernel
theorem dX8_copy_153 : decode cX8_copy 153 = .ok (.iadd, 1) := by decide +kernel
theorem dX8_copy_154 : decode cX8_copy 154 = .ok (.aload_n 0, 1) := by decide +kernel
theorem dX8_copy_155 : decode cX8_copy 155 = .ok (.getfield 26, 3) := by decide +kernel
theorem dX8_copy_158 : decode cX8_copy 158 = .ok (.iload 8, 2) := by decide +kernel
theorem dX8_copy_160 : decode cX8_copy 160 = .ok (.laload, 1) := by decide +kernel
theorem dX8_copy_161 : decode cX8_copy 161 = .ok (.lastore, 1) := by decide +kernel
theorem dX8_copy_162 : decode cX8_copy 162 = .ok (.iinc 8 1, 3) := by decide +kernel
theorem dX8_copy_165 : decode cX8_copy 165 = .ok (.goto (-32), 3) := by decide +kernel
theorem dX8_copy_168 : decode cX8_copy 168 = .ok (.iload 5, 2) := by decide +kernel
theorem dX8_copy_170 : decode cX8_copy 170 = .ok (.ireturn, 1) := by decide +kernel
end
section
theorem dJ6_bitCount_0f7a4_0 : decode cJ6_bitCount_0f7a4 0 = .ok (.iload_n 0, 1) := by decide +kernel
theorem dJ6_bitCount_0f7a4_1 : decode cJ6_bitCount_0f7a4 1 = .ok (.iload_n 0, 1) := by decide +kernel
theorem dJ6_bitCount_0f7a4_2 : decode cJ6_bitCount_0f7a4 2 = .ok (.iconst 1, 1) := by decide +kernel
theorem dJ6_bitCount_0f7a4_3 : decode cJ6_bitCount_0f7a4 3 = .ok (.iushr, 1) := by decide +kernel
theorem dJ6_bitCount_0f7a4_4 : decode cJ6_bitCount_0f7a4 4 = .ok (.ldc_w 265, 3) := by decide +kernel
theorem dJ6_bitCount_0f7a4_7 : decode cJ6_bitCount_0f7a4 7 = .ok (.iand, 1) := by decide +kernel
theorem dJ6_bitCount_0f7a4_8 : decode cJ6_bitCount_0f7a4 8 = .ok (.isub, 1) := by decide +kernel
theorem dJ6_bitCount_0f7a4_9 : decode cJ6_bitCount_0f7a4 9 = .ok (.istore_n 0, 1) := by decide +kernel
theorem dJ6_bitCount_0f7a4_10 : decode cJ6_bitCount_0f7a4 10 = .ok (.iload_n 0, 1) := by decide +kernel
theorem dJ6_bitCount_0f7a4_11 : decode cJ6_bitCount_0f7a4 11 = .ok (.ldc_w 266, 3) := by decide +kernel
theorem dJ6_bitCount_0f7a4_14 : decode cJ6_bitCount_0f7a4 14 = .ok (.iand, 1) := by decide +kernel
theorem dJ6_bitCount_0f7a4_15 : decode cJ6_bitCount_0f7a4 15 = .ok (.iload_n 0, 1) := by decide +kernel
theorem dJ6_bitCount_0f7a4_16 : decode cJ6_bitCount_0f7a4 16 = .ok (.iconst 2, 1) := by decide +kernel
theorem dJ6_bitCount_0f7a4_17 : decode cJ6_bitCount_0f7a4 17 = .ok (.iushr, 1) := by decide +kernel
theorem dJ6_bitCount_0f7a4_18 : decode cJ6_bitCount_0f7a4 18 = .ok (.ldc_w 266, 3) := by decide +kernel
theorem dJ6_bitCount_0f7a4_21 : decode cJ6_bitCount_0f7a4 21 = .ok (.iand, 1) := by decide +kernel
theorem dJ6_bitCount_0f7a4_22 : decode cJ6_bitCount_0f7a4 22 = .ok (.iadd, 1) := by decide +kernel
theorem dJ6_bitCount_0f7a4_23 : decode cJ6_bitCount_0f7a4 23 = .ok (.istore_n 0, 1) := by decide +kernel
theorem dJ6_bitCount_0f7a4_24 : decode cJ6_bitCount_0f7a4 24 = .ok (.iload_n 0, 1) := by decide +kernel
theorem dJ6_bitCount_0f7a4_25 : decode cJ6_bitCount_0f7a4 25 = .ok (.iload_n 0, 1) := by decide +kernel
theorem dJ6_bitCount_0f7a4_26 : decode cJ6_bitCount_0f7a4 26 = .ok (.iconst 4, 1) := by decide +kernel
theorem dJ6_bitCount_0f7a4_27 : decode cJ6_bitCount_0f7a4 27 = .ok (.iushr, 1) := by decide +kernel
theorem dJ6_bitCount_0f7a4_28 : decode cJ6_bitCount_0f7a4 28 = .ok (.iadd, 1) := by decide +kernel
theorem dJ6_bitCount_0f7a4_29 : decode cJ6_bitCount_0f7a4 29 = .ok (.ldc_w 267, 3) := by decide +kernel
theorem dJ6_bitCount_0f7a4_32 : decode cJ6_bitCount_0f7a4 32 = .ok (.iand, 1) := by decide +kernel
theorem dJ6_bitCount_0f7a4_33 : decode cJ6_bitCount_0f7a4 33 = .ok (.istore_n 0, 1) := by decide +kernel
theorem dJ6_bitCount_0f7a4_34 : decode cJ6_bitCount_0f7a4 34 = .ok (.iload_n 0, 1) := by decide +kernel
theorem dJ6_bitCount_0f7a4_35 : decode cJ6_bitCount_0f7a4 35 = .ok (.iload_n 0, 1) := by decide +kernel
theorem dJ6_bitCount_0f7a4_36 : decode cJ6_bitCount_0f7a4 36 = .ok (.bipush 8, 2) := by decide +kernel
theorem dJ6_bitCount_0f7a4_38 : decode cJ6_bitCount_0f7a4 38 = .ok (.iushr, 1) := by decide +kernel
theorem dJ6_bitCount_0f7a4_39 : decode cJ6_bitCount_0f7a4 39 = .ok (.iadd, 1) := by decide +kernel
theorem dJ6_bitCount_0f7a4_40 : decode cJ6_bitCount_0f7a4 40 = .ok (.istore_n 0, 1) := by decide +kernel
theorem dJ6_bitCount_0f7a4_41 : decode cJ6_bitCount_0f7a4 41 = .ok (.iload_n 0, 1) := by decide +kernel
theorem dJ6_bitCount_0f7a4_42 : decode cJ6_bitCount_0f7a4 42 = .ok (.iload_n 0, 1) := by decide +kernel
theorem dJ6_bitCount_0f7a4_43 : decode cJ6_bitCount_0f7a4 43 = .ok (.bipush 16, 2) := by decide +kernel
theorem dJ6_bitCount_0f7a4_45 : decode cJ6_bitCount_0f7a4 45 = .ok (.iushr, 1) := by decide +kernel
theorem dJ6_bitCount_0f7a4_46 : decode cJ6_bitCount_0f7a4 46 = .ok (.iadd, 1) := by decide +kernel
theorem dJ6_bitCount_0f7a4_47 : decode cJ6_bitCount_0f7a4 47 = .ok (.istore_n 0, 1) := by decide +kernel
theorem dJ6_bitCount_0f7a4_48 : decode cJ6_bitCount_0f7a4 48 = .ok (.iload_n 0, 1) := by decide +kernel
theorem dJ6_bitCount_0f7a4_49 : decode cJ6_bitCount_0f7a4 49 = .ok (.bipush 63, 2) := by decide +kernel
theorem dJ6_bitCount_0f7a4_51 : decode cJ6_bitCount_0f7a4 51 = .ok (.iand, 1) := by decide +kernel
theorem dJ6_bitCount_0f7a4_52 : decode cJ6_bitCount_0f7a4 52 = .ok (.ireturn, 1) := by decide +kernel
theorem dJ0_length_8abf5_0 : decode cJ0_length_8abf5 0 = .ok (.aload_n 0, 1) := by decide +kernel
theorem dJ0_length_8abf5_1 : decode cJ0_length_8abf5 1 = .ok (.getfield 9, 3) := by decide +kernel
theorem dJ0_length_8abf5_4 : decode cJ0_length_8abf5 4 = .ok (.arraylength, 1) := by decide +kernel
theorem dJ0_length_8abf5_5 : decode cJ0_length_8abf5 5 = .ok (.aload_n 0, 1) := by decide +kernel
theorem dJ0_length_8abf5_6 : decode cJ0_length_8abf5 6 = .ok (.invokevirtual 335, 3) := by decide +kernel
theorem dJ0_length_8abf5_9 : decode cJ0_length_8abf5 9 = .ok (.ishr, 1) := by decide +kernel
theorem dJ0_length_8abf5_10 : decode cJ0_length_8abf5 10 = .ok (.ireturn, 1) := by decide +kernel
theorem dJ0_indexOf_0f7a4_0 : decode cJ0_indexOf_0f7a4 0 = .ok (.aload_n 0, 1) := by decide +kernel
theorem dJ0_indexOf_0f7a4_1 : decode cJ0_indexOf_0f7a4 1 = .ok (.iload_n 1, 1) := by decide +kernel
theorem dJ0_indexOf_0f7a4_2 : decode cJ0_indexOf_0f7a4 2 = .ok (.iconst 0, 1) := by decide +kernel
theorem dJ0_indexOf_0f7a4_3 : decode cJ0_indexOf_0f7a4 3 = .ok (.invokevirtual 633, 3) := by decide +kernel
theorem dJ0_indexOf_0f7a4_6 : decode cJ0_indexOf_0f7a4 6 = .ok (.ireturn, 1) := by decide +kernel
theorem dJ0_indexOf_7cf53_0 : decode cJ0_indexOf_7cf53 0 = .ok (.aload_n 0, 1) := by decide +kernel
theorem dJ0_indexOf_7cf53_1 : decode cJ0_indexOf_7cf53 1 = .ok (.invokevirtual 492, 3) := by decide +kernel
theorem dJ0_indexOf_7cf53_4 : decode cJ0_indexOf_7cf53 4 = .ok (.ifCond .eq 19, 3) := by decide +kernel
theorem dJ0_indexOf_7cf53_7 : decode cJ0_indexOf_7cf53 7 = .ok (.aload_n 0, 1) := by decide +kernel
theorem dJ0_indexOf_7cf53_8 : decode cJ0_indexOf_7cf53 8 = .ok (.getfield 9, 3) := by decide +kernel
theorem dJ0_indexOf_7cf53_11 : decode cJ0_indexOf_7cf53 11 = .ok (.iload_n 1, 1) := by decide +kernel
theorem dJ0_indexOf_7cf53_12 : decode cJ0_indexOf_7cf53 12 = .ok (.iload_n 2, 1) := by decide +kernel
theorem dJ0_indexOf_7cf53_13 : decode cJ0_indexOf_7cf53 13 = .ok (.aload_n 0, 1) := by decide +kernel
theorem dJ0_indexOf_7cf53_14 : decode cJ0_indexOf_7cf53 14 = .ok (.invokevirtual 505, 3) := by decide +kernel
theorem dJ0_indexOf_7cf53_17 : decode cJ0_indexOf_7cf53 17 = .ok (.invokestatic 637, 3) := by decide +kernel
theorem dJ0_indexOf_7cf53_20 : decode cJ0_indexOf_7cf53 20 = .ok (.goto 16, 3) := by decide +kernel
theorem dJ0_indexOf_7cf53_23 : decode cJ0_indexOf_7cf53 23 = .ok (.aload_n 0, 1) := by decide +kernel
theorem dJ0_indexOf_7cf53_24 : decode cJ0_indexOf_7cf53 24 = .ok (.getfield 9, 3) := by decide +kernel
theorem dJ0_indexOf_7cf53_27 : decode cJ0_indexOf_7cf53 27 = .ok (.iload_n 1, 1) := by decide +kernel
theorem dJ0_indexOf_7cf53_28 : decode cJ0_indexOf_7cf53 28 = .ok (.iload_n 2, 1) := by decide +kernel
theorem dJ0_indexOf_7cf53_29 : decode cJ0_indexOf_7cf53 29 = .ok (.aload_n 0, 1) := by decide +kernel
theorem dJ0_indexOf_7cf53_30 : decode cJ0_indexOf_7cf53 30 = .ok (.invokevirtual 505, 3) := by decide +kernel
theorem dJ0_indexOf_7cf53_33 : decode cJ0_indexOf_7cf53 33 = .ok (.invokestatic 640, 3) := by decide +kernel
theorem dJ0_indexOf_7cf53_36 : decode cJ0_indexOf_7cf53 36 = .ok (.ireturn, 1) := by decide +kernel
theorem dJ0_coder_7d493_0 : decode cJ0_coder_7d493 0 = .ok (.getstatic 38, 3) := by decide +kernel
theorem dJ0_coder_7d493_3 : decode cJ0_coder_7d493 3 = .ok (.ifCond .eq 10, 3) := by decide +kernel
theorem dJ0_coder_7d493_6 : decode cJ0_coder_7d493 6 = .ok (.aload_n 0, 1) := by decide +kernel
theorem dJ0_coder_7d493_7 : decode cJ0_coder_7d493 7 = .ok (.getfield 15, 3) := by decide +kernel
theorem dJ0_coder_7d493_10 : decode cJ0_coder_7d493 10 = .ok (.goto 4, 3) := by decide +kernel
theorem dJ0_coder_7d493_13 : decode cJ0_coder_7d493 13 = .ok (.iconst 1, 1) := by decide +kernel
theorem dJ0_coder_7d493_14 : decode cJ0_coder_7d493 14 = .ok (.ireturn, 1) := by decide +kernel
theorem dJ0_isLatin1_aae02_0 : decode cJ0_isLatin1_aae02 0 = .ok (.getstatic 38, 3) := by decide +kernel
theorem dJ0_isLatin1_aae02_3 : decode cJ0_isLatin1_aae02 3 = .ok (.ifCond .eq 14, 3) := by decide +kernel
theorem dJ0_isLatin1_aae02_6 : decode cJ0_isLatin1_aae02 6 = .ok (.aload_n 0, 1) := by decide +kernel
theorem dJ0_isLatin1_aae02_7 : decode cJ0_isLatin1_aae02 7 = .ok (.getfield 15, 3) := by decide +kernel
theorem dJ0_isLatin1_aae02_10 : decode cJ0_isLatin1_aae02 10 = .ok (.ifCond .ne 7, 3) := by decide +kernel
theorem dJ0_isLatin1_aae02_13 : decode cJ0_isLatin1_aae02 13 = .ok (.iconst 1, 1) := by decide +kernel
theorem dJ0_isLatin1_aae02_14 : decode cJ0_isLatin1_aae02 14 = .ok (.goto 4, 3) := by decide +kernel
theorem dJ0_isLatin1_aae02_17 : decode cJ0_isLatin1_aae02 17 = .ok (.iconst 0, 1) := by decide +kernel
theorem dJ0_isLatin1_aae02_18 : decode cJ0_isLatin1_aae02 18 = .ok (.ireturn, 1) := by decide +kernel
theorem dJ0_checkBoundsBeginEnd_23922_0 : decode cJ0_checkBoundsBeginEnd_23922 0 = .ok (.iload_n 0, 1) := by decide +kernel
theorem dJ0_checkBoundsBeginEnd_23922_1 : decode cJ0_checkBoundsBeginEnd_23922 1 = .ok (.iload_n 1, 1) := by decide +kernel
theorem dJ0_checkBoundsBeginEnd_23922_2 : decode cJ0_checkBoundsBeginEnd_23922 2 = .ok (.iload_n 2, 1) := by decide +kernel
theorem dJ0_checkBoundsBeginEnd_23922_3 : decode cJ0_checkBoundsBeginEnd_23922 3 = .ok (.getstatic 1053, 3) := by decide +kernel
theorem dJ0_checkBoundsBeginEnd_23922_6 : decode cJ0_checkBoundsBeginEnd_23922 6 = .ok (.invokestatic 1062, 3) := by decide +kernel
theorem dJ0_checkBoundsBeginEnd_23922_9 : decode cJ0_checkBoundsBeginEnd_23922 9 = .ok (.pop, 1) := by decide +kernel
theorem dJ0_checkBoundsBeginEnd_23922_10 : decode cJ0_checkBoundsBeginEnd_23922 10 = .ok (.return_, 1) := by decide +kernel
theorem dJ1_canEncode_9a6ad_0 : decode cJ1_canEncode_9a6ad 0 = .ok (.iload_n 0, 1) := by decide +kernel
theorem dJ1_canEncode_9a6ad_1 : decode cJ1_canEncode_9a6ad 1 = .ok (.ifCond .lt 14, 3) := by decide +kernel
theorem dJ1_canEncode_9a6ad_4 : decode cJ1_canEncode_9a6ad 4 = .ok (.iload_n 0, 1) := by decide +kernel
theorem dJ1_canEncode_9a6ad_5 : decode cJ1_canEncode_9a6ad 5 = .ok (.sipush 255, 3) := by decide +kernel
theorem dJ1_canEncode_9a6ad_8 : decode cJ1_canEncode_9a6ad 8 = .ok (.if_icmp .gt 7, 3) := by decide +kernel
theorem dJ1_canEncode_9a6ad_11 : decode cJ1_canEncode_9a6ad 11 = .ok (.iconst 1, 1) := by decide +kernel
theorem dJ1_canEncode_9a6ad_12 : decode cJ1_canEncode_9a6ad 12 = .ok (.goto 4, 3) := by decide +kernel
theorem dJ1_canEncode_9a6ad_15 : decode cJ1_canEncode_9a6ad 15 = .ok (.iconst 0, 1) := by decide +kernel
theorem dJ1_canEncode_9a6ad_16 : decode cJ1_canEncode_9a6ad 16 = .ok (.ireturn, 1) := by decide +kernel
theorem dJ1_indexOf_4cfef_0 : decode cJ1_indexOf_4cfef 0 = .ok (.iload_n 1, 1) := by decide +kernel
theorem dJ1_indexOf_4cfef_1 : decode cJ1_indexOf_4cfef 1 = .ok (.invokestatic 88, 3) := by decide +kernel
theorem dJ1_indexOf_4cfef_4 : decode cJ1_indexOf_4cfef 4 = .ok (.ifCond .ne 5, 3) := by decide +kernel
theorem dJ1_indexOf_4cfef_7 : decode cJ1_indexOf_4cfef 7 = .ok (.iconst (-1), 1) := by decide +kernel
theorem dJ1_indexOf_4cfef_8 : decode cJ1_indexOf_4cfef 8 = .ok (.ireturn, 1) := by decide +kernel
theorem dJ1_indexOf_4cfef_9 : decode cJ1_indexOf_4cfef 9 = .ok (.iload_n 2, 1) := by decide +kernel
theorem dJ1_indexOf_4cfef_10 : decode cJ1_indexOf_4cfef 10 = .ok (.iconst 0, 1) := by decide +kernel
theorem dJ1_indexOf_4cfef_11 : decode cJ1_indexOf_4cfef 11 = .ok (.invokestatic 92, 3) := by decide +kernel
theorem dJ1_indexOf_4cfef_14 : decode cJ1_indexOf_4cfef 14 = .ok (.istore_n 2, 1) := by decide +kernel
theorem dJ1_indexOf_4cfef_15 : decode cJ1_indexOf_4cfef 15 = .ok (.iload_n 3, 1) := by decide +kernel
theorem dJ1_indexOf_4cfef_16 : decode cJ1_indexOf_4cfef 16 = .ok (.aload_n 0, 1) := by decide +kernel
theorem dJ1_indexOf_4cfef_17 : decode cJ1_indexOf_4cfef 17 = .ok (.arraylength, 1) := by decide +kernel
theorem dJ1_indexOf_4cfef_18 : decode cJ1_indexOf_4cfef 18 = .ok (.invokestatic 38, 3) := by decide +kernel
theorem dJ1_indexOf_4cfef_21 : decode cJ1_indexOf_4cfef 21 = .ok (.istore_n 3, 1) := by decide +kernel
theorem dJ1_indexOf_4cfef_22 : decode cJ1_indexOf_4cfef 22 = .ok (.iload_n 2, 1) := by decide +kernel
theorem dJ1_indexOf_4cfef_23 : decode cJ1_indexOf_4cfef 23 = .ok (.iload_n 3, 1) := by decide +kernel
theorem dJ1_indexOf_4cfef_24 : decode cJ1_indexOf_4cfef 24 = .ok (.if_icmp .lt 5, 3) := by decide +kernel
theorem dJ1_indexOf_4cfef_27 : decode cJ1_indexOf_4cfef 27 = .ok (.iconst (-1), 1) := by decide +kernel
theorem dJ1_indexOf_4cfef_28 : decode cJ1_indexOf_4cfef 28 = .ok (.ireturn, 1) := by decide +kernel
theorem dJ1_indexOf_4cfef_29 : decode cJ1_indexOf_4cfef 29 = .ok (.aload_n 0, 1) := by decide +kernel
theorem dJ1_indexOf_4cfef_30 : decode cJ1_indexOf_4cfef 30 = .ok (.iload_n 1, 1) := by decide +kernel
theorem dJ1_indexOf_4cfef_31 : decode cJ1_indexOf_4cfef 31 = .ok (.iload_n 2, 1) := by decide +kernel
theorem dJ1_indexOf_4cfef_32 : decode cJ1_indexOf_4cfef 32 = .ok (.iload_n 3, 1) := by decide +kernel
theorem dJ1_indexOf_4cfef_33 : decode cJ1_indexOf_4cfef 33 = .ok (.invokestatic 95, 3) := by decide +kernel
theorem dJ1_indexOf_4cfef_36 : decode cJ1_indexOf_4cfef 36 = .ok (.ireturn, 1) := by decide +kernel
theorem dJ1_indexOfChar_4cfef_0 : decode cJ1_indexOfChar_4cfef 0 = .ok (.iload_n 1, 1) := by decide +kernel
theorem dJ1_indexOfChar_4cfef_1 : decode cJ1_indexOfChar_4cfef 1 = .ok (.i2b, 1) := by decide +kernel
theorem dJ1_indexOfChar_4cfef_2 : decode cJ1_indexOfChar_4cfef 2 = .ok (.istore 4, 2) := by decide +kernel
theorem dJ1_indexOfChar_4cfef_4 : decode cJ1_indexOfChar_4cfef 4 = .ok (.iload_n 2, 1) := by decide +kernel
theorem dJ1_indexOfChar_4cfef_5 : decode cJ1_indexOfChar_4cfef 5 = .ok (.istore 5, 2) := by decide +kernel
theorem dJ1_indexOfChar_4cfef_7 : decode cJ1_indexOfChar_4cfef 7 = .ok (.iload 5, 2) := by decide +kernel
theorem dJ1_indexOfChar_4cfef_9 : decode cJ1_indexOfChar_4cfef 9 = .ok (.iload_n 3, 1) := by decide +kernel
theorem dJ1_indexOfChar_4cfef_10 : decode cJ1_indexOfChar_4cfef 10 = .ok (.if_icmp .ge 21, 3) := by decide +kernel
theorem dJ1_indexOfChar_4cfef_13 : decode cJ1_indexOfChar_4cfef 13 = .ok (.aload_n 0, 1) := by decide +kernel
theorem dJ1_indexOfChar_4cfef_14 : decode cJ1_indexOfChar_4cfef 14 = .ok (.iload 5, 2) := by decide +kernel
theorem dJ1_indexOfChar_4cfef_16 : decode cJ1_indexOfChar_4cfef 16 = .ok (.baload, 1) := by decide +kernel
theorem dJ1_indexOfChar_4cfef_17 : decode cJ1_indexOfChar_4cfef 17 = .ok (.iload 4, 2) := by decide +kernel
theorem dJ1_indexOfChar_4cfef_19 : decode cJ1_indexOfChar_4cfef 19 = .ok (.if_icmp .ne 6, 3) := by decide +kernel
theorem dJ1_indexOfChar_4cfef_22 : decode cJ1_indexOfChar_4cfef 22 = .ok (.iload 5, 2) := by decide +kernel
theorem dJ1_indexOfChar_4cfef_24 : decode cJ1_indexOfChar_4cfef 24 = .ok (.ireturn, 1) := by decide +kernel
theorem dJ1_indexOfChar_4cfef_25 : decode cJ1_indexOfChar_4cfef 25 = .ok (.iinc 5 1, 3) := by decide +kernel
theorem dJ1_indexOfChar_4cfef_28 : decode cJ1_indexOfChar_4cfef 28 = .ok (.goto (-21), 3) := by decide +kernel
theorem dJ1_indexOfChar_4cfef_31 : decode cJ1_indexOfChar_4cfef 31 = .ok (.iconst (-1), 1) := by decide +kernel
theorem dJ1_indexOfChar_4cfef_32 : decode cJ1_indexOfChar_4cfef 32 = .ok (.ireturn, 1) := by decide +kernel
theorem dL_law_0 : decode cL_law 0 = .ok (.new 7, 3) := by decide +kernel
theorem dL_law_3 : decode cL_law 3 = .ok (.dup, 1) := by decide +kernel
theorem dL_law_4 : decode cL_law 4 = .ok (.invokespecial 9, 3) := by decide +kernel
theorem dL_law_7 : decode cL_law 7 = .ok (.astore_n 1, 1) := by decide +kernel
theorem dL_law_8 : decode cL_law 8 = .ok (.new 10, 3) := by decide +kernel
theorem dL_law_11 : decode cL_law 11 = .ok (.dup, 1) := by decide +kernel
theorem dL_law_12 : decode cL_law 12 = .ok (.invokespecial 12, 3) := by decide +kernel
theorem dL_law_15 : decode cL_law 15 = .ok (.astore_n 2, 1) := by decide +kernel
theorem dL_law_16 : decode cL_law 16 = .ok (.iconst 0, 1) := by decide +kernel
theorem dL_law_17 : decode cL_law 17 = .ok (.istore_n 3, 1) := by decide +kernel
theorem dL_law_18 : decode cL_law 18 = .ok (.iload_n 3, 1) := by decide +kernel
theorem dL_law_19 : decode cL_law 19 = .ok (.aload_n 0, 1) := by decide +kernel
theorem dL_law_20 : decode cL_law 20 = .ok (.arraylength, 1) := by decide +kernel
theorem dL_law_21 : decode cL_law 21 = .ok (.bipush 7, 2) := by decide +kernel
theorem dL_law_23 : decode cL_law 23 = .ok (.isub, 1) := by decide +kernel
theorem dL_law_24 : decode cL_law 24 = .ok (.if_icmp .gt 1156, 3) := by decide +kernel
theorem dL_law_27 : decode cL_law 27 = .ok (.aload_n 0, 1) := by decide +kernel
theorem dL_law_28 : decode cL_law 28 = .ok (.iload_n 3, 1) := by decide +kernel
theorem dL_law_29 : decode cL_law 29 = .ok (.iaload, 1) := by decide +kernel
theorem dL_law_30 : decode cL_law 30 = .ok (.bipush 31, 2) := by decide +kernel
theorem dL_law_32 : decode cL_law 32 = .ok (.iand, 1) := by decide +kernel
theorem dL_law_33 : decode cL_law 33 = .ok (.tableswitch 1141 0 31 #[143, 176, 219, 252, 275, 298, 311, 334, 357, 380, 413, 436, 449, 472, 505, 528, 551, 564, 597, 620, 653, 666, 689, 722, 765, 778, 791, 866, 929, 972, 995, 1078], 143) := by decide +kernel
theorem dL_law_176 : decode cL_law 176 = .ok (.aload_n 1, 1) := by decide +kernel
theorem dL_law_177 : decode cL_law 177 = .ok (.aload_n 0, 1) := by decide +kernel
theorem dL_law_178 : decode cL_law 178 = .ok (.iload_n 3, 1) := by decide +kernel
theorem dL_law_179 : decode cL_law 179 = .ok (.iconst 1, 1) := by decide +kernel
theorem dL_law_180 : decode cL_law 180 = .ok (.iadd, 1) := by decide +kernel
theorem dL_law_181 : decode cL_law 181 = .ok (.iaload, 1) := by decide +kernel
theorem dL_law_182 : decode cL_law 182 = .ok (.aload_n 0, 1) := by decide +kernel
theorem dL_law_183 : decode cL_law 183 = .ok (.iload_n 3, 1) := by decide +kernel
theorem dL_law_184 : decode cL_law 184 = .ok (.iconst 2, 1) := by decide +kernel
theorem dL_law_185 : decode cL_law 185 = .ok (.iadd, 1) := by decide +kernel
theorem dL_law_186 : decode cL_law 186 = .ok (.iaload, 1) := by decide +kernel
theorem dL_law_187 : decode cL_law 187 = .ok (.invokevirtual 13, 3) := by decide +kernel
theorem dL_law_190 : decode cL_law 190 = .ok (.aload_n 2, 1) := by decide +kernel
theorem dL_law_191 : decode cL_law 191 = .ok (.aload_n 0, 1) := by decide +kernel
theorem dL_law_192 : decode cL_law 192 = .ok (.iload_n 3, 1) := by decide +kernel
theorem dL_law_193 : decode cL_law 193 = .ok (.iconst 1, 1) := by decide +kernel
theorem dL_law_194 : decode cL_law 194 = .ok (.iadd, 1) := by decide +kernel
theorem dL_law_195 : decode cL_law 195 = .ok (.iaload, 1) := by decide +kernel
theorem dL_law_196 : decode cL_law 196 = .ok (.aload_n 0, 1) := by decide +kernel
theorem dL_law_197 : decode cL_law 197 = .ok (.iload_n 3, 1) := by decide +kernel
theorem dL_law_198 : decode cL_law 198 = .ok (.iconst 2, 1) := by decide +kernel
theorem dL_law_199 : decode cL_law 199 = .ok (.iadd, 1) := by decide +kernel
theorem dL_law_200 : decode cL_law 200 = .ok (.iaload, 1) := by decide +kernel
theorem dL_law_201 : decode cL_law 201 = .ok (.invokevirtual 17, 3) := by decide +kernel
theorem dL_law_204 : decode cL_law 204 = .ok (.if_icmp .eq 970, 3) := by decide +kernel
theorem dL_law_207 : decode cL_law 207 = .ok (.iconst 0, 1) := by decide +kernel
theorem dL_law_208 : decode cL_law 208 = .ok (.ireturn, 1) := by decide +kernel
theorem dL_law_209 : decode cL_law 209 = .ok (.aload_n 1, 1) := by decide +kernel
theorem dL_law_210 : decode cL_law 210 = .ok (.aload_n 0, 1) := by decide +kernel
theorem dL_law_211 : decode cL_law 211 = .ok (.iload_n 3, 1) := by decide +kernel
theorem dL_law_212 : decode cL_law 212 = .ok (.iconst 1, 1) := by decide +kernel
theorem dL_law_213 : decode cL_law 213 = .ok (.iadd, 1) := by decide +kernel
theorem dL_law_214 : decode cL_law 214 = .ok (.iaload, 1) := by decide +kernel
theorem dL_law_215 : decode cL_law 215 = .ok (.aload_n 0, 1) := by decide +kernel
theorem dL_law_216 : decode cL_law 216 = .ok (.iload_n 3, 1) := by decide +kernel
theorem dL_law_217 : decode cL_law 217 = .ok (.iconst 2, 1) := by decide +kernel
theorem dL_law_218 : decode cL_law 218 = .ok (.iadd, 1) := by decide +kernel
theorem dL_law_219 : decode cL_law 219 = .ok (.iaload, 1) := by decide +kernel
theorem dL_law_220 : decode cL_law 220 = .ok (.aload_n 0, 1) := by decide +kernel
theorem dL_law_221 : decode cL_law 221 = .ok (.iload_n 3, 1) := by decide +kernel
theorem dL_law_222 : decode cL_law 222 = .ok (.iconst 3, 1) := by decide +kernel
theorem dL_law_223 : decode cL_law 223 = .ok (.iadd, 1) := by decide +kernel
theorem dL_law_224 : decode cL_law 224 = .ok (.iaload, 1) := by decide +kernel
theorem dL_law_225 : decode cL_law 225 = .ok (.invokevirtual 18, 3) := by decide +kernel
theorem dL_law_228 : decode cL_law 228 = .ok (.aload_n 2, 1) := by decide +kernel
theorem dL_law_229 : decode cL_law 229 = .ok (.aload_n 0, 1) := by decide +kernel
theorem dL_law_230 : decode cL_law 230 = .ok (.iload_n 3, 1) := by decide +kernel
theorem dL_law_231 : decode cL_law 231 = .ok (.iconst 1, 1) := by decide +kernel
theorem dL_law_232 : decode cL_law 232 = .ok (.iadd, 1) := by decide +kernel
theorem dL_law_233 : decode cL_law 233 = .ok (.iaload, 1) := by decide +kernel
theorem dL_law_234 : decode cL_law 234 = .ok (.aload_n 0, 1) := by decide +kernel
theorem dL_law_235 : decode cL_law 235 = .ok (.iload_n 3, 1) := by decide +kernel
theorem dL_law_236 : decode cL_law 236 = .ok (.iconst 2, 1) := by decide +kernel
theorem dL_law_237 : decode cL_law 237 = .ok (.iadd, 1) := by decide +kernel
theorem dL_law_238 : decode cL_law 238 = .ok (.iaload, 1) := by decide +kernel
theorem dL_law_239 : decode cL_law 239 = .ok (.aload_n 0, 1) := by decide +kernel
theorem dL_law_240 : decode cL_law 240 = .ok (.iload_n 3, 1) := by decide +kernel
theorem dL_law_241 : decode cL_law 241 = .ok (.iconst 3, 1) := by decide +kernel
theorem dL_law_242 : decode cL_law 242 = .ok (.iadd, 1) := by decide +kernel
theorem dL_law_243 : decode cL_law 243 = .ok (.iaload, 1) := by decide +kernel
theorem dL_law_244 : decode cL_law 244 = .ok (.invokevirtual 22, 3) := by decide +kernel
theorem dL_law_247 : decode cL_law 247 = .ok (.if_icmp .eq 927, 3) := by decide +kernel
theorem dL_law_250 : decode cL_law 250 = .ok (.iconst 0, 1) := by decide +kernel
theorem dL_law_251 : decode cL_law 251 = .ok (.ireturn, 1) := by decide +kernel
theorem dL_law_252 : decode cL_law 252 = .ok (.aload_n 1, 1) := by decide +kernel
theorem dL_law_253 : decode cL_law 253 = .ok (.aload_n 0, 1) := by decide +kernel
theorem dL_law_254 : decode cL_law 254 = .ok (.iload_n 3, 1) := by decide +kernel
theorem dL_law_255 : decode cL_law 255 = .ok (.iconst 1, 1) := by decide +kernel
theorem dL_law_256 : decode cL_law 256 = .ok (.iadd, 1) := by decide +kernel
theorem dL_law_257 : decode cL_law 257 = .ok (.iaload, 1) := by decide +kernel
theorem dL_law_258 : decode cL_law 258 = .ok (.aload_n 0, 1) := by decide +kernel
theorem dL_law_259 : decode cL_law 259 = .ok (.iload_n 3, 1) := by decide +kernel
theorem dL_law_260 : decode cL_law 260 = .ok (.iconst 2, 1) := by decide +kernel
theorem dL_law_261 : decode cL_law 261 = .ok (.iadd, 1) := by decide +kernel
theorem dL_law_262 : decode cL_law 262 = .ok (.iaload, 1) := by decide +kernel
theorem dL_law_263 : decode cL_law 263 = .ok (.invokevirtual 23, 3) := by decide +kernel
theorem dL_law_266 : decode cL_law 266 = .ok (.aload_n 2, 1) := by decide +kernel
theorem dL_law_267 : decode cL_law 267 = .ok (.aload_n 0, 1) := by decide +kernel
theorem dL_law_268 : decode cL_law 268 = .ok (.iload_n 3, 1) := by decide +kernel
theorem dL_law_269 : decode cL_law 269 = .ok (.iconst 1, 1) := by decide +kernel
theorem dL_law_270 : decode cL_law 270 = .ok (.iadd, 1) := by decide +kernel
theorem dL_law_271 : decode cL_law 271 = .ok (.iaload, 1) := by decide +kernel
theorem dL_law_272 : decode cL_law 272 = .ok (.aload_n 0, 1) := by decide +kernel
theorem dL_law_273 : decode cL_law 273 = .ok (.iload_n 3, 1) := by decide +kernel
theorem dL_law_274 : decode cL_law 274 = .ok (.iconst 2, 1) := by decide +kernel
theorem dL_law_275 : decode cL_law 275 = .ok (.iadd, 1) := by decide +kernel
theorem dL_law_276 : decode cL_law 276 = .ok (.iaload, 1) := by decide +kernel
theorem dL_law_277 : decode cL_law 277 = .ok (.invokevirtual 26, 3) := by decide +kernel
theorem dL_law_280 : decode cL_law 280 = .ok (.if_icmp .eq 894, 3) := by decide +kernel
theorem dL_law_283 : decode cL_law 283 = .ok (.iconst 0, 1) := by decide +kernel
theorem dL_law_284 : decode cL_law 284 = .ok (.ireturn, 1) := by decide +kernel
theorem dL_law_285 : decode cL_law 285 = .ok (.aload_n 1, 1) := by decide +kernel
theorem dL_law_286 : decode cL_law 286 = .ok (.aload_n 0, 1) := by decide +kernel
theorem dL_law_287 : decode cL_law 287 = .ok (.iload_n 3, 1) := by decide +kernel
theorem dL_law_288 : decode cL_law 288 = .ok (.iconst 1, 1) := by decide +kernel
theorem dL_law_289 : decode cL_law 289 = .ok (.iadd, 1) := by decide +kernel
theorem dL_law_290 : decode cL_law 290 = .ok (.iaload, 1) := by decide +kernel
theorem dL_law_291 : decode cL_law 291 = .ok (.invokevirtual 27, 3) := by decide +kernel
theorem dL_law_294 : decode cL_law 294 = .ok (.aload_n 2, 1) := by decide +kernel
theorem dL_law_295 : decode cL_law 295 = .ok (.aload_n 0, 1) := by decide +kernel
theorem dL_law_296 : decode cL_law 296 = .ok (.iload_n 3, 1) := by decide +kernel
theorem dL_law_297 : decode cL_law 297 = .ok (.iconst 1, 1) := by decide +kernel
theorem dL_law_298 : decode cL_law 298 = .ok (.iadd, 1) := by decide +kernel
theorem dL_law_299 : decode cL_law 299 = .ok (.iaload, 1) := by decide +kernel
theorem dL_law_300 : decode cL_law 300 = .ok (.invokevirtual 31, 3) := by decide +kernel
theorem dL_law_303 : decode cL_law 303 = .ok (.if_icmp .eq 871, 3) := by decide +kernel
theorem dL_law_306 : decode cL_law 306 = .ok (.iconst 0, 1) := by decide +kernel
theorem dL_law_307 : decode cL_law 307 = .ok (.ireturn, 1) := by decide +kernel
theorem dL_law_308 : decode cL_law 308 = .ok (.aload_n 1, 1) := by decide +kernel
theorem dL_law_309 : decode cL_law 309 = .ok (.aload_n 0, 1) := by decide +kernel
theorem dL_law_310 : decode cL_law 310 = .ok (.iload_n 3, 1) := by decide +kernel
theorem dL_law_311 : decode cL_law 311 = .ok (.iconst 1, 1) := by decide +kernel
theorem dL_law_312 : decode cL_law 312 = .ok (.iadd, 1) := by decide +kernel
theorem dL_law_313 : decode cL_law 313 = .ok (.iaload, 1) := by decide +kernel
theorem dL_law_314 : decode cL_law 314 = .ok (.invokevirtual 32, 3) := by decide +kernel
theorem dL_law_317 : decode cL_law 317 = .ok (.aload_n 2, 1) := by decide +kernel
theorem dL_law_318 : decode cL_law 318 = .ok (.aload_n 0, 1) := by decide +kernel
theorem dL_law_319 : decode cL_law 319 = .ok (.iload_n 3, 1) := by decide +kernel
theorem dL_law_320 : decode cL_law 320 = .ok (.iconst 1, 1) := by decide +kernel
theorem dL_law_321 : decode cL_law 321 = .ok (.iadd, 1) := by decide +kernel
theorem dL_law_322 : decode cL_law 322 = .ok (.iaload, 1) := by decide +kernel
theorem dL_law_323 : decode cL_law 323 = .ok (.invokevirtual 35, 3) := by decide +kernel
theorem dL_law_326 : decode cL_law 326 = .ok (.if_icmp .eq 848, 3) := by decide +kernel
theorem dL_law_329 : decode cL_law 329 = .ok (.iconst 0, 1) := by decide +kernel
theorem dL_law_330 : decode cL_law 330 = .ok (.ireturn, 1) := by decide +kernel
theorem dL_law_331 : decode cL_law 331 = .ok (.aload_n 1, 1) := by decide +kernel
theorem dL_law_332 : decode cL_law 332 = .ok (.invokevirtual 36, 3) := by decide +kernel
theorem dL_law_335 : decode cL_law 335 = .ok (.aload_n 2, 1) := by decide +kernel
theorem dL_law_336 : decode cL_law 336 = .ok (.invokevirtual 40, 3) := by decide +kernel
theorem dL_law_339 : decode cL_law 339 = .ok (.if_icmp .eq 835, 3) := by decide +kernel
theorem dL_law_342 : decode cL_law 342 = .ok (.iconst 0, 1) := by decide +kernel
theorem dL_law_343 : decode cL_law 343 = .ok (.ireturn, 1) := by decide +kernel
theorem dL_law_344 : decode cL_law 344 = .ok (.aload_n 1, 1) := by decide +kernel
theorem dL_law_345 : decode cL_law 345 = .ok (.aload_n 0, 1) := by decide +kernel
theorem dL_law_346 : decode cL_law 346 = .ok (.iload_n 3, 1) := by decide +kernel
theorem dL_law_347 : decode cL_law 347 = .ok (.iconst 1, 1) := by decide +kernel
theorem dL_law_348 : decode cL_law 348 = .ok (.iadd, 1) := by decide +kernel
theorem dL_law_349 : decode cL_law 349 = .ok (.iaload, 1) := by decide +kernel
theorem dL_law_350 : decode cL_law 350 = .ok (.invokevirtual 41, 3) := by decide +kernel
theorem dL_law_353 : decode cL_law 353 = .ok (.aload_n 2, 1) := by decide +kernel
theorem dL_law_354 : decode cL_law 354 = .ok (.aload_n 0, 1) := by decide +kernel
theorem dL_law_355 : decode cL_law 355 = .ok (.iload_n 3, 1) := by decide +kernel
theorem dL_law_356 : decode cL_law 356 = .ok (.iconst 1, 1) := by decide +kernel
theorem dL_law_357 : decode cL_law 357 = .ok (.iadd, 1) := by decide +kernel
theorem dL_law_358 : decode cL_law 358 = .ok (.iaload, 1) := by decide +kernel
theorem dL_law_359 : decode cL_law 359 = .ok (.invokevirtual 44, 3) := by decide +kernel
theorem dL_law_362 : decode cL_law 362 = .ok (.if_icmp .eq 812, 3) := by decide +kernel
theorem dL_law_365 : decode cL_law 365 = .ok (.iconst 0, 1) := by decide +kernel
theorem dL_law_366 : decode cL_law 366 = .ok (.ireturn, 1) := by decide +kernel
theorem dL_law_367 : decode cL_law 367 = .ok (.aload_n 1, 1) := by decide +kernel
theorem dL_law_368 : decode cL_law 368 = .ok (.aload_n 0, 1) := by decide +kernel
theorem dL_law_369 : decode cL_law 369 = .ok (.iload_n 3, 1) := by decide +kernel
theorem dL_law_370 : decode cL_law 370 = .ok (.iconst 1, 1) := by decide +kernel
theorem dL_law_371 : decode cL_law 371 = .ok (.iadd, 1) := by decide +kernel
theorem dL_law_372 : decode cL_law 372 = .ok (.iaload, 1) := by decide +kernel
theorem dL_law_373 : decode cL_law 373 = .ok (.invokevirtual 45, 3) := by decide +kernel
theorem dL_law_376 : decode cL_law 376 = .ok (.aload_n 2, 1) := by decide +kernel
theorem dL_law_377 : decode cL_law 377 = .ok (.aload_n 0, 1) := by decide +kernel
theorem dL_law_378 : decode cL_law 378 = .ok (.iload_n 3, 1) := by decide +kernel
theorem dL_law_379 : decode cL_law 379 = .ok (.iconst 1, 1) := by decide +kernel
theorem dL_law_380 : decode cL_law 380 = .ok (.iadd, 1) := by decide +kernel
theorem dL_law_381 : decode cL_law 381 = .ok (.iaload, 1) := by decide +kernel
theorem dL_law_382 : decode cL_law 382 = .ok (.invokevirtual 48, 3) := by decide +kernel
theorem dL_law_385 : decode cL_law 385 = .ok (.if_icmp .eq 789, 3) := by decide +kernel
theorem dL_law_388 : decode cL_law 388 = .ok (.iconst 0, 1) := by decide +kernel
theorem dL_law_389 : decode cL_law 389 = .ok (.ireturn, 1) := by decide +kernel
theorem dL_law_390 : decode cL_law 390 = .ok (.aload_n 1, 1) := by decide +kernel
theorem dL_law_391 : decode cL_law 391 = .ok (.aload_n 0, 1) := by decide +kernel
theorem dL_law_392 : decode cL_law 392 = .ok (.iload_n 3, 1) := by decide +kernel
theorem dL_law_393 : decode cL_law 393 = .ok (.iconst 1, 1) := by decide +kernel
theorem dL_law_394 : decode cL_law 394 = .ok (.iadd, 1) := by decide +kernel
theorem dL_law_395 : decode cL_law 395 = .ok (.iaload, 1) := by decide +kernel
theorem dL_law_396 : decode cL_law 396 = .ok (.invokevirtual 49, 3) := by decide +kernel
theorem dL_law_399 : decode cL_law 399 = .ok (.aload_n 2, 1) := by decide +kernel
theorem dL_law_400 : decode cL_law 400 = .ok (.aload_n 0, 1) := by decide +kernel
theorem dL_law_401 : decode cL_law 401 = .ok (.iload_n 3, 1) := by decide +kernel
theorem dL_law_402 : decode cL_law 402 = .ok (.iconst 1, 1) := by decide +kernel
theorem dL_law_403 : decode cL_law 403 = .ok (.iadd, 1) := by decide +kernel
theorem dL_law_404 : decode cL_law 404 = .ok (.iaload, 1) := by decide +kernel
theorem dL_law_405 : decode cL_law 405 = .ok (.invokevirtual 52, 3) := by decide +kernel
theorem dL_law_408 : decode cL_law 408 = .ok (.if_icmp .eq 766, 3) := by decide +kernel
theorem dL_law_411 : decode cL_law 411 = .ok (.iconst 0, 1) := by decide +kernel
theorem dL_law_412 : decode cL_law 412 = .ok (.ireturn, 1) := by decide +kernel
theorem dL_law_413 : decode cL_law 413 = .ok (.aload_n 1, 1) := by decide +kernel
theorem dL_law_414 : decode cL_law 414 = .ok (.aload_n 0, 1) := by decide +kernel
theorem dL_law_415 : decode cL_law 415 = .ok (.iload_n 3, 1) := by decide +kernel
theorem dL_law_416 : decode cL_law 416 = .ok (.iconst 1, 1) := by decide +kernel
theorem dL_law_417 : decode cL_law 417 = .ok (.iadd, 1) := by decide +kernel
theorem dL_law_418 : decode cL_law 418 = .ok (.iaload, 1) := by decide +kernel
theorem dL_law_419 : decode cL_law 419 = .ok (.aload_n 0, 1) := by decide +kernel
theorem dL_law_420 : decode cL_law 420 = .ok (.iload_n 3, 1) := by decide +kernel
theorem dL_law_421 : decode cL_law 421 = .ok (.iconst 2, 1) := by decide +kernel
theorem dL_law_422 : decode cL_law 422 = .ok (.iadd, 1) := by decide +kernel
theorem dL_law_423 : decode cL_law 423 = .ok (.iaload, 1) := by decide +kernel
theorem dL_law_424 : decode cL_law 424 = .ok (.invokevirtual 53, 3) := by decide +kernel
theorem dL_law_427 : decode cL_law 427 = .ok (.aload_n 2, 1) := by decide +kernel
theorem dL_law_428 : decode cL_law 428 = .ok (.aload_n 0, 1) := by decide +kernel
theorem dL_law_429 : decode cL_law 429 = .ok (.iload_n 3, 1) := by decide +kernel
theorem dL_law_430 : decode cL_law 430 = .ok (.iconst 1, 1) := by decide +kernel
theorem dL_law_431 : decode cL_law 431 = .ok (.iadd, 1) := by decide +kernel
theorem dL_law_432 : decode cL_law 432 = .ok (.iaload, 1) := by decide +kernel
theorem dL_law_433 : decode cL_law 433 = .ok (.aload_n 0, 1) := by decide +kernel
theorem dL_law_434 : decode cL_law 434 = .ok (.iload_n 3, 1) := by decide +kernel
theorem dL_law_435 : decode cL_law 435 = .ok (.iconst 2, 1) := by decide +kernel
theorem dL_law_436 : decode cL_law 436 = .ok (.iadd, 1) := by decide +kernel
theorem dL_law_437 : decode cL_law 437 = .ok (.iaload, 1) := by decide +kernel
theorem dL_law_438 : decode cL_law 438 = .ok (.invokevirtual 56, 3) := by decide +kernel
theorem dL_law_441 : decode cL_law 441 = .ok (.if_icmp .eq 733, 3) := by decide +kernel
theorem dL_law_444 : decode cL_law 444 = .ok (.iconst 0, 1) := by decide +kernel
theorem dL_law_445 : decode cL_law 445 = .ok (.ireturn, 1) := by decide +kernel
theorem dL_law_446 : decode cL_law 446 = .ok (.aload_n 1, 1) := by decide +kernel
theorem dL_law_447 : decode cL_law 447 = .ok (.aload_n 0, 1) := by decide +kernel
theorem dL_law_448 : decode cL_law 448 = .ok (.iload_n 3, 1) := by decide +kernel
theorem dL_law_449 : decode cL_law 449 = .ok (.iconst 1, 1) := by decide +kernel
theorem dL_law_450 : decode cL_law 450 = .ok (.iadd, 1) := by decide +kernel
theorem dL_law_451 : decode cL_law 451 = .ok (.iaload, 1) := by decide +kernel
theorem dL_law_452 : decode cL_law 452 = .ok (.invokevirtual 57, 3) := by decide +kernel
theorem dL_law_455 : decode cL_law 455 = .ok (.aload_n 2, 1) := by decide +kernel
theorem dL_law_456 : decode cL_law 456 = .ok (.aload_n 0, 1) := by decide +kernel
theorem dL_law_457 : decode cL_law 457 = .ok (.iload_n 3, 1) := by decide +kernel
theorem dL_law_458 : decode cL_law 458 = .ok (.iconst 1, 1) := by decide +kernel
theorem dL_law_459 : decode cL_law 459 = .ok (.iadd, 1) := by decide +kernel
theorem dL_law_460 : decode cL_law 460 = .ok (.iaload, 1) := by decide +kernel
theorem dL_law_461 : decode cL_law 461 = .ok (.invokevirtual 60, 3) := by decide +kernel
theorem dL_law_464 : decode cL_law 464 = .ok (.if_icmp .eq 710, 3) := by decide +kernel
theorem dL_law_467 : decode cL_law 467 = .ok (.iconst 0, 1) := by decide +kernel
theorem dL_law_468 : decode cL_law 468 = .ok (.ireturn, 1) := by decide +kernel
theorem dL_law_469 : decode cL_law 469 = .ok (.aload_n 1, 1) := by decide +kernel
theorem dL_law_470 : decode cL_law 470 = .ok (.invokevirtual 61, 3) := by decide +kernel
theorem dL_law_473 : decode cL_law 473 = .ok (.aload_n 2, 1) := by decide +kernel
theorem dL_law_474 : decode cL_law 474 = .ok (.invokevirtual 64, 3) := by decide +kernel
theorem dL_law_477 : decode cL_law 477 = .ok (.if_icmp .eq 697, 3) := by decide +kernel
theorem dL_law_480 : decode cL_law 480 = .ok (.iconst 0, 1) := by decide +kernel
theorem dL_law_481 : decode cL_law 481 = .ok (.ireturn, 1) := by decide +kernel
theorem dL_law_482 : decode cL_law 482 = .ok (.aload_n 1, 1) := by decide +kernel
theorem dL_law_483 : decode cL_law 483 = .ok (.aload_n 0, 1) := by decide +kernel
theorem dL_law_484 : decode cL_law 484 = .ok (.iload_n 3, 1) := by decide +kernel
theorem dL_law_485 : decode cL_law 485 = .ok (.iconst 1, 1) := by decide +kernel
theorem dL_law_486 : decode cL_law 486 = .ok (.iadd, 1) := by decide +kernel
theorem dL_law_487 : decode cL_law 487 = .ok (.iaload, 1) := by decide +kernel
theorem dL_law_488 : decode cL_law 488 = .ok (.invokevirtual 65, 3) := by decide +kernel
theorem dL_law_491 : decode cL_law 491 = .ok (.aload_n 2, 1) := by decide +kernel
theorem dL_law_492 : decode cL_law 492 = .ok (.aload_n 0, 1) := by decide +kernel
theorem dL_law_493 : decode cL_law 493 = .ok (.iload_n 3, 1) := by decide +kernel
theorem dL_law_494 : decode cL_law 494 = .ok (.iconst 1, 1) := by decide +kernel
theorem dL_law_495 : decode cL_law 495 = .ok (.iadd, 1) := by decide +kernel
theorem dL_law_496 : decode cL_law 496 = .ok (.iaload, 1) := by decide +kernel
theorem dL_law_497 : decode cL_law 497 = .ok (.invokevirtual 68, 3) := by decide +kernel
theorem dL_law_500 : decode cL_law 500 = .ok (.if_icmp .eq 674, 3) := by decide +kernel
theorem dL_law_503 : decode cL_law 503 = .ok (.iconst 0, 1) := by decide +kernel
theorem dL_law_504 : decode cL_law 504 = .ok (.ireturn, 1) := by decide +kernel
theorem dL_law_505 : decode cL_law 505 = .ok (.aload_n 1, 1) := by decide +kernel
theorem dL_law_506 : decode cL_law 506 = .ok (.aload_n 0, 1) := by decide +kernel
theorem dL_law_507 : decode cL_law 507 = .ok (.iload_n 3, 1) := by decide +kernel
theorem dL_law_508 : decode cL_law 508 = .ok (.iconst 1, 1) := by decide +kernel
theorem dL_law_509 : decode cL_law 509 = .ok (.iadd, 1) := by decide +kernel
theorem dL_law_510 : decode cL_law 510 = .ok (.iaload, 1) := by decide +kernel
theorem dL_law_511 : decode cL_law 511 = .ok (.aload_n 0, 1) := by decide +kernel
theorem dL_law_512 : decode cL_law 512 = .ok (.iload_n 3, 1) := by decide +kernel
theorem dL_law_513 : decode cL_law 513 = .ok (.iconst 2, 1) := by decide +kernel
theorem dL_law_514 : decode cL_law 514 = .ok (.iadd, 1) := by decide +kernel
theorem dL_law_515 : decode cL_law 515 = .ok (.iaload, 1) := by decide +kernel
theorem dL_law_516 : decode cL_law 516 = .ok (.invokevirtual 69, 3) := by decide +kernel
theorem dL_law_519 : decode cL_law 519 = .ok (.aload_n 2, 1) := by decide +kernel
theorem dL_law_520 : decode cL_law 520 = .ok (.aload_n 0, 1) := by decide +kernel
theorem dL_law_521 : decode cL_law 521 = .ok (.iload_n 3, 1) := by decide +kernel
theorem dL_law_522 : decode cL_law 522 = .ok (.iconst 1, 1) := by decide +kernel
theorem dL_law_523 : decode cL_law 523 = .ok (.iadd, 1) := by decide +kernel
theorem dL_law_524 : decode cL_law 524 = .ok (.iaload, 1) := by decide +kernel
theorem dL_law_525 : decode cL_law 525 = .ok (.aload_n 0, 1) := by decide +kernel
theorem dL_law_526 : decode cL_law 526 = .ok (.iload_n 3, 1) := by decide +kernel
theorem dL_law_527 : decode cL_law 527 = .ok (.iconst 2, 1) := by decide +kernel
theorem dL_law_528 : decode cL_law 528 = .ok (.iadd, 1) := by decide +kernel
theorem dL_law_529 : decode cL_law 529 = .ok (.iaload, 1) := by decide +kernel
theorem dL_law_530 : decode cL_law 530 = .ok (.invokevirtual 72, 3) := by decide +kernel
theorem dL_law_533 : decode cL_law 533 = .ok (.if_icmp .eq 641, 3) := by decide +kernel
theorem dL_law_536 : decode cL_law 536 = .ok (.iconst 0, 1) := by decide +kernel
theorem dL_law_537 : decode cL_law 537 = .ok (.ireturn, 1) := by decide +kernel
theorem dL_law_538 : decode cL_law 538 = .ok (.aload_n 1, 1) := by decide +kernel
theorem dL_law_539 : decode cL_law 539 = .ok (.aload_n 0, 1) := by decide +kernel
theorem dL_law_540 : decode cL_law 540 = .ok (.iload_n 3, 1) := by decide +kernel
theorem dL_law_541 : decode cL_law 541 = .ok (.iconst 1, 1) := by decide +kernel
theorem dL_law_542 : decode cL_law 542 = .ok (.iadd, 1) := by decide +kernel
theorem dL_law_543 : decode cL_law 543 = .ok (.iaload, 1) := by decide +kernel
theorem dL_law_544 : decode cL_law 544 = .ok (.invokevirtual 73, 3) := by decide +kernel
theorem dL_law_547 : decode cL_law 547 = .ok (.aload_n 2, 1) := by decide +kernel
theorem dL_law_548 : decode cL_law 548 = .ok (.aload_n 0, 1) := by decide +kernel
theorem dL_law_549 : decode cL_law 549 = .ok (.iload_n 3, 1) := by decide +kernel
theorem dL_law_550 : decode cL_law 550 = .ok (.iconst 1, 1) := by decide +kernel
theorem dL_law_551 : decode cL_law 551 = .ok (.iadd, 1) := by decide +kernel
theorem dL_law_552 : decode cL_law 552 = .ok (.iaload, 1) := by decide +kernel
theorem dL_law_553 : decode cL_law 553 = .ok (.invokevirtual 76, 3) := by decide +kernel
theorem dL_law_556 : decode cL_law 556 = .ok (.if_icmp .eq 618, 3) := by decide +kernel
theorem dL_law_559 : decode cL_law 559 = .ok (.iconst 0, 1) := by decide +kernel
theorem dL_law_560 : decode cL_law 560 = .ok (.ireturn, 1) := by decide +kernel
theorem dL_law_561 : decode cL_law 561 = .ok (.aload_n 1, 1) := by decide +kernel
theorem dL_law_562 : decode cL_law 562 = .ok (.aload_n 0, 1) := by decide +kernel
theorem dL_law_563 : decode cL_law 563 = .ok (.iload_n 3, 1) := by decide +kernel
theorem dL_law_564 : decode cL_law 564 = .ok (.iconst 1, 1) := by decide +kernel
theorem dL_law_565 : decode cL_law 565 = .ok (.iadd, 1) := by decide +kernel
theorem dL_law_566 : decode cL_law 566 = .ok (.iaload, 1) := by decide +kernel
theorem dL_law_567 : decode cL_law 567 = .ok (.invokevirtual 77, 3) := by decide +kernel
theorem dL_law_570 : decode cL_law 570 = .ok (.aload_n 2, 1) := by decide +kernel
theorem dL_law_571 : decode cL_law 571 = .ok (.aload_n 0, 1) := by decide +kernel
theorem dL_law_572 : decode cL_law 572 = .ok (.iload_n 3, 1) := by decide +kernel
theorem dL_law_573 : decode cL_law 573 = .ok (.iconst 1, 1) := by decide +kernel
theorem dL_law_574 : decode cL_law 574 = .ok (.iadd, 1) := by decide +kernel
theorem dL_law_575 : decode cL_law 575 = .ok (.iaload, 1) := by decide +kernel
theorem dL_law_576 : decode cL_law 576 = .ok (.invokevirtual 80, 3) := by decide +kernel
theorem dL_law_579 : decode cL_law 579 = .ok (.if_icmp .eq 595, 3) := by decide +kernel
theorem dL_law_582 : decode cL_law 582 = .ok (.iconst 0, 1) := by decide +kernel
theorem dL_law_583 : decode cL_law 583 = .ok (.ireturn, 1) := by decide +kernel
theorem dL_law_584 : decode cL_law 584 = .ok (.aload_n 1, 1) := by decide +kernel
theorem dL_law_585 : decode cL_law 585 = .ok (.invokevirtual 81, 3) := by decide +kernel
theorem dL_law_588 : decode cL_law 588 = .ok (.aload_n 2, 1) := by decide +kernel
theorem dL_law_589 : decode cL_law 589 = .ok (.invokevirtual 84, 3) := by decide +kernel
theorem dL_law_592 : decode cL_law 592 = .ok (.if_icmp .eq 582, 3) := by decide +kernel
theorem dL_law_595 : decode cL_law 595 = .ok (.iconst 0, 1) := by decide +kernel
theorem dL_law_596 : decode cL_law 596 = .ok (.ireturn, 1) := by decide +kernel
theorem dL_law_597 : decode cL_law 597 = .ok (.aload_n 1, 1) := by decide +kernel
theorem dL_law_598 : decode cL_law 598 = .ok (.aload_n 0, 1) := by decide +kernel
theorem dL_law_599 : decode cL_law 599 = .ok (.iload_n 3, 1) := by decide +kernel
theorem dL_law_600 : decode cL_law 600 = .ok (.iconst 1, 1) := by decide +kernel
theorem dL_law_601 : decode cL_law 601 = .ok (.iadd, 1) := by decide +kernel
theorem dL_law_602 : decode cL_law 602 = .ok (.iaload, 1) := by decide +kernel
theorem dL_law_603 : decode cL_law 603 = .ok (.aload_n 0, 1) := by decide +kernel
theorem dL_law_604 : decode cL_law 604 = .ok (.iload_n 3, 1) := by decide +kernel
theorem dL_law_605 : decode cL_law 605 = .ok (.iconst 2, 1) := by decide +kernel
theorem dL_law_606 : decode cL_law 606 = .ok (.iadd, 1) := by decide +kernel
theorem dL_law_607 : decode cL_law 607 = .ok (.iaload, 1) := by decide +kernel
theorem dL_law_608 : decode cL_law 608 = .ok (.invokevirtual 85, 3) := by decide +kernel
theorem dL_law_611 : decode cL_law 611 = .ok (.aload_n 2, 1) := by decide +kernel
theorem dL_law_612 : decode cL_law 612 = .ok (.aload_n 0, 1) := by decide +kernel
theorem dL_law_613 : decode cL_law 613 = .ok (.iload_n 3, 1) := by decide +kernel
theorem dL_law_614 : decode cL_law 614 = .ok (.iconst 1, 1) := by decide +kernel
theorem dL_law_615 : decode cL_law 615 = .ok (.iadd, 1) := by decide +kernel
theorem dL_law_616 : decode cL_law 616 = .ok (.iaload, 1) := by decide +kernel
theorem dL_law_617 : decode cL_law 617 = .ok (.aload_n 0, 1) := by decide +kernel
theorem dL_law_618 : decode cL_law 618 = .ok (.iload_n 3, 1) := by decide +kernel
theorem dL_law_619 : decode cL_law 619 = .ok (.iconst 2, 1) := by decide +kernel
theorem dL_law_620 : decode cL_law 620 = .ok (.iadd, 1) := by decide +kernel
theorem dL_law_621 : decode cL_law 621 = .ok (.iaload, 1) := by decide +kernel
theorem dL_law_622 : decode cL_law 622 = .ok (.invokevirtual 88, 3) := by decide +kernel
theorem dL_law_625 : decode cL_law 625 = .ok (.if_icmp .eq 549, 3) := by decide +kernel
theorem dL_law_628 : decode cL_law 628 = .ok (.iconst 0, 1) := by decide +kernel
theorem dL_law_629 : decode cL_law 629 = .ok (.ireturn, 1) := by decide +kernel
theorem dL_law_630 : decode cL_law 630 = .ok (.aload_n 1, 1) := by decide +kernel
theorem dL_law_631 : decode cL_law 631 = .ok (.aload_n 0, 1) := by decide +kernel
theorem dL_law_632 : decode cL_law 632 = .ok (.iload_n 3, 1) := by decide +kernel
theorem dL_law_633 : decode cL_law 633 = .ok (.iconst 1, 1) := by decide +kernel
theorem dL_law_634 : decode cL_law 634 = .ok (.iadd, 1) := by decide +kernel
theorem dL_law_635 : decode cL_law 635 = .ok (.iaload, 1) := by decide +kernel
theorem dL_law_636 : decode cL_law 636 = .ok (.invokevirtual 89, 3) := by decide +kernel
theorem dL_law_639 : decode cL_law 639 = .ok (.aload_n 2, 1) := by decide +kernel
theorem dL_law_640 : decode cL_law 640 = .ok (.aload_n 0, 1) := by decide +kernel
theorem dL_law_641 : decode cL_law 641 = .ok (.iload_n 3, 1) := by decide +kernel
theorem dL_law_642 : decode cL_law 642 = .ok (.iconst 1, 1) := by decide +kernel
theorem dL_law_643 : decode cL_law 643 = .ok (.iadd, 1) := by decide +kernel
theorem dL_law_644 : decode cL_law 644 = .ok (.iaload, 1) := by decide +kernel
theorem dL_law_645 : decode cL_law 645 = .ok (.invokevirtual 92, 3) := by decide +kernel
theorem dL_law_648 : decode cL_law 648 = .ok (.if_icmp .eq 526, 3) := by decide +kernel
theorem dL_law_651 : decode cL_law 651 = .ok (.iconst 0, 1) := by decide +kernel
theorem dL_law_652 : decode cL_law 652 = .ok (.ireturn, 1) := by decide +kernel
theorem dL_law_653 : decode cL_law 653 = .ok (.aload_n 1, 1) := by decide +kernel
theorem dL_law_654 : decode cL_law 654 = .ok (.aload_n 0, 1) := by decide +kernel
theorem dL_law_655 : decode cL_law 655 = .ok (.iload_n 3, 1) := by decide +kernel
theorem dL_law_656 : decode cL_law 656 = .ok (.iconst 1, 1) := by decide +kernel
theorem dL_law_657 : decode cL_law 657 = .ok (.iadd, 1) := by decide +kernel
theorem dL_law_658 : decode cL_law 658 = .ok (.iaload, 1) := by decide +kernel
theorem dL_law_659 : decode cL_law 659 = .ok (.aload_n 0, 1) := by decide +kernel
theorem dL_law_660 : decode cL_law 660 = .ok (.iload_n 3, 1) := by decide +kernel
theorem dL_law_661 : decode cL_law 661 = .ok (.iconst 2, 1) := by decide +kernel
theorem dL_law_662 : decode cL_law 662 = .ok (.iadd, 1) := by decide +kernel
theorem dL_law_663 : decode cL_law 663 = .ok (.iaload, 1) := by decide +kernel
theorem dL_law_664 : decode cL_law 664 = .ok (.invokevirtual 93, 3) := by decide +kernel
theorem dL_law_667 : decode cL_law 667 = .ok (.aload_n 2, 1) := by decide +kernel
theorem dL_law_668 : decode cL_law 668 = .ok (.aload_n 0, 1) := by decide +kernel
theorem dL_law_669 : decode cL_law 669 = .ok (.iload_n 3, 1) := by decide +kernel
theorem dL_law_670 : decode cL_law 670 = .ok (.iconst 1, 1) := by decide +kernel
theorem dL_law_671 : decode cL_law 671 = .ok (.iadd, 1) := by decide +kernel
theorem dL_law_672 : decode cL_law 672 = .ok (.iaload, 1) := by decide +kernel
theorem dL_law_673 : decode cL_law 673 = .ok (.aload_n 0, 1) := by decide +kernel
theorem dL_law_674 : decode cL_law 674 = .ok (.iload_n 3, 1) := by decide +kernel
theorem dL_law_675 : decode cL_law 675 = .ok (.iconst 2, 1) := by decide +kernel
theorem dL_law_676 : decode cL_law 676 = .ok (.iadd, 1) := by decide +kernel
theorem dL_law_677 : decode cL_law 677 = .ok (.iaload, 1) := by decide +kernel
theorem dL_law_678 : decode cL_law 678 = .ok (.invokevirtual 96, 3) := by decide +kernel
theorem dL_law_681 : decode cL_law 681 = .ok (.if_icmp .eq 493, 3) := by decide +kernel
theorem dL_law_684 : decode cL_law 684 = .ok (.iconst 0, 1) := by decide +kernel
theorem dL_law_685 : decode cL_law 685 = .ok (.ireturn, 1) := by decide +kernel
theorem dL_law_686 : decode cL_law 686 = .ok (.aload_n 1, 1) := by decide +kernel
theorem dL_law_687 : decode cL_law 687 = .ok (.invokevirtual 97, 3) := by decide +kernel
theorem dL_law_690 : decode cL_law 690 = .ok (.aload_n 2, 1) := by decide +kernel
theorem dL_law_691 : decode cL_law 691 = .ok (.invokevirtual 100, 3) := by decide +kernel
theorem dL_law_694 : decode cL_law 694 = .ok (.if_icmp .eq 480, 3) := by decide +kernel
theorem dL_law_697 : decode cL_law 697 = .ok (.iconst 0, 1) := by decide +kernel
theorem dL_law_698 : decode cL_law 698 = .ok (.ireturn, 1) := by decide +kernel
theorem dL_law_699 : decode cL_law 699 = .ok (.aload_n 1, 1) := by decide +kernel
theorem dL_law_700 : decode cL_law 700 = .ok (.aload_n 0, 1) := by decide +kernel
theorem dL_law_701 : decode cL_law 701 = .ok (.iload_n 3, 1) := by decide +kernel
theorem dL_law_702 : decode cL_law 702 = .ok (.iconst 1, 1) := by decide +kernel
theorem dL_law_703 : decode cL_law 703 = .ok (.iadd, 1) := by decide +kernel
theorem dL_law_704 : decode cL_law 704 = .ok (.iaload, 1) := by decide +kernel
theorem dL_law_705 : decode cL_law 705 = .ok (.invokevirtual 101, 3) := by decide +kernel
theorem dL_law_708 : decode cL_law 708 = .ok (.aload_n 2, 1) := by decide +kernel
theorem dL_law_709 : decode cL_law 709 = .ok (.aload_n 0, 1) := by decide +kernel
theorem dL_law_710 : decode cL_law 710 = .ok (.iload_n 3, 1) := by decide +kernel
theorem dL_law_711 : decode cL_law 711 = .ok (.iconst 1, 1) := by decide +kernel
theorem dL_law_712 : decode cL_law 712 = .ok (.iadd, 1) := by decide +kernel
theorem dL_law_713 : decode cL_law 713 = .ok (.iaload, 1) := by decide +kernel
theorem dL_law_714 : decode cL_law 714 = .ok (.invokevirtual 104, 3) := by decide +kernel
theorem dL_law_717 : decode cL_law 717 = .ok (.if_icmp .eq 457, 3) := by decide +kernel
theorem dL_law_720 : decode cL_law 720 = .ok (.iconst 0, 1) := by decide +kernel
theorem dL_law_721 : decode cL_law 721 = .ok (.ireturn, 1) := by decide +kernel
theorem dL_law_722 : decode cL_law 722 = .ok (.aload_n 1, 1) := by decide +kernel
theorem dL_law_723 : decode cL_law 723 = .ok (.aload_n 0, 1) := by decide +kernel
theorem dL_law_724 : decode cL_law 724 = .ok (.iload_n 3, 1) := by decide +kernel
theorem dL_law_725 : decode cL_law 725 = .ok (.iconst 1, 1) := by decide +kernel
theorem dL_law_726 : decode cL_law 726 = .ok (.iadd, 1) := by decide +kernel
theorem dL_law_727 : decode cL_law 727 = .ok (.iaload, 1) := by decide +kernel
theorem dL_law_728 : decode cL_law 728 = .ok (.aload_n 0, 1) := by decide +kernel
theorem dL_law_729 : decode cL_law 729 = .ok (.iload_n 3, 1) := by decide +kernel
theorem dL_law_730 : decode cL_law 730 = .ok (.iconst 2, 1) := by decide +kernel
theorem dL_law_731 : decode cL_law 731 = .ok (.iadd, 1) := by decide +kernel
theorem dL_law_732 : decode cL_law 732 = .ok (.iaload, 1) := by decide +kernel
theorem dL_law_733 : decode cL_law 733 = .ok (.invokevirtual 105, 3) := by decide +kernel
theorem dL_law_736 : decode cL_law 736 = .ok (.aload_n 2, 1) := by decide +kernel
theorem dL_law_737 : decode cL_law 737 = .ok (.aload_n 0, 1) := by decide +kernel
theorem dL_law_738 : decode cL_law 738 = .ok (.iload_n 3, 1) := by decide +kernel
theorem dL_law_739 : decode cL_law 739 = .ok (.iconst 1, 1) := by decide +kernel
theorem dL_law_740 : decode cL_law 740 = .ok (.iadd, 1) := by decide +kernel
theorem dL_law_741 : decode cL_law 741 = .ok (.iaload, 1) := by decide +kernel
theorem dL_law_742 : decode cL_law 742 = .ok (.aload_n 0, 1) := by decide +kernel
theorem dL_law_743 : decode cL_law 743 = .ok (.iload_n 3, 1) := by decide +kernel
theorem dL_law_744 : decode cL_law 744 = .ok (.iconst 2, 1) := by decide +kernel
theorem dL_law_745 : decode cL_law 745 = .ok (.iadd, 1) := by decide +kernel
theorem dL_law_746 : decode cL_law 746 = .ok (.iaload, 1) := by decide +kernel
theorem dL_law_747 : decode cL_law 747 = .ok (.invokevirtual 108, 3) := by decide +kernel
theorem dL_law_750 : decode cL_law 750 = .ok (.if_icmp .eq 424, 3) := by decide +kernel
theorem dL_law_753 : decode cL_law 753 = .ok (.iconst 0, 1) := by decide +kernel
theorem dL_law_754 : decode cL_law 754 = .ok (.ireturn, 1) := by decide +kernel
theorem dL_law_755 : decode cL_law 755 = .ok (.aload_n 1, 1) := by decide +kernel
theorem dL_law_756 : decode cL_law 756 = .ok (.aload_n 0, 1) := by decide +kernel
theorem dL_law_757 : decode cL_law 757 = .ok (.iload_n 3, 1) := by decide +kernel
theorem dL_law_758 : decode cL_law 758 = .ok (.iconst 1, 1) := by decide +kernel
theorem dL_law_759 : decode cL_law 759 = .ok (.iadd, 1) := by decide +kernel
theorem dL_law_760 : decode cL_law 760 = .ok (.iaload, 1) := by decide +kernel
theorem dL_law_761 : decode cL_law 761 = .ok (.aload_n 0, 1) := by decide +kernel
theorem dL_law_762 : decode cL_law 762 = .ok (.iload_n 3, 1) := by decide +kernel
theorem dL_law_763 : decode cL_law 763 = .ok (.iconst 2, 1) := by decide +kernel
theorem dL_law_764 : decode cL_law 764 = .ok (.iadd, 1) := by decide +kernel
theorem dL_law_765 : decode cL_law 765 = .ok (.iaload, 1) := by decide +kernel
theorem dL_law_766 : decode cL_law 766 = .ok (.aload_n 0, 1) := by decide +kernel
theorem dL_law_767 : decode cL_law 767 = .ok (.iload_n 3, 1) := by decide +kernel
theorem dL_law_768 : decode cL_law 768 = .ok (.iconst 3, 1) := by decide +kernel
theorem dL_law_769 : decode cL_law 769 = .ok (.iadd, 1) := by decide +kernel
theorem dL_law_770 : decode cL_law 770 = .ok (.iaload, 1) := by decide +kernel
theorem dL_law_771 : decode cL_law 771 = .ok (.invokevirtual 109, 3) := by decide +kernel
theorem dL_law_774 : decode cL_law 774 = .ok (.aload_n 2, 1) := by decide +kernel
theorem dL_law_775 : decode cL_law 775 = .ok (.aload_n 0, 1) := by decide +kernel
theorem dL_law_776 : decode cL_law 776 = .ok (.iload_n 3, 1) := by decide +kernel
theorem dL_law_777 : decode cL_law 777 = .ok (.iconst 1, 1) := by decide +kernel
theorem dL_law_778 : decode cL_law 778 = .ok (.iadd, 1) := by decide +kernel
theorem dL_law_779 : decode cL_law 779 = .ok (.iaload, 1) := by decide +kernel
theorem dL_law_780 : decode cL_law 780 = .ok (.aload_n 0, 1) := by decide +kernel
theorem dL_law_781 : decode cL_law 781 = .ok (.iload_n 3, 1) := by decide +kernel
theorem dL_law_782 : decode cL_law 782 = .ok (.iconst 2, 1) := by decide +kernel
theorem dL_law_783 : decode cL_law 783 = .ok (.iadd, 1) := by decide +kernel
theorem dL_law_784 : decode cL_law 784 = .ok (.iaload, 1) := by decide +kernel
theorem dL_law_785 : decode cL_law 785 = .ok (.aload_n 0, 1) := by decide +kernel
theorem dL_law_786 : decode cL_law 786 = .ok (.iload_n 3, 1) := by decide +kernel
theorem dL_law_787 : decode cL_law 787 = .ok (.iconst 3, 1) := by decide +kernel
theorem dL_law_788 : decode cL_law 788 = .ok (.iadd, 1) := by decide +kernel
theorem dL_law_789 : decode cL_law 789 = .ok (.iaload, 1) := by decide +kernel
theorem dL_law_790 : decode cL_law 790 = .ok (.invokevirtual 112, 3) := by decide +kernel
theorem dL_law_793 : decode cL_law 793 = .ok (.if_icmp .eq 381, 3) := by decide +kernel
theorem dL_law_796 : decode cL_law 796 = .ok (.iconst 0, 1) := by decide +kernel
theorem dL_law_797 : decode cL_law 797 = .ok (.ireturn, 1) := by decide +kernel
theorem dL_law_798 : decode cL_law 798 = .ok (.aload_n 1, 1) := by decide +kernel
theorem dL_law_799 : decode cL_law 799 = .ok (.invokevirtual 113, 3) := by decide +kernel
theorem dL_law_802 : decode cL_law 802 = .ok (.aload_n 2, 1) := by decide +kernel
theorem dL_law_803 : decode cL_law 803 = .ok (.invokevirtual 116, 3) := by decide +kernel
theorem dL_law_806 : decode cL_law 806 = .ok (.if_icmp .eq 368, 3) := by decide +kernel
theorem dL_law_809 : decode cL_law 809 = .ok (.iconst 0, 1) := by decide +kernel
theorem dL_law_810 : decode cL_law 810 = .ok (.ireturn, 1) := by decide +kernel
theorem dL_law_811 : decode cL_law 811 = .ok (.aload_n 1, 1) := by decide +kernel
theorem dL_law_812 : decode cL_law 812 = .ok (.invokevirtual 117, 3) := by decide +kernel
theorem dL_law_815 : decode cL_law 815 = .ok (.aload_n 2, 1) := by decide +kernel
theorem dL_law_816 : decode cL_law 816 = .ok (.invokevirtual 120, 3) := by decide +kernel
theorem dL_law_819 : decode cL_law 819 = .ok (.if_icmp .eq 355, 3) := by decide +kernel
theorem dL_law_822 : decode cL_law 822 = .ok (.iconst 0, 1) := by decide +kernel
theorem dL_law_823 : decode cL_law 823 = .ok (.ireturn, 1) := by decide +kernel
theorem dL_law_824 : decode cL_law 824 = .ok (.aload_n 1, 1) := by decide +kernel
theorem dL_law_825 : decode cL_law 825 = .ok (.aload_n 0, 1) := by decide +kernel
theorem dL_law_826 : decode cL_law 826 = .ok (.iload_n 3, 1) := by decide +kernel
theorem dL_law_827 : decode cL_law 827 = .ok (.iconst 1, 1) := by decide +kernel
theorem dL_law_828 : decode cL_law 828 = .ok (.iadd, 1) := by decide +kernel
theorem dL_law_829 : decode cL_law 829 = .ok (.iaload, 1) := by decide +kernel
theorem dL_law_830 : decode cL_law 830 = .ok (.aload_n 0, 1) := by decide +kernel
theorem dL_law_831 : decode cL_law 831 = .ok (.iload_n 3, 1) := by decide +kernel
theorem dL_law_832 : decode cL_law 832 = .ok (.iconst 2, 1) := by decide +kernel
theorem dL_law_833 : decode cL_law 833 = .ok (.iadd, 1) := by decide +kernel
theorem dL_law_834 : decode cL_law 834 = .ok (.iaload, 1) := by decide +kernel
theorem dL_law_835 : decode cL_law 835 = .ok (.aload_n 0, 1) := by decide +kernel
theorem dL_law_836 : decode cL_law 836 = .ok (.iload_n 3, 1) := by decide +kernel
theorem dL_law_837 : decode cL_law 837 = .ok (.iconst 3, 1) := by decide +kernel
theorem dL_law_838 : decode cL_law 838 = .ok (.iadd, 1) := by decide +kernel
theorem dL_law_839 : decode cL_law 839 = .ok (.iaload, 1) := by decide +kernel
theorem dL_law_840 : decode cL_law 840 = .ok (.aload_n 0, 1) := by decide +kernel
theorem dL_law_841 : decode cL_law 841 = .ok (.iload_n 3, 1) := by decide +kernel
theorem dL_law_842 : decode cL_law 842 = .ok (.iconst 4, 1) := by decide +kernel
theorem dL_law_843 : decode cL_law 843 = .ok (.iadd, 1) := by decide +kernel
theorem dL_law_844 : decode cL_law 844 = .ok (.iaload, 1) := by decide +kernel
theorem dL_law_845 : decode cL_law 845 = .ok (.aload_n 0, 1) := by decide +kernel
theorem dL_law_846 : decode cL_law 846 = .ok (.iload_n 3, 1) := by decide +kernel
theorem dL_law_847 : decode cL_law 847 = .ok (.iconst 5, 1) := by decide +kernel
theorem dL_law_848 : decode cL_law 848 = .ok (.iadd, 1) := by decide +kernel
theorem dL_law_849 : decode cL_law 849 = .ok (.iaload, 1) := by decide +kernel
theorem dL_law_850 : decode cL_law 850 = .ok (.aload_n 0, 1) := by decide +kernel
theorem dL_law_851 : decode cL_law 851 = .ok (.iload_n 3, 1) := by decide +kernel
theorem dL_law_852 : decode cL_law 852 = .ok (.bipush 6, 2) := by decide +kernel
theorem dL_law_854 : decode cL_law 854 = .ok (.iadd, 1) := by decide +kernel
theorem dL_law_855 : decode cL_law 855 = .ok (.iaload, 1) := by decide +kernel
theorem dL_law_856 : decode cL_law 856 = .ok (.invokevirtual 121, 3) := by decide +kernel
theorem dL_law_859 : decode cL_law 859 = .ok (.aload_n 2, 1) := by decide +kernel
theorem dL_law_860 : decode cL_law 860 = .ok (.aload_n 0, 1) := by decide +kernel
theorem dL_law_861 : decode cL_law 861 = .ok (.iload_n 3, 1) := by decide +kernel
theorem dL_law_862 : decode cL_law 862 = .ok (.iconst 1, 1) := by decide +kernel
theorem dL_law_863 : decode cL_law 863 = .ok (.iadd, 1) := by decide +kernel
theorem dL_law_864 : decode cL_law 864 = .ok (.iaload, 1) := by decide +kernel
theorem dL_law_865 : decode cL_law 865 = .ok (.aload_n 0, 1) := by decide +kernel
theorem dL_law_866 : decode cL_law 866 = .ok (.iload_n 3, 1) := by decide +kernel
theorem dL_law_867 : decode cL_law 867 = .ok (.iconst 2, 1) := by decide +kernel
theorem dL_law_868 : decode cL_law 868 = .ok (.iadd, 1) := by decide +kernel
theorem dL_law_869 : decode cL_law 869 = .ok (.iaload, 1) := by decide +kernel
theorem dL_law_870 : decode cL_law 870 = .ok (.aload_n 0, 1) := by decide +kernel
theorem dL_law_871 : decode cL_law 871 = .ok (.iload_n 3, 1) := by decide +kernel
theorem dL_law_872 : decode cL_law 872 = .ok (.iconst 3, 1) := by decide +kernel
theorem dL_law_873 : decode cL_law 873 = .ok (.iadd, 1) := by decide +kernel
theorem dL_law_874 : decode cL_law 874 = .ok (.iaload, 1) := by decide +kernel
theorem dL_law_875 : decode cL_law 875 = .ok (.aload_n 0, 1) := by decide +kernel
theorem dL_law_876 : decode cL_law 876 = .ok (.iload_n 3, 1) := by decide +kernel
theorem dL_law_877 : decode cL_law 877 = .ok (.iconst 4, 1) := by decide +kernel
theorem dL_law_878 : decode cL_law 878 = .ok (.iadd, 1) := by decide +kernel
theorem dL_law_879 : decode cL_law 879 = .ok (.iaload, 1) := by decide +kernel
theorem dL_law_880 : decode cL_law 880 = .ok (.aload_n 0, 1) := by decide +kernel
theorem dL_law_881 : decode cL_law 881 = .ok (.iload_n 3, 1) := by decide +kernel
theorem dL_law_882 : decode cL_law 882 = .ok (.iconst 5, 1) := by decide +kernel
theorem dL_law_883 : decode cL_law 883 = .ok (.iadd, 1) := by decide +kernel
theorem dL_law_884 : decode cL_law 884 = .ok (.iaload, 1) := by decide +kernel
theorem dL_law_885 : decode cL_law 885 = .ok (.aload_n 0, 1) := by decide +kernel
theorem dL_law_886 : decode cL_law 886 = .ok (.iload_n 3, 1) := by decide +kernel
theorem dL_law_887 : decode cL_law 887 = .ok (.bipush 6, 2) := by decide +kernel
theorem dL_law_889 : decode cL_law 889 = .ok (.iadd, 1) := by decide +kernel
theorem dL_law_890 : decode cL_law 890 = .ok (.iaload, 1) := by decide +kernel
theorem dL_law_891 : decode cL_law 891 = .ok (.invokevirtual 125, 3) := by decide +kernel
theorem dL_law_894 : decode cL_law 894 = .ok (.if_icmp .eq 280, 3) := by decide +kernel
theorem dL_law_897 : decode cL_law 897 = .ok (.iconst 0, 1) := by decide +kernel
theorem dL_law_898 : decode cL_law 898 = .ok (.ireturn, 1) := by decide +kernel
theorem dL_law_899 : decode cL_law 899 = .ok (.aload_n 1, 1) := by decide +kernel
theorem dL_law_900 : decode cL_law 900 = .ok (.aload_n 0, 1) := by decide +kernel
theorem dL_law_901 : decode cL_law 901 = .ok (.iload_n 3, 1) := by decide +kernel
theorem dL_law_902 : decode cL_law 902 = .ok (.iconst 1, 1) := by decide +kernel
theorem dL_law_903 : decode cL_law 903 = .ok (.iadd, 1) := by decide +kernel
theorem dL_law_904 : decode cL_law 904 = .ok (.iaload, 1) := by decide +kernel
theorem dL_law_905 : decode cL_law 905 = .ok (.aload_n 0, 1) := by decide +kernel
theorem dL_law_906 : decode cL_law 906 = .ok (.iload_n 3, 1) := by decide +kernel
theorem dL_law_907 : decode cL_law 907 = .ok (.iconst 2, 1) := by decide +kernel
theorem dL_law_908 : decode cL_law 908 = .ok (.iadd, 1) := by decide +kernel
theorem dL_law_909 : decode cL_law 909 = .ok (.iaload, 1) := by decide +kernel
theorem dL_law_910 : decode cL_law 910 = .ok (.aload_n 0, 1) := by decide +kernel
theorem dL_law_911 : decode cL_law 911 = .ok (.iload_n 3, 1) := by decide +kernel
theorem dL_law_912 : decode cL_law 912 = .ok (.iconst 3, 1) := by decide +kernel
theorem dL_law_913 : decode cL_law 913 = .ok (.iadd, 1) := by decide +kernel
theorem dL_law_914 : decode cL_law 914 = .ok (.iaload, 1) := by decide +kernel
theorem dL_law_915 : decode cL_law 915 = .ok (.aload_n 0, 1) := by decide +kernel
theorem dL_law_916 : decode cL_law 916 = .ok (.iload_n 3, 1) := by decide +kernel
theorem dL_law_917 : decode cL_law 917 = .ok (.iconst 4, 1) := by decide +kernel
theorem dL_law_918 : decode cL_law 918 = .ok (.iadd, 1) := by decide +kernel
theorem dL_law_919 : decode cL_law 919 = .ok (.iaload, 1) := by decide +kernel
theorem dL_law_920 : decode cL_law 920 = .ok (.aload_n 0, 1) := by decide +kernel
theorem dL_law_921 : decode cL_law 921 = .ok (.iload_n 3, 1) := by decide +kernel
theorem dL_law_922 : decode cL_law 922 = .ok (.iconst 5, 1) := by decide +kernel
theorem dL_law_923 : decode cL_law 923 = .ok (.iadd, 1) := by decide +kernel
theorem dL_law_924 : decode cL_law 924 = .ok (.iaload, 1) := by decide +kernel
theorem dL_law_925 : decode cL_law 925 = .ok (.invokevirtual 126, 3) := by decide +kernel
theorem dL_law_928 : decode cL_law 928 = .ok (.aload_n 2, 1) := by decide +kernel
theorem dL_law_929 : decode cL_law 929 = .ok (.aload_n 0, 1) := by decide +kernel
theorem dL_law_930 : decode cL_law 930 = .ok (.iload_n 3, 1) := by decide +kernel
theorem dL_law_931 : decode cL_law 931 = .ok (.iconst 1, 1) := by decide +kernel
theorem dL_law_932 : decode cL_law 932 = .ok (.iadd, 1) := by decide +kernel
theorem dL_law_933 : decode cL_law 933 = .ok (.iaload, 1) := by decide +kernel
theorem dL_law_934 : decode cL_law 934 = .ok (.aload_n 0, 1) := by decide +kernel
theorem dL_law_935 : decode cL_law 935 = .ok (.iload_n 3, 1) := by decide +kernel
theorem dL_law_936 : decode cL_law 936 = .ok (.iconst 2, 1) := by decide +kernel
theorem dL_law_937 : decode cL_law 937 = .ok (.iadd, 1) := by decide +kernel
theorem dL_law_938 : decode cL_law 938 = .ok (.iaload, 1) := by decide +kernel
theorem dL_law_939 : decode cL_law 939 = .ok (.aload_n 0, 1) := by decide +kernel
theorem dL_law_940 : decode cL_law 940 = .ok (.iload_n 3, 1) := by decide +kernel
theorem dL_law_941 : decode cL_law 941 = .ok (.iconst 3, 1) := by decide +kernel
theorem dL_law_942 : decode cL_law 942 = .ok (.iadd, 1) := by decide +kernel
theorem dL_law_943 : decode cL_law 943 = .ok (.iaload, 1) := by decide +kernel
theorem dL_law_944 : decode cL_law 944 = .ok (.aload_n 0, 1) := by decide +kernel
theorem dL_law_945 : decode cL_law 945 = .ok (.iload_n 3, 1) := by decide +kernel
theorem dL_law_946 : decode cL_law 946 = .ok (.iconst 4, 1) := by decide +kernel
theorem dL_law_947 : decode cL_law 947 = .ok (.iadd, 1) := by decide +kernel
theorem dL_law_948 : decode cL_law 948 = .ok (.iaload, 1) := by decide +kernel
theorem dL_law_949 : decode cL_law 949 = .ok (.aload_n 0, 1) := by decide +kernel
theorem dL_law_950 : decode cL_law 950 = .ok (.iload_n 3, 1) := by decide +kernel
theorem dL_law_951 : decode cL_law 951 = .ok (.iconst 5, 1) := by decide +kernel
theorem dL_law_952 : decode cL_law 952 = .ok (.iadd, 1) := by decide +kernel
theorem dL_law_953 : decode cL_law 953 = .ok (.iaload, 1) := by decide +kernel
theorem dL_law_954 : decode cL_law 954 = .ok (.invokevirtual 130, 3) := by decide +kernel
theorem dL_law_957 : decode cL_law 957 = .ok (.if_icmp .eq 217, 3) := by decide +kernel
theorem dL_law_960 : decode cL_law 960 = .ok (.iconst 0, 1) := by decide +kernel
theorem dL_law_961 : decode cL_law 961 = .ok (.ireturn, 1) := by decide +kernel
theorem dL_law_962 : decode cL_law 962 = .ok (.aload_n 1, 1) := by decide +kernel
theorem dL_law_963 : decode cL_law 963 = .ok (.aload_n 0, 1) := by decide +kernel
theorem dL_law_964 : decode cL_law 964 = .ok (.iload_n 3, 1) := by decide +kernel
theorem dL_law_965 : decode cL_law 965 = .ok (.iconst 1, 1) := by decide +kernel
theorem dL_law_966 : decode cL_law 966 = .ok (.iadd, 1) := by decide +kernel
theorem dL_law_967 : decode cL_law 967 = .ok (.iaload, 1) := by decide +kernel
theorem dL_law_968 : decode cL_law 968 = .ok (.aload_n 0, 1) := by decide +kernel
theorem dL_law_969 : decode cL_law 969 = .ok (.iload_n 3, 1) := by decide +kernel
theorem dL_law_970 : decode cL_law 970 = .ok (.iconst 2, 1) := by decide +kernel
theorem dL_law_971 : decode cL_law 971 = .ok (.iadd, 1) := by decide +kernel
theorem dL_law_972 : decode cL_law 972 = .ok (.iaload, 1) := by decide +kernel
theorem dL_law_973 : decode cL_law 973 = .ok (.aload_n 0, 1) := by decide +kernel
theorem dL_law_974 : decode cL_law 974 = .ok (.iload_n 3, 1) := by decide +kernel
theorem dL_law_975 : decode cL_law 975 = .ok (.iconst 3, 1) := by decide +kernel
theorem dL_law_976 : decode cL_law 976 = .ok (.iadd, 1) := by decide +kernel
theorem dL_law_977 : decode cL_law 977 = .ok (.iaload, 1) := by decide +kernel
theorem dL_law_978 : decode cL_law 978 = .ok (.invokevirtual 131, 3) := by decide +kernel
theorem dL_law_981 : decode cL_law 981 = .ok (.aload_n 2, 1) := by decide +kernel
theorem dL_law_982 : decode cL_law 982 = .ok (.aload_n 0, 1) := by decide +kernel
theorem dL_law_983 : decode cL_law 983 = .ok (.iload_n 3, 1) := by decide +kernel
theorem dL_law_984 : decode cL_law 984 = .ok (.iconst 1, 1) := by decide +kernel
theorem dL_law_985 : decode cL_law 985 = .ok (.iadd, 1) := by decide +kernel
theorem dL_law_986 : decode cL_law 986 = .ok (.iaload, 1) := by decide +kernel
theorem dL_law_987 : decode cL_law 987 = .ok (.aload_n 0, 1) := by decide +kernel
theorem dL_law_988 : decode cL_law 988 = .ok (.iload_n 3, 1) := by decide +kernel
theorem dL_law_989 : decode cL_law 989 = .ok (.iconst 2, 1) := by decide +kernel
theorem dL_law_990 : decode cL_law 990 = .ok (.iadd, 1) := by decide +kernel
theorem dL_law_991 : decode cL_law 991 = .ok (.iaload, 1) := by decide +kernel
theorem dL_law_992 : decode cL_law 992 = .ok (.aload_n 0, 1) := by decide +kernel
theorem dL_law_993 : decode cL_law 993 = .ok (.iload_n 3, 1) := by decide +kernel
theorem dL_law_994 : decode cL_law 994 = .ok (.iconst 3, 1) := by decide +kernel
theorem dL_law_995 : decode cL_law 995 = .ok (.iadd, 1) := by decide +kernel
theorem dL_law_996 : decode cL_law 996 = .ok (.iaload, 1) := by decide +kernel
theorem dL_law_997 : decode cL_law 997 = .ok (.invokevirtual 134, 3) := by decide +kernel
theorem dL_law_1000 : decode cL_law 1000 = .ok (.if_icmp .eq 174, 3) := by decide +kernel
theorem dL_law_1003 : decode cL_law 1003 = .ok (.iconst 0, 1) := by decide +kernel
theorem dL_law_1004 : decode cL_law 1004 = .ok (.ireturn, 1) := by decide +kernel
theorem dL_law_1005 : decode cL_law 1005 = .ok (.aload_n 1, 1) := by decide +kernel
theorem dL_law_1006 : decode cL_law 1006 = .ok (.aload_n 0, 1) := by decide +kernel
theorem dL_law_1007 : decode cL_law 1007 = .ok (.iload_n 3, 1) := by decide +kernel
theorem dL_law_1008 : decode cL_law 1008 = .ok (.iconst 1, 1) := by decide +kernel
theorem dL_law_1009 : decode cL_law 1009 = .ok (.iadd, 1) := by decide +kernel
theorem dL_law_1010 : decode cL_law 1010 = .ok (.iaload, 1) := by decide +kernel
theorem dL_law_1011 : decode cL_law 1011 = .ok (.invokevirtual 135, 3) := by decide +kernel
theorem dL_law_1014 : decode cL_law 1014 = .ok (.aload_n 2, 1) := by decide +kernel
theorem dL_law_1015 : decode cL_law 1015 = .ok (.aload_n 0, 1) := by decide +kernel
theorem dL_law_1016 : decode cL_law 1016 = .ok (.iload_n 3, 1) := by decide +kernel
theorem dL_law_1017 : decode cL_law 1017 = .ok (.iconst 1, 1) := by decide +kernel
theorem dL_law_1018 : decode cL_law 1018 = .ok (.iadd, 1) := by decide +kernel
theorem dL_law_1019 : decode cL_law 1019 = .ok (.iaload, 1) := by decide +kernel
theorem dL_law_1020 : decode cL_law 1020 = .ok (.invokevirtual 138, 3) := by decide +kernel
theorem dL_law_1023 : decode cL_law 1023 = .ok (.if_icmp .eq 151, 3) := by decide +kernel
theorem dL_law_1026 : decode cL_law 1026 = .ok (.iconst 0, 1) := by decide +kernel
theorem dL_law_1027 : decode cL_law 1027 = .ok (.ireturn, 1) := by decide +kernel
theorem dL_law_1028 : decode cL_law 1028 = .ok (.aload_n 1, 1) := by decide +kernel
theorem dL_law_1029 : decode cL_law 1029 = .ok (.aload_n 0, 1) := by decide +kernel
theorem dL_law_1030 : decode cL_law 1030 = .ok (.iload_n 3, 1) := by decide +kernel
theorem dL_law_1031 : decode cL_law 1031 = .ok (.iconst 1, 1) := by decide +kernel
theorem dL_law_1032 : decode cL_law 1032 = .ok (.iadd, 1) := by decide +kernel
theorem dL_law_1033 : decode cL_law 1033 = .ok (.iaload, 1) := by decide +kernel
theorem dL_law_1034 : decode cL_law 1034 = .ok (.aload_n 0, 1) := by decide +kernel
theorem dL_law_1035 : decode cL_law 1035 = .ok (.iload_n 3, 1) := by decide +kernel
theorem dL_law_1036 : decode cL_law 1036 = .ok (.iconst 2, 1) := by decide +kernel
theorem dL_law_1037 : decode cL_law 1037 = .ok (.iadd, 1) := by decide +kernel
theorem dL_law_1038 : decode cL_law 1038 = .ok (.iaload, 1) := by decide +kernel
theorem dL_law_1039 : decode cL_law 1039 = .ok (.aload_n 0, 1) := by decide +kernel
theorem dL_law_1040 : decode cL_law 1040 = .ok (.iload_n 3, 1) := by decide +kernel
theorem dL_law_1041 : decode cL_law 1041 = .ok (.iconst 3, 1) := by decide +kernel
theorem dL_law_1042 : decode cL_law 1042 = .ok (.iadd, 1) := by decide +kernel
theorem dL_law_1043 : decode cL_law 1043 = .ok (.iaload, 1) := by decide +kernel
theorem dL_law_1044 : decode cL_law 1044 = .ok (.aload_n 0, 1) := by decide +kernel
theorem dL_law_1045 : decode cL_law 1045 = .ok (.iload_n 3, 1) := by decide +kernel
theorem dL_law_1046 : decode cL_law 1046 = .ok (.iconst 4, 1) := by decide +kernel
theorem dL_law_1047 : decode cL_law 1047 = .ok (.iadd, 1) := by decide +kernel
theorem dL_law_1048 : decode cL_law 1048 = .ok (.iaload, 1) := by decide +kernel
theorem dL_law_1049 : decode cL_law 1049 = .ok (.i2l, 1) := by decide +kernel
theorem dL_law_1050 : decode cL_law 1050 = .ok (.bipush 32, 2) := by decide +kernel
theorem dL_law_1052 : decode cL_law 1052 = .ok (.lshl, 1) := by decide +kernel
theorem dL_law_1053 : decode cL_law 1053 = .ok (.aload_n 0, 1) := by decide +kernel
theorem dL_law_1054 : decode cL_law 1054 = .ok (.iload_n 3, 1) := by decide +kernel
theorem dL_law_1055 : decode cL_law 1055 = .ok (.iconst 5, 1) := by decide +kernel
theorem dL_law_1056 : decode cL_law 1056 = .ok (.iadd, 1) := by decide +kernel
theorem dL_law_1057 : decode cL_law 1057 = .ok (.iaload, 1) := by decide +kernel
theorem dL_law_1058 : decode cL_law 1058 = .ok (.i2l, 1) := by decide +kernel
theorem dL_law_1059 : decode cL_law 1059 = .ok (.ldc2_w 139, 3) := by decide +kernel
theorem dL_law_1062 : decode cL_law 1062 = .ok (.land, 1) := by decide +kernel
theorem dL_law_1063 : decode cL_law 1063 = .ok (.lor, 1) := by decide +kernel
theorem dL_law_1064 : decode cL_law 1064 = .ok (.invokevirtual 141, 3) := by decide +kernel
theorem dL_law_1067 : decode cL_law 1067 = .ok (.aload_n 2, 1) := by decide +kernel
theorem dL_law_1068 : decode cL_law 1068 = .ok (.aload_n 0, 1) := by decide +kernel
theorem dL_law_1069 : decode cL_law 1069 = .ok (.iload_n 3, 1) := by decide +kernel
theorem dL_law_1070 : decode cL_law 1070 = .ok (.iconst 1, 1) := by decide +kernel
theorem dL_law_1071 : decode cL_law 1071 = .ok (.iadd, 1) := by decide +kernel
theorem dL_law_1072 : decode cL_law 1072 = .ok (.iaload, 1) := by decide +kernel
theorem dL_law_1073 : decode cL_law 1073 = .ok (.aload_n 0, 1) := by decide +kernel
theorem dL_law_1074 : decode cL_law 1074 = .ok (.iload_n 3, 1) := by decide +kernel
theorem dL_law_1075 : decode cL_law 1075 = .ok (.iconst 2, 1) := by decide +kernel
theorem dL_law_1076 : decode cL_law 1076 = .ok (.iadd, 1) := by decide +kernel
theorem dL_law_1077 : decode cL_law 1077 = .ok (.iaload, 1) := by decide +kernel
theorem dL_law_1078 : decode cL_law 1078 = .ok (.aload_n 0, 1) := by decide +kernel
theorem dL_law_1079 : decode cL_law 1079 = .ok (.iload_n 3, 1) := by decide +kernel
theorem dL_law_1080 : decode cL_law 1080 = .ok (.iconst 3, 1) := by decide +kernel
theorem dL_law_1081 : decode cL_law 1081 = .ok (.iadd, 1) := by decide +kernel
theorem dL_law_1082 : decode cL_law 1082 = .ok (.iaload, 1) := by decide +kernel
theorem dL_law_1083 : decode cL_law 1083 = .ok (.aload_n 0, 1) := by decide +kernel
theorem dL_law_1084 : decode cL_law 1084 = .ok (.iload_n 3, 1) := by decide +kernel
theorem dL_law_1085 : decode cL_law 1085 = .ok (.iconst 4, 1) := by decide +kernel
theorem dL_law_1086 : decode cL_law 1086 = .ok (.iadd, 1) := by decide +kernel
theorem dL_law_1087 : decode cL_law 1087 = .ok (.iaload, 1) := by decide +kernel
theorem dL_law_1088 : decode cL_law 1088 = .ok (.i2l, 1) := by decide +kernel
theorem dL_law_1089 : decode cL_law 1089 = .ok (.bipush 32, 2) := by decide +kernel
theorem dL_law_1091 : decode cL_law 1091 = .ok (.lshl, 1) := by decide +kernel
theorem dL_law_1092 : decode cL_law 1092 = .ok (.aload_n 0, 1) := by decide +kernel
theorem dL_law_1093 : decode cL_law 1093 = .ok (.iload_n 3, 1) := by decide +kernel
theorem dL_law_1094 : decode cL_law 1094 = .ok (.iconst 5, 1) := by decide +kernel
theorem dL_law_1095 : decode cL_law 1095 = .ok (.iadd, 1) := by decide +kernel
theorem dL_law_1096 : decode cL_law 1096 = .ok (.iaload, 1) := by decide +kernel
theorem dL_law_1097 : decode cL_law 1097 = .ok (.i2l, 1) := by decide +kernel
theorem dL_law_1098 : decode cL_law 1098 = .ok (.ldc2_w 139, 3) := by decide +kernel
theorem dL_law_1101 : decode cL_law 1101 = .ok (.land, 1) := by decide +kernel
theorem dL_law_1102 : decode cL_law 1102 = .ok (.lor, 1) := by decide +kernel
theorem dL_law_1103 : decode cL_law 1103 = .ok (.invokevirtual 145, 3) := by decide +kernel
theorem dL_law_1106 : decode cL_law 1106 = .ok (.if_icmp .eq 68, 3) := by decide +kernel
theorem dL_law_1109 : decode cL_law 1109 = .ok (.iconst 0, 1) := by decide +kernel
theorem dL_law_1110 : decode cL_law 1110 = .ok (.ireturn, 1) := by decide +kernel
theorem dL_law_1111 : decode cL_law 1111 = .ok (.aload_n 1, 1) := by decide +kernel
theorem dL_law_1112 : decode cL_law 1112 = .ok (.aload_n 0, 1) := by decide +kernel
theorem dL_law_1113 : decode cL_law 1113 = .ok (.iload_n 3, 1) := by decide +kernel
theorem dL_law_1114 : decode cL_law 1114 = .ok (.iconst 1, 1) := by decide +kernel
theorem dL_law_1115 : decode cL_law 1115 = .ok (.iadd, 1) := by decide +kernel
theorem dL_law_1116 : decode cL_law 1116 = .ok (.iaload, 1) := by decide +kernel
theorem dL_law_1117 : decode cL_law 1117 = .ok (.aload_n 0, 1) := by decide +kernel
theorem dL_law_1118 : decode cL_law 1118 = .ok (.iload_n 3, 1) := by decide +kernel
theorem dL_law_1119 : decode cL_law 1119 = .ok (.iconst 2, 1) := by decide +kernel
theorem dL_law_1120 : decode cL_law 1120 = .ok (.iadd, 1) := by decide +kernel
theorem dL_law_1121 : decode cL_law 1121 = .ok (.iaload, 1) := by decide +kernel
theorem dL_law_1122 : decode cL_law 1122 = .ok (.aload_n 0, 1) := by decide +kernel
theorem dL_law_1123 : decode cL_law 1123 = .ok (.iload_n 3, 1) := by decide +kernel
theorem dL_law_1124 : decode cL_law 1124 = .ok (.iconst 3, 1) := by decide +kernel
theorem dL_law_1125 : decode cL_law 1125 = .ok (.iadd, 1) := by decide +kernel
theorem dL_law_1126 : decode cL_law 1126 = .ok (.iaload, 1) := by decide +kernel
theorem dL_law_1127 : decode cL_law 1127 = .ok (.aload_n 0, 1) := by decide +kernel
theorem dL_law_1128 : decode cL_law 1128 = .ok (.iload_n 3, 1) := by decide +kernel
theorem dL_law_1129 : decode cL_law 1129 = .ok (.iconst 4, 1) := by decide +kernel
theorem dL_law_1130 : decode cL_law 1130 = .ok (.iadd, 1) := by decide +kernel
theorem dL_law_1131 : decode cL_law 1131 = .ok (.iaload, 1) := by decide +kernel
theorem dL_law_1132 : decode cL_law 1132 = .ok (.aload_n 0, 1) := by decide +kernel
theorem dL_law_1133 : decode cL_law 1133 = .ok (.iload_n 3, 1) := by decide +kernel
theorem dL_law_1134 : decode cL_law 1134 = .ok (.iconst 5, 1) := by decide +kernel
theorem dL_law_1135 : decode cL_law 1135 = .ok (.iadd, 1) := by decide +kernel
theorem dL_law_1136 : decode cL_law 1136 = .ok (.iaload, 1) := by decide +kernel
theorem dL_law_1137 : decode cL_law 1137 = .ok (.invokevirtual 146, 3) := by decide +kernel
theorem dL_law_1140 : decode cL_law 1140 = .ok (.aload_n 2, 1) := by decide +kernel
theorem dL_law_1141 : decode cL_law 1141 = .ok (.aload_n 0, 1) := by decide +kernel
theorem dL_law_1142 : decode cL_law 1142 = .ok (.iload_n 3, 1) := by decide +kernel
theorem dL_law_1143 : decode cL_law 1143 = .ok (.iconst 1, 1) := by decide +kernel
theorem dL_law_1144 : decode cL_law 1144 = .ok (.iadd, 1) := by decide +kernel
theorem dL_law_1145 : decode cL_law 1145 = .ok (.iaload, 1) := by decide +kernel
theorem dL_law_1146 : decode cL_law 1146 = .ok (.aload_n 0, 1) := by decide +kernel
theorem dL_law_1147 : decode cL_law 1147 = .ok (.iload_n 3, 1) := by decide +kernel
theorem dL_law_1148 : decode cL_law 1148 = .ok (.iconst 2, 1) := by decide +kernel
theorem dL_law_1149 : decode cL_law 1149 = .ok (.iadd, 1) := by decide +kernel
theorem dL_law_1150 : decode cL_law 1150 = .ok (.iaload, 1) := by decide +kernel
theorem dL_law_1151 : decode cL_law 1151 = .ok (.aload_n 0, 1) := by decide +kernel
theorem dL_law_1152 : decode cL_law 1152 = .ok (.iload_n 3, 1) := by decide +kernel
theorem dL_law_1153 : decode cL_law 1153 = .ok (.iconst 3, 1) := by decide +kernel
theorem dL_law_1154 : decode cL_law 1154 = .ok (.iadd, 1) := by decide +kernel
theorem dL_law_1155 : decode cL_law 1155 = .ok (.iaload, 1) := by decide +kernel
theorem dL_law_1156 : decode cL_law 1156 = .ok (.aload_n 0, 1) := by decide +kernel
theorem dL_law_1157 : decode cL_law 1157 = .ok (.iload_n 3, 1) := by decide +kernel
theorem dL_law_1158 : decode cL_law 1158 = .ok (.iconst 4, 1) := by decide +kernel
theorem dL_law_1159 : decode cL_law 1159 = .ok (.iadd, 1) := by decide +kernel
theorem dL_law_1160 : decode cL_law 1160 = .ok (.iaload, 1) := by decide +kernel
theorem dL_law_1161 : decode cL_law 1161 = .ok (.aload_n 0, 1) := by decide +kernel
theorem dL_law_1162 : decode cL_law 1162 = .ok (.iload_n 3, 1) := by decide +kernel
theorem dL_law_1163 : decode cL_law 1163 = .ok (.iconst 5, 1) := by decide +kernel
theorem dL_law_1164 : decode cL_law 1164 = .ok (.iadd, 1) := by decide +kernel
theorem dL_law_1165 : decode cL_law 1165 = .ok (.iaload, 1) := by decide +kernel
theorem dL_law_1166 : decode cL_law 1166 = .ok (.invokevirtual 149, 3) := by decide +kernel
theorem dL_law_1169 : decode cL_law 1169 = .ok (.if_icmp .eq 5, 3) := by decide +kernel
theorem dL_law_1172 : decode cL_law 1172 = .ok (.iconst 0, 1) := by decide +kernel
theorem dL_law_1173 : decode cL_law 1173 = .ok (.ireturn, 1) := by decide +kernel
theorem dL_law_1174 : decode cL_law 1174 = .ok (.iinc 3 7, 3) := by decide +kernel
theorem dL_law_1177 : decode cL_law 1177 = .ok (.goto (-1159), 3) := by decide +kernel
theorem dL_law_1180 : decode cL_law 1180 = .ok (.iconst 1, 1) := by decide +kernel
theorem dL_law_1181 : decode cL_law 1181 = .ok (.ireturn, 1) := by decide +kernel
end
section
/-! MINI HEAPS. A cell: an array of a type, or an object of the class of a number, and what it holds; a reference is a cell's place in the list. -/
abbrev bb_C : Type := (FieldType ⊕ Nat) × List Value
abbrev bb_H : Type := List bb_C
def bb_cv (ad : Nat → Nat) (v : Value) : Value := match v with
  | .ref i => .ref (ad i)
  | v => v
def bb_toI (v : Value) : Int32 := match v with
  | .int x => x
  | _ => 0
def bb_toL (v : Value) : Int64 := match v with
  | .long x => x
  | _ => 0
def bb_toR (ad : Nat → Nat) (v : Value) : Option Nat := match v with
  | .ref i => some (ad i)
  | _ => none
def bb_arr (ad : Nat → Nat) (ty : FieldType) (vs : List Value) : vp_A := match ty with
  | .long => (vs.length, .inr (.inl (fun j => bb_toL (vs.getD j .null))))
  | .object _ => (vs.length, .inr (.inr (.inr (.inr (fun j => bb_toR ad (vs.getD j .null))))))
  | .array _ => (vs.length, .inr (.inr (.inr (.inr (fun j => bb_toR ad (vs.getD j .null))))))
  | _ => (vs.length, .inl (fun j => bb_toI (vs.getD j .null)))
def bb_e (ad : Nat → Nat) (cA : FieldType → ClassId) (c : bb_C) : va_E := match c.1 with
  | .inl ty => .inl (cA ty, bb_arr ad ty c.2)
  | .inr ci => .inr (ci, c.2.map (bb_cv ad))
def bb_ws (ad : Nat → Nat) (cA : FieldType → ClassId) : Nat → bb_H → va_W
  | _, [] => []
  | i, c :: h => (ad i, bb_e ad cA c) :: bb_ws ad cA (i + 1) h
theorem bb_ws_at {ad : Nat → Nat} {cA : FieldType → ClassId} : ∀ {h : bb_H} {i k : Nat} {c : bb_C}, h[k]? = some c → (bb_ws ad cA i h)[k]? = some (ad (i + k), bb_e ad cA c)
  | [], _, _, _, e => by simp at e
  | d :: h, i, 0, c, e => by
    rw [List.getElem?_cons_zero] at e
    cases e
    rfl
  | d :: h, i, k + 1, c, e => by
    rw [List.getElem?_cons_succ] at e
    have h1 := bb_ws_at (ad := ad) (cA := cA) (i := i + 1) e
    rw [show i + 1 + k = i + (k + 1) by omega] at h1
    show ((ad i, bb_e ad cA d) :: bb_ws ad cA (i + 1) h)[k + 1]? = _
    rw [List.getElem?_cons_succ]
    exact h1
theorem bb_ws_0 {ad : Nat → Nat} {cA : FieldType → ClassId} {h : bb_H} {k : Nat} {c : bb_C} (e : h[k]? = some c) : (bb_ws ad cA 0 h)[k]? = some (ad k, bb_e ad cA c) := by
  have h1 := bb_ws_at (ad := ad) (cA := cA) (i := 0) e
  rwa [Nat.zero_add] at h1
theorem bb_ws_set {ad : Nat → Nat} {cA : FieldType → ClassId} {c : bb_C} : ∀ {h : bb_H} {i k : Nat}, (bb_ws ad cA i h).set k (ad (i + k), bb_e ad cA c) = bb_ws ad cA i (h.set k c)
  | [], _, _ => rfl
  | d :: h, i, 0 => rfl
  | d :: h, i, k + 1 => by
    have h1 := bb_ws_set (ad := ad) (cA := cA) (c := c) (h := h) (i := i + 1) (k := k)
    rw [show i + 1 + k = i + (k + 1) by omega] at h1
    show (ad i, bb_e ad cA d) :: (bb_ws ad cA (i + 1) h).set k _ = (ad i, bb_e ad cA d) :: bb_ws ad cA (i + 1) (h.set k c)
    rw [h1]
theorem bb_ws_set0 {ad : Nat → Nat} {cA : FieldType → ClassId} {c : bb_C} {h : bb_H} {k : Nat} : (bb_ws ad cA 0 h).set k (ad k, bb_e ad cA c) = bb_ws ad cA 0 (h.set k c) := by
  have h1 := bb_ws_set (ad := ad) (cA := cA) (c := c) (h := h) (i := 0) (k := k)
  rwa [Nat.zero_add] at h1
/-! what the pure side reads and writes -/
def bb_gI (h : bb_H) (b ci k : Nat) : Option Int32 := match h[b]? with
  | some (.inr c, vs) => if c = ci then (match vs[k]? with | some (.int x) => some x | _ => none) else none
  | _ => none
def bb_gR (h : bb_H) (b ci k : Nat) : Option Nat := match h[b]? with
  | some (.inr c, vs) => if c = ci then (match vs[k]? with | some (.ref x) => some x | _ => none) else none
  | _ => none
def bb_pI (h : bb_H) (b ci k : Nat) (x : Int32) : Option bb_H := match h[b]? with
  | some (.inr c, vs) => if c = ci ∧ k < vs.length then some (h.set b (.inr c, vs.set k (.int x))) else none
  | _ => none
def bb_pZ (h : bb_H) (b ci k : Nat) (x : Int32) : Option bb_H := if x = 0 ∨ x = 1 then bb_pI h b ci k x else none
def bb_aI (h : bb_H) (a : Nat) (ty : FieldType) (i : Int32) : Option Int32 := match h[a]? with
  | some (.inl t, vs) => if t = ty ∧ ¬ i < 0 then (match vs[i.toNatClampNeg]? with | some (.int x) => some x | _ => none) else none
  | _ => none
def bb_aL (h : bb_H) (a : Nat) (i : Int32) : Option Int64 := match h[a]? with
  | some (.inl t, vs) => if t = .long ∧ ¬ i < 0 then (match vs[i.toNatClampNeg]? with | some (.long x) => some x | _ => none) else none
  | _ => none
def bb_aR (h : bb_H) (a : Nat) (ty : FieldType) (i : Int32) : Option Nat := match h[a]? with
  | some (.inl t, vs) => if t = ty ∧ ¬ i < 0 then (match vs[i.toNatClampNeg]? with | some (.ref x) => some x | _ => none) else none
  | _ => none
def bb_sV (h : bb_H) (a : Nat) (ty : FieldType) (i : Int32) (v : Value) : Option bb_H := match h[a]? with
  | some (.inl t, vs) => if t = ty ∧ ¬ i < 0 ∧ i.toNatClampNeg < vs.length then some (h.set a (.inl t, vs.set i.toNatClampNeg v)) else none
  | _ => none
/-- is the cell an object of the class of this number -/
def bb_is (h : bb_H) (b ci : Nat) : Bool := match h[b]? with
  | some (.inr c, _) => c == ci
  | _ => false
theorem bb_gI_spec {h : bb_H} {b ci k : Nat} {x : Int32} (e : bb_gI h b ci k = some x) : ∃ vs, h[b]? = some (.inr ci, vs) ∧ vs[k]? = some (.int x) := by
  unfold bb_gI at e
  split at e
  · rename_i c vs hb
    split at e
    · rename_i hc
      subst hc
      split at e
      · rename_i y hy
        cases e
        exact ⟨vs, hb, hy⟩
      · cases e
    · cases e
  · cases e
theorem bb_gR_spec {h : bb_H} {b ci k : Nat} {x : Nat} (e : bb_gR h b ci k = some x) : ∃ vs, h[b]? = some (.inr ci, vs) ∧ vs[k]? = some (.ref x) := by
  unfold bb_gR at e
  split at e
  · rename_i c vs hb
    split at e
    · rename_i hc
      subst hc
      split at e
      · rename_i y hy
        cases e
        exact ⟨vs, hb, hy⟩
      · cases e
    · cases e
  · cases e
theorem bb_pI_spec {h h' : bb_H} {b ci k : Nat} {x : Int32} (e : bb_pI h b ci k x = some h') : ∃ vs, h[b]? = some (.inr ci, vs) ∧ k < vs.length ∧ h' = h.set b (.inr ci, vs.set k (.int x)) := by
  unfold bb_pI at e
  split at e
  · rename_i c vs hb
    split at e
    · rename_i hc
      obtain ⟨hc, hk⟩ := hc
      subst hc
      cases e
      exact ⟨vs, hb, hk, rfl⟩
    · cases e
  · cases e
theorem bb_pZ_spec {h h' : bb_H} {b ci k : Nat} {x : Int32} (e : bb_pZ h b ci k x = some h') : (x = 0 ∨ x = 1) ∧ bb_pI h b ci k x = some h' := by
  unfold bb_pZ at e
  split at e
  · rename_i hx
    exact ⟨hx, e⟩
  · cases e
theorem bb_aI_spec {h : bb_H} {a : Nat} {ty : FieldType} {i x : Int32} (e : bb_aI h a ty i = some x) : ∃ vs, h[a]? = some (.inl ty, vs) ∧ ¬ i < 0 ∧ vs[i.toNatClampNeg]? = some (.int x) := by
  unfold bb_aI at e
  split at e
  · rename_i t vs hb
    split at e
    · rename_i hc
      obtain ⟨hc, hi⟩ := hc
      subst hc
      split at e
      · rename_i y hy
        cases e
        exact ⟨vs, hb, hi, hy⟩
      · cases e
    · cases e
  · cases e
theorem bb_aL_spec {h : bb_H} {a : Nat} {i : Int32} {x : Int64} (e : bb_aL h a i = some x) : ∃ vs, h[a]? = some (.inl .long, vs) ∧ ¬ i < 0 ∧ vs[i.toNatClampNeg]? = some (.long x) := by
  unfold bb_aL at e
  split at e
  · rename_i t vs hb
    split at e
    · rename_i hc
      obtain ⟨hc, hi⟩ := hc
      subst hc
      split at e
      · rename_i y hy
        cases e
        exact ⟨vs, hb, hi, hy⟩
      · cases e
    · cases e
  · cases e
theorem bb_aR_spec {h : bb_H} {a : Nat} {ty : FieldType} {i : Int32} {x : Nat} (e : bb_aR h a ty i = some x) : ∃ vs, h[a]? = some (.inl ty, vs) ∧ ¬ i < 0 ∧ vs[i.toNatClampNeg]? = some (.ref x) := by
  unfold bb_aR at e
  split at e
  · rename_i t vs hb
    split at e
    · rename_i hc
      obtain ⟨hc, hi⟩ := hc
      subst hc
      split at e
      · rename_i y hy
        cases e
        exact ⟨vs, hb, hi, hy⟩
      · cases e
    · cases e
  · cases e
theorem bb_sV_spec {h h' : bb_H} {a : Nat} {ty : FieldType} {i : Int32} {v : Value} (e : bb_sV h a ty i v = some h') : ∃ vs, h[a]? = some (.inl ty, vs) ∧ ¬ i < 0 ∧ i.toNatClampNeg < vs.length ∧ h' = h.set a (.inl ty, vs.set i.toNatClampNeg v) := by
  unfold bb_sV at e
  split at e
  · rename_i t vs hb
    split at e
    · rename_i hc
      obtain ⟨hc, hi, hl⟩ := hc
      subst hc
      cases e
      exact ⟨vs, hb, hi, hl, rfl⟩
    · cases e
  · cases e
theorem bb_is_spec {h : bb_H} {b ci : Nat} (e : bb_is h b ci = true) : ∃ vs, h[b]? = some (.inr ci, vs) := by
  unfold bb_is at e
  split at e
  · rename_i c vs hb
    rw [beq_iff_eq] at e
    subst e
    exact ⟨vs, hb⟩
  · cases e
theorem bb_nth {vs : List Value} {j : Nat} {v : Value} (e : vs[j]? = some v) : vs.getD j .null = v ∧ j < vs.length := by
  refine ⟨?_, (List.getElem?_eq_some_iff.mp e).1⟩
  rw [List.getD_eq_getElem?_getD, e]
  rfl
theorem bb_setf {α : Type} {vs : List Value} {j : Nat} {v : Value} (g : Value → α) (hj : j < vs.length) : (fun k => if k = j then g v else g (vs.getD k .null)) = fun k => g ((vs.set j v).getD k .null) := by
  funext k
  by_cases e : k = j
  · subst e
    rw [if_pos rfl, List.getD_eq_getElem?_getD, List.getElem?_set_self hj]
    rfl
  · rw [if_neg e, List.getD_eq_getElem?_getD, List.getD_eq_getElem?_getD, List.getElem?_set_ne (fun q => e q.symm)]
end
section
/-! THE JUDGEMENT: from here, whatever the addresses, the method comes to its end with this answer and this heap. -/
/-- the places that stand for the one String constant and its bytes, which lie outside the heap -/
abbrev bb_qs : Nat := 1000000
abbrev bb_qv : Nat := 1000001
def bb_good : List Cond := lw_tbl.filter goodWord
def bb_tys (cA : FieldType → ClassId) : List (ClassId × FieldType) := [(cA .int, .int), (cA .char, .char), (cA .long, .long), (cA (.object "BattleBench$Bench"), .object "BattleBench$Bench"), (cA (.object "BattleBench$Sheet"), .object "BattleBench$Sheet"), (cA (.array .int), .array .int)]
def bb_nests : List (String × Nat × MethodName × String) := [("BattleBench", 9, ⟨"BattleBench$State", "<init>", "()V"⟩, "BattleBench"), ("BattleBench$State", 9, ⟨"BattleBench$Roll", "<init>", "()V"⟩, "BattleBench"), ("BattleBench$State", 18, ⟨"BattleBench$Bench", "<init>", "()V"⟩, "BattleBench"), ("BattleBench$Log", 24, ⟨"BattleBench$Bench", "<init>", "()V"⟩, "BattleBench"), ("BattleBench", 25, ⟨"BattleBench$Tape", "<init>", "()V"⟩, "BattleBench"), ("BattleBench$Tape", 21, ⟨"BattleBench$Roll", "<init>", "()V"⟩, "BattleBench"), ("BattleBench", 38, ⟨"BattleBench$Bench", "<init>", "()V"⟩, "BattleBench"), ("BattleBench", 45, ⟨"BattleBench$Roll", "<init>", "()V"⟩, "BattleBench"), ("BattleBench", 52, ⟨"BattleBench$Order", "<init>", "()V"⟩, "BattleBench"), ("BattleBench", 61, ⟨"BattleBench$Sheet", "<init>", "()V"⟩, "BattleBench"), ("BattleBench$Roll", 27, ⟨"BattleBench", "within", "(III)Z"⟩, "BattleBench"), ("BattleBench$Bench", 32, ⟨"BattleBench", "within", "(III)Z"⟩, "BattleBench"), ("BattleBench$Roll", 55, ⟨"BattleBench", "holds", "(II)Z"⟩, "BattleBench"), ("BattleBench$Tape", 88, ⟨"BattleBench", "within", "(III)Z"⟩, "BattleBench"), ("BattleBench$Order", 28, ⟨"BattleBench", "holds", "(II)Z"⟩, "BattleBench"), ("BattleBench$Order", 35, ⟨"BattleBench", "within", "(III)Z"⟩, "BattleBench"), ("BattleBench$Sheet", 30, ⟨"BattleBench", "within", "(III)Z"⟩, "BattleBench")]
def bb_K (D : va_G) (cA : FieldType → ClassId) (qS : Nat) (U : State) : Prop := va_K D vwCl (bb_tys cA) U ∧ (∀ q ∈ bb_nests, va_Nw (.methodLinkNest q.1 q.2.1 q.2.2.1 q.2.2.2) U) ∧ vk_R "BattleBench$Tape" 49 "phudr" qS U
theorem bb_K.warm {D : va_G} {cA : FieldType → ClassId} {qS : Nat} {s U : State} (hW : s.WarmedH U.vm) (h : bb_K D cA qS s) : bb_K D cA qS U := ⟨va_K.moved hW.alike h.1, fun q hq => va_Nw.warmM hW (h.2.1 q hq), vk_R.warm hW h.2.2⟩
theorem bb_K.call {D : va_G} {cA : FieldType → ClassId} {qS : Nat} {U : State} (g : JFrame) (mk : MethodId) (a : Array Value) (h : bb_K D cA qS U) : bb_K D cA qS (U.calling g mk a) := ⟨va_K.moved (u := U) (U := U.calling g mk a) (Vm.Alike.refl U.vm) h.1, fun q hq => va_Nw.same (u := U) (U := U.calling g mk a) rfl rfl (h.2.1 q hq), vk_R.same (u := U) (U := U.calling g mk a) rfl h.2.2⟩
def bb_Z (qS qV : Nat) (A : Nat → Prop) (U : State) (H : Heap) : Prop := vk_S 1 [5] [[112, 104, 117, 100, 114]] (fun _ => qS) (fun _ => qV) A U H ∧ va_Z "java/lang/String" "COMPACT_STRINGS" "Z" (.int 1) A U H
theorem bb_Z.go {qS qV : Nat} {A B : Nat → Prop} {s U : State} {H H1 : Heap} (h : bb_Z qS qV A s H) (hvm : s.vm.Alike U.vm) (hq : ∀ a : Nat, a < H.size → ¬ A a → H1[a]? = H[a]?) (hAB : ∀ q, B q → A q) : bb_Z qS qV B U H1 :=
  ⟨((h.1.moved hvm).kept hq).narrow hAB, ((h.2.moved hvm).kept hq).narrow hAB⟩
/-! locals by their places; null: not known -/
def bb_L (ad : Nat → Nat) (nL : Nat) (ls : Array Slot) (L : List Value) : Prop := ls.size = nL ∧ lv_wf ls ∧ ∀ (i : Nat) (v : Value), L[i]? = some v → v ≠ .null → ls[i]? = some (.val (bb_cv ad v))
def bb_lp (ad : Nat → Nat) (L : List Value) : List (Nat × Value) := (List.range L.length).filterMap (fun k : Nat => match (L[k]? : Option Value) with | some Value.null => none | some v => some (k, bb_cv ad v) | none => none)
theorem bb_lp_mem {ad : Nat → Nat} {L : List Value} {i : Nat} {v : Value} (h : L[i]? = some v) (hv : v ≠ .null) : (i, bb_cv ad v) ∈ bb_lp ad L := by
  refine List.mem_filterMap.mpr ⟨i, List.mem_range.mpr (List.getElem?_eq_some_iff.mp h).1, ?_⟩
  rw [h]
  cases v <;> first | rfl | exact absurd rfl hv
theorem bb_lp_of {ad : Nat → Nat} {L : List Value} {q : Nat × Value} (h : q ∈ bb_lp ad L) : ∃ v, L[q.1]? = some v ∧ v ≠ .null ∧ q.2 = bb_cv ad v := by
  obtain ⟨k, -, hk⟩ := List.mem_filterMap.mp h
  split at hk
  · cases hk
  · rename_i v hne hv
    cases hk
    exact ⟨v, hv, fun e => hne (by rw [e]), rfl⟩
  · cases hk
theorem bb_L.has {ad : Nat → Nat} {nL : Nat} {ls : Array Slot} {L : List Value} (h : bb_L ad nL ls L) : lv_has ls nL (bb_lp ad L) := ⟨h.1, h.2.1, fun q hq => by
  obtain ⟨v, h1, h2, h3⟩ := bb_lp_of hq
  rw [h3]
  exact h.2.2 q.1 v h1 h2⟩
theorem bb_L.of {ad : Nat → Nat} {nL : Nat} {ls : Array Slot} {L : List Value} {lv : List (Nat × Value)} (h : lv_has ls nL lv) (hm : ∀ (i : Nat) (v : Value), L[i]? = some v → v ≠ .null → (i, bb_cv ad v) ∈ lv) : bb_L ad nL ls L := ⟨h.1, h.2.1, fun i v h1 h2 => h.2.2 (i, bb_cv ad v) (hm i v h1 h2)⟩
theorem bb_cat (ad : Nat → Nat) (v : Value) : (bb_cv ad v).category = v.category := by cases v <;> rfl
/-- no long ends at this place -/
def bb_nol (L : List Value) (i : Nat) : Bool := match i with
  | 0 => true
  | j + 1 => match L[j]? with
    | some v => v.category != 2
    | none => true
theorem bb_L.store {ad : Nat → Nat} {nL : Nat} {ls' : Array Slot} {L : List Value} {i : Nat} {w : Value} (hno : bb_nol L i = true) (h : lv_has ls' nL ((i, bb_cv ad w) :: (bb_lp ad L).filter (fun q => !(q.1 == i) && !(q.1 + 1 == i && q.2.category == 2)))) : bb_L ad nL ls' (L.set i w) := by
  refine bb_L.of h (fun k v hk hv => ?_)
  by_cases e : k = i
  · subst e
    have hl : k < L.length := by
      have := (List.getElem?_eq_some_iff.mp hk).1
      rwa [List.length_set] at this
    rw [List.getElem?_set_self hl] at hk
    cases hk
    exact List.mem_cons_self
  · rw [List.getElem?_set_ne (fun q => e q.symm)] at hk
    refine List.mem_cons_of_mem _ (List.mem_filter.mpr ⟨bb_lp_mem hk hv, ?_⟩)
    have e1 : (k == i) = false := by simpa using e
    have e2 : (k + 1 == i && (bb_cv ad v).category == 2) = false := by
      rw [bb_cat]
      cases i with
      | zero => simp
      | succ j =>
        by_cases hkj : k = j
        · subst hkj
          unfold bb_nol at hno
          simp only [hk] at hno
          simpa using hno
        · simp [hkj]
    simp [e1, e2]
theorem bb_L.fewer {ad : Nat → Nat} {nL : Nat} {ls : Array Slot} {L L' : List Value} (h : bb_L ad nL ls L) (hm : ∀ (i : Nat) (v : Value), L'[i]? = some v → v ≠ .null → L[i]? = some v) : bb_L ad nL ls L' := ⟨h.1, h.2.1, fun i v h1 h2 => h.2.2 i v (hm i v h1 h2) h2⟩
/-- at each place the same, or not known -/
def bb_le : List Value → List Value → Prop
  | [], _ => True
  | .null :: L', _ :: L => bb_le L' L
  | v :: L', w :: L => v = w ∧ bb_le L' L
  | _ :: _, [] => False
theorem bb_le.use : ∀ {L' L : List Value}, bb_le L' L → ∀ (i : Nat) (v : Value), L'[i]? = some v → v ≠ .null → L[i]? = some v
  | [], _, _, i, v, h, _ => by simp at h
  | a :: L', [], hle, i, v, h, hv => by
    unfold bb_le at hle
    cases a <;> exact absurd hle (by simp)
  | a :: L', w :: L, hle, i, v, h, hv => by
    cases i with
    | zero =>
      rw [List.getElem?_cons_zero] at h ⊢
      cases h
      unfold bb_le at hle
      cases a <;> first | exact absurd rfl hv | (rw [hle.1])
    | succ i =>
      rw [List.getElem?_cons_succ] at h ⊢
      refine bb_le.use (L' := L') (L := L) ?_ i v h hv
      unfold bb_le at hle
      cases a <;> first | exact hle | exact hle.2
/-! the static side of a walk, and the judgement -/
def bb_X (own : String) (cc : ByteArray) (nL : Nat) (ret : Option FieldType) (p : Program) (s : State) (m : MethodId) (args : Array Value) (meth : Method) (c : Code) (D : va_G) (cA : FieldType → ClassId) (qS qV : Nat) (A : Nat → Prop) : Prop :=
  p.tables.exec = Jvm.exec ∧ c.code = cc ∧ c.maxLocals = nL ∧ s.vm.findClass own = some m.cls ∧ (∀ w ∈ bb_good, w.before args s = true) ∧ meth.sig.returnType = ret ∧ meth.locks = false ∧ bb_K D cA qS s ∧ bb_Z qS qV A s s.heap ∧ (∀ q, s.heap.size ≤ q → A q)
def bb_Y (D : va_G) (cA : FieldType → ClassId) (A : Nat → Prop) (ad : Nat → Nat) (h : bb_H) (H0 H : Heap) (locs : List Loc) : Prop := va_P D vwCl (bb_ws ad cA 0 h) H ∧ va_D A (bb_ws ad cA 0 h) ∧ va_S A H0 H locs
def bb_B (D : va_G) (cA : FieldType → ClassId) (A : Nat → Prop) (ad : Nat → Nat) (h : bb_H) (t : State) : Prop := va_P D vwCl (bb_ws ad cA 0 h) t.heap ∧ va_D A (bb_ws ad cA 0 h)
def bb_Q (r : Option Value) (B : State → Prop) (A : Nat → Prop) : Array Value → State → Outcome → State → Prop := fun _ st oc t => (oc = .returned r ∧ B t) ∧ va_F A st t
def bb_J (own : String) (cc : ByteArray) (nL : Nat) (ret : Option FieldType) (rm : Room) (o : Option Value × bb_H) (pc : Nat) (L st : List Value) (h : bb_H) : Prop :=
  ∀ (p : Program) (l : Launch) (e : Env) (s : State) (m : MethodId) (args : Array Value) (below : List Frame) (meth : Method) (c : Code) (D : va_G) (cA : FieldType → ClassId) (A : Nat → Prop) (ad : Nat → Nat) (H : Heap) (locs : List Loc) (ls : Array Slot), bb_X own cc nL ret p s m args meth c D cA (ad bb_qs) (ad bb_qv) A → bb_Y D cA A ad h s.heap H locs → bb_L ad nL ls L →
    W p l e rm s m args below meth c H locs 0 0 (MQ below (bb_Q (o.1.map (bb_cv ad)) (bb_B D cA A ad o.2) A) args s 0 0 A) (F0 m pc ls (st.map (bb_cv ad)))
section BBJ
variable {own : String} {cc : ByteArray} {nL : Nat} {ret : Option FieldType} {rm : Room} {o : Option Value × bb_H} {pc : Nat} {L L' st : List Value} {h : bb_H}
theorem bb_fewer (hle : bb_le L' L) (k : bb_J own cc nL ret rm o pc L' st h) : bb_J own cc nL ret rm o pc L st h :=
  fun p l e s m args below meth c D cA A ad H locs ls hX hY hL => k p l e s m args below meth c D cA A ad H locs ls hX hY (hL.fewer hle.use)
theorem bb_iconst {n : Int} {v : Int32} (hd : decode cc pc = .ok (.iconst n, 1)) (hv : Int32.ofInt n = v) (k : bb_J own cc nL ret rm o (pc + 1) L (.int v :: st) h) : bb_J own cc nL ret rm o pc L st h :=
  fun p l e s m args below meth c D cA A ad H locs ls hX hY hL => lv_iconst hX.1 hX.2.1 hd hv (k p l e s m args below meth c D cA A ad H locs ls hX hY hL)
theorem bb_bipush {n : Int} {v : Int32} (hd : decode cc pc = .ok (.bipush n, 2)) (hv : (Int8.ofInt n).toInt32 = v) (k : bb_J own cc nL ret rm o (pc + 2) L (.int v :: st) h) : bb_J own cc nL ret rm o pc L st h :=
  fun p l e s m args below meth c D cA A ad H locs ls hX hY hL => lv_bipush hX.1 hX.2.1 hd hv (k p l e s m args below meth c D cA A ad H locs ls hX hY hL)
theorem bb_sipush {n : Int} {v : Int32} (hd : decode cc pc = .ok (.sipush n, 3)) (hv : (Int16.ofInt n).toInt32 = v) (k : bb_J own cc nL ret rm o (pc + 3) L (.int v :: st) h) : bb_J own cc nL ret rm o pc L st h :=
  fun p l e s m args below meth c D cA A ad H locs ls hX hY hL => lv_sipush hX.1 hX.2.1 hd hv (k p l e s m args below meth c D cA A ad H locs ls hX hY hL)
theorem bb_lconst {n : Fin 2} {v : Int64} (hd : decode cc pc = .ok (.lconst n, 1)) (hv : Int64.ofNat (n : Nat) = v) (k : bb_J own cc nL ret rm o (pc + 1) L (.long v :: st) h) : bb_J own cc nL ret rm o pc L st h :=
  fun p l e s m args below meth c D cA A ad H locs ls hX hY hL => lv_lconst hX.1 hX.2.1 hd hv (k p l e s m args below meth c D cA A ad H locs ls hX hY hL)
theorem bb_ldc {ix : Nat} {v : Int32} (hc : Cond.constant own ix v ∈ bb_good) (hd : decode cc pc = .ok (.ldc ix, 2)) (k : bb_J own cc nL ret rm o (pc + 2) L (.int v :: st) h) : bb_J own cc nL ret rm o pc L st h :=
  fun p l e s m args below meth c D cA A ad H locs ls hX hY hL => lv_ldc hX.1 hX.2.1 hX.2.2.2.1 (hX.2.2.2.2.1 _ hc) hd (k p l e s m args below meth c D cA A ad H locs ls hX hY hL)
theorem bb_ldcw {ix : Nat} {v : Int32} (hc : Cond.constant own ix v ∈ bb_good) (hd : decode cc pc = .ok (.ldc_w ix, 3)) (k : bb_J own cc nL ret rm o (pc + 3) L (.int v :: st) h) : bb_J own cc nL ret rm o pc L st h :=
  fun p l e s m args below meth c D cA A ad H locs ls hX hY hL => lv_ldcw hX.1 hX.2.1 hX.2.2.2.1 (hX.2.2.2.2.1 _ hc) hd (k p l e s m args below meth c D cA A ad H locs ls hX hY hL)
theorem bb_iload {i : Nat} {x : Int32} (hd : decode cc pc = .ok (.iload i, 2)) (hl : L[i]? = some (.int x)) (k : bb_J own cc nL ret rm o (pc + 2) L (.int x :: st) h) : bb_J own cc nL ret rm o pc L st h :=
  fun p l e s m args below meth c D cA A ad H locs ls hX hY hL => lv_iload hX.1 hX.2.1 hd (hL.2.2 i _ hl (fun z => by cases z)) (k p l e s m args below meth c D cA A ad H locs ls hX hY hL)
theorem bb_iload_n {i : Fin 4} {x : Int32} (hd : decode cc pc = .ok (.iload_n i, 1)) (hl : L[(i : Nat)]? = some (.int x)) (k : bb_J own cc nL ret rm o (pc + 1) L (.int x :: st) h) : bb_J own cc nL ret rm o pc L st h :=
  fun p l e s m args below meth c D cA A ad H locs ls hX hY hL => lv_iload_n hX.1 hX.2.1 hd rfl (hL.2.2 i _ hl (fun z => by cases z)) (k p l e s m args below meth c D cA A ad H locs ls hX hY hL)
theorem bb_lload {i : Nat} {x : Int64} (hd : decode cc pc = .ok (.lload i, 2)) (hl : L[i]? = some (.long x)) (k : bb_J own cc nL ret rm o (pc + 2) L (.long x :: st) h) : bb_J own cc nL ret rm o pc L st h :=
  fun p l e s m args below meth c D cA A ad H locs ls hX hY hL => lv_lload hX.1 hX.2.1 hd (hL.2.2 i _ hl (fun z => by cases z)) (k p l e s m args below meth c D cA A ad H locs ls hX hY hL)
theorem bb_lload_n {i : Fin 4} {x : Int64} (hd : decode cc pc = .ok (.lload_n i, 1)) (hl : L[(i : Nat)]? = some (.long x)) (k : bb_J own cc nL ret rm o (pc + 1) L (.long x :: st) h) : bb_J own cc nL ret rm o pc L st h :=
  fun p l e s m args below meth c D cA A ad H locs ls hX hY hL => lv_lload_n hX.1 hX.2.1 hd rfl (hL.2.2 i _ hl (fun z => by cases z)) (k p l e s m args below meth c D cA A ad H locs ls hX hY hL)
theorem bb_aload {i : Nat} {x : Nat} (hd : decode cc pc = .ok (.aload i, 2)) (hl : L[i]? = some (.ref x)) (k : bb_J own cc nL ret rm o (pc + 2) L (.ref x :: st) h) : bb_J own cc nL ret rm o pc L st h :=
  fun p l e s m args below meth c D cA A ad H locs ls hX hY hL => lv_aload hX.1 hX.2.1 hd (hL.2.2 i _ hl (fun z => by cases z)) (k p l e s m args below meth c D cA A ad H locs ls hX hY hL)
theorem bb_aload_n {i : Fin 4} {x : Nat} (hd : decode cc pc = .ok (.aload_n i, 1)) (hl : L[(i : Nat)]? = some (.ref x)) (k : bb_J own cc nL ret rm o (pc + 1) L (.ref x :: st) h) : bb_J own cc nL ret rm o pc L st h :=
  fun p l e s m args below meth c D cA A ad H locs ls hX hY hL => lv_aload_n hX.1 hX.2.1 hd rfl (hL.2.2 i _ hl (fun z => by cases z)) (k p l e s m args below meth c D cA A ad H locs ls hX hY hL)
theorem bb_istore {i : Nat} {x : Int32} (hd : decode cc pc = .ok (.istore i, 2)) (hn : i < nL) (hno : bb_nol L i = true) (hL' : L.set i (.int x) = L') (k : bb_J own cc nL ret rm o (pc + 2) L' st h) : bb_J own cc nL ret rm o pc L (.int x :: st) h :=
  fun p l e s m args below meth c D cA A ad H locs ls hX hY hL => lv_istore hX.1 hX.2.1 hd hL.has hn rfl (fun ls' hl' => k p l e s m args below meth c D cA A ad H locs ls' hX hY (hL' ▸ bb_L.store hno hl'))
theorem bb_istore_n {i : Fin 4} {x : Int32} (hd : decode cc pc = .ok (.istore_n i, 1)) (hn : (i : Nat) < nL) (hno : bb_nol L i = true) (hL' : L.set i (.int x) = L') (k : bb_J own cc nL ret rm o (pc + 1) L' st h) : bb_J own cc nL ret rm o pc L (.int x :: st) h :=
  fun p l e s m args below meth c D cA A ad H locs ls hX hY hL => lv_istore_n hX.1 hX.2.1 hd rfl hL.has hn rfl (fun ls' hl' => k p l e s m args below meth c D cA A ad H locs ls' hX hY (hL' ▸ bb_L.store hno hl'))
theorem bb_astore {i : Nat} {x : Nat} (hd : decode cc pc = .ok (.astore i, 2)) (hn : i < nL) (hno : bb_nol L i = true) (hL' : L.set i (.ref x) = L') (k : bb_J own cc nL ret rm o (pc + 2) L' st h) : bb_J own cc nL ret rm o pc L (.ref x :: st) h :=
  fun p l e s m args below meth c D cA A ad H locs ls hX hY hL => lv_astore hX.1 hX.2.1 hd hL.has hn rfl (fun ls' hl' => k p l e s m args below meth c D cA A ad H locs ls' hX hY (hL' ▸ bb_L.store (w := .ref x) hno hl'))
theorem bb_astore_n {i : Fin 4} {x : Nat} (hd : decode cc pc = .ok (.astore_n i, 1)) (hn : (i : Nat) < nL) (hno : bb_nol L i = true) (hL' : L.set i (.ref x) = L') (k : bb_J own cc nL ret rm o (pc + 1) L' st h) : bb_J own cc nL ret rm o pc L (.ref x :: st) h :=
  fun p l e s m args below meth c D cA A ad H locs ls hX hY hL => lv_astore_n hX.1 hX.2.1 hd rfl hL.has hn rfl (fun ls' hl' => k p l e s m args below meth c D cA A ad H locs ls' hX hY (hL' ▸ bb_L.store (w := .ref x) hno hl'))
theorem bb_iinc {i : Nat} {n : Int} {x v : Int32} (hd : decode cc pc = .ok (.iinc i n, 3)) (hl : L[i]? = some (.int x)) (hv : x + Int32.ofInt n = v) (hn : i < nL) (hno : bb_nol L i = true) (hL' : L.set i (.int v) = L') (k : bb_J own cc nL ret rm o (pc + 3) L' st h) : bb_J own cc nL ret rm o pc L st h := by
  intro p l e s m args below meth c D cA A ad H locs ls hX hY hL
  obtain ⟨j, hj⟩ := List.getElem?_of_mem (bb_lp_mem (ad := ad) hl (fun z => by cases z))
  exact lv_iinc hX.1 hX.2.1 hd hL.has (k := j) hj hv hn rfl (fun ls' hl' => k p l e s m args below meth c D cA A ad H locs ls' hX hY (hL' ▸ bb_L.store hno hl'))
theorem bb_goto {off : Int} {tgt : Nat} (hd : decode cc pc = .ok (.goto off, 3)) (ht : (pc : Int) + off = (tgt : Int)) (k : bb_J own cc nL ret rm o tgt L st h) : bb_J own cc nL ret rm o pc L st h :=
  fun p l e s m args below meth c D cA A ad H locs ls hX hY hL => lv_goto hX.1 hX.2.1 hd ht (k p l e s m args below meth c D cA A ad H locs ls hX hY hL)
theorem bb_iadd {x y : Int32} (hd : decode cc pc = .ok (.iadd, 1)) (k : bb_J own cc nL ret rm o (pc + 1) L (.int (x + y) :: st) h) : bb_J own cc nL ret rm o pc L (.int y :: .int x :: st) h :=
  fun p l e s m args below meth c D cA A ad H locs ls hX hY hL => lv_iadd hX.1 hX.2.1 hd (k p l e s m args below meth c D cA A ad H locs ls hX hY hL)
theorem bb_isub {x y : Int32} (hd : decode cc pc = .ok (.isub, 1)) (k : bb_J own cc nL ret rm o (pc + 1) L (.int (x - y) :: st) h) : bb_J own cc nL ret rm o pc L (.int y :: .int x :: st) h :=
  fun p l e s m args below meth c D cA A ad H locs ls hX hY hL => lv_isub hX.1 hX.2.1 hd (k p l e s m args below meth c D cA A ad H locs ls hX hY hL)
theorem bb_imul {x y : Int32} (hd : decode cc pc = .ok (.imul, 1)) (k : bb_J own cc nL ret rm o (pc + 1) L (.int (x * y) :: st) h) : bb_J own cc nL ret rm o pc L (.int y :: .int x :: st) h :=
  fun p l e s m args below meth c D cA A ad H locs ls hX hY hL => lv_imul hX.1 hX.2.1 hd (k p l e s m args below meth c D cA A ad H locs ls hX hY hL)
theorem bb_iand {x y : Int32} (hd : decode cc pc = .ok (.iand, 1)) (k : bb_J own cc nL ret rm o (pc + 1) L (.int (x &&& y) :: st) h) : bb_J own cc nL ret rm o pc L (.int y :: .int x :: st) h :=
  fun p l e s m args below meth c D cA A ad H locs ls hX hY hL => lv_iand hX.1 hX.2.1 hd (k p l e s m args below meth c D cA A ad H locs ls hX hY hL)
theorem bb_ior {x y : Int32} (hd : decode cc pc = .ok (.ior, 1)) (k : bb_J own cc nL ret rm o (pc + 1) L (.int (x ||| y) :: st) h) : bb_J own cc nL ret rm o pc L (.int y :: .int x :: st) h :=
  fun p l e s m args below meth c D cA A ad H locs ls hX hY hL => lv_ior hX.1 hX.2.1 hd (k p l e s m args below meth c D cA A ad H locs ls hX hY hL)
theorem bb_ixor {x y : Int32} (hd : decode cc pc = .ok (.ixor, 1)) (k : bb_J own cc nL ret rm o (pc + 1) L (.int (x ^^^ y) :: st) h) : bb_J own cc nL ret rm o pc L (.int y :: .int x :: st) h :=
  fun p l e s m args below meth c D cA A ad H locs ls hX hY hL => lv_ixor hX.1 hX.2.1 hd (k p l e s m args below meth c D cA A ad H locs ls hX hY hL)
theorem bb_ishl {x y : Int32} (hd : decode cc pc = .ok (.ishl, 1)) (k : bb_J own cc nL ret rm o (pc + 1) L (.int (x <<< (y &&& 31)) :: st) h) : bb_J own cc nL ret rm o pc L (.int y :: .int x :: st) h :=
  fun p l e s m args below meth c D cA A ad H locs ls hX hY hL => lv_ishl hX.1 hX.2.1 hd (k p l e s m args below meth c D cA A ad H locs ls hX hY hL)
theorem bb_ishr {x y : Int32} (hd : decode cc pc = .ok (.ishr, 1)) (k : bb_J own cc nL ret rm o (pc + 1) L (.int (x >>> (y &&& 31)) :: st) h) : bb_J own cc nL ret rm o pc L (.int y :: .int x :: st) h :=
  fun p l e s m args below meth c D cA A ad H locs ls hX hY hL => lv_ishr hX.1 hX.2.1 hd (k p l e s m args below meth c D cA A ad H locs ls hX hY hL)
theorem bb_idiv {x y : Int32} (hd : decode cc pc = .ok (.idiv, 1)) (hne : ¬ y = 0) (k : bb_J own cc nL ret rm o (pc + 1) L (.int (x / y) :: st) h) : bb_J own cc nL ret rm o pc L (.int y :: .int x :: st) h :=
  fun p l e s m args below meth c D cA A ad H locs ls hX hY hL => lv_idiv hX.1 hX.2.1 hd hne (k p l e s m args below meth c D cA A ad H locs ls hX hY hL)
theorem bb_irem {x y : Int32} (hd : decode cc pc = .ok (.irem, 1)) (hne : ¬ y = 0) (k : bb_J own cc nL ret rm o (pc + 1) L (.int (x - x / y * y) :: st) h) : bb_J own cc nL ret rm o pc L (.int y :: .int x :: st) h :=
  fun p l e s m args below meth c D cA A ad H locs ls hX hY hL => lv_irem hX.1 hX.2.1 hd hne (k p l e s m args below meth c D cA A ad H locs ls hX hY hL)
theorem bb_ineg {x : Int32} (hd : decode cc pc = .ok (.ineg, 1)) (k : bb_J own cc nL ret rm o (pc + 1) L (.int (-x) :: st) h) : bb_J own cc nL ret rm o pc L (.int x :: st) h :=
  fun p l e s m args below meth c D cA A ad H locs ls hX hY hL => lv_ineg hX.1 hX.2.1 hd (k p l e s m args below meth c D cA A ad H locs ls hX hY hL)
theorem bb_iushr {x y : Int32} (hd : decode cc pc = .ok (.iushr, 1)) (k : bb_J own cc nL ret rm o (pc + 1) L (.int ((x.toUInt32 >>> (y.toUInt32 &&& Int32.toUInt32 31)).toInt32) :: st) h) : bb_J own cc nL ret rm o pc L (.int y :: .int x :: st) h :=
  fun p l e s m args below meth c D cA A ad H locs ls hX hY hL => lv_iushr hX.1 hX.2.1 hd rfl (k p l e s m args below meth c D cA A ad H locs ls hX hY hL)
theorem bb_i2l {x : Int32} (hd : decode cc pc = .ok (.i2l, 1)) (k : bb_J own cc nL ret rm o (pc + 1) L (.long x.toInt64 :: st) h) : bb_J own cc nL ret rm o pc L (.int x :: st) h :=
  fun p l e s m args below meth c D cA A ad H locs ls hX hY hL => lv_i2l hX.1 hX.2.1 hd rfl (k p l e s m args below meth c D cA A ad H locs ls hX hY hL)
theorem bb_l2i {x : Int64} (hd : decode cc pc = .ok (.l2i, 1)) (k : bb_J own cc nL ret rm o (pc + 1) L (.int x.toInt32 :: st) h) : bb_J own cc nL ret rm o pc L (.long x :: st) h :=
  fun p l e s m args below meth c D cA A ad H locs ls hX hY hL => lv_l2i hX.1 hX.2.1 hd rfl (k p l e s m args below meth c D cA A ad H locs ls hX hY hL)
theorem bb_i2b {x : Int32} (hd : decode cc pc = .ok (.i2b, 1)) (k : bb_J own cc nL ret rm o (pc + 1) L (.int x.toInt8.toInt32 :: st) h) : bb_J own cc nL ret rm o pc L (.int x :: st) h :=
  fun p l e s m args below meth c D cA A ad H locs ls hX hY hL => lv_i2b hX.1 hX.2.1 hd rfl (k p l e s m args below meth c D cA A ad H locs ls hX hY hL)
theorem bb_i2s {x : Int32} (hd : decode cc pc = .ok (.i2s, 1)) (k : bb_J own cc nL ret rm o (pc + 1) L (.int x.toInt16.toInt32 :: st) h) : bb_J own cc nL ret rm o pc L (.int x :: st) h :=
  fun p l e s m args below meth c D cA A ad H locs ls hX hY hL => lv_i2s hX.1 hX.2.1 hd rfl (k p l e s m args below meth c D cA A ad H locs ls hX hY hL)
theorem bb_i2c {x : Int32} (hd : decode cc pc = .ok (.i2c, 1)) (k : bb_J own cc nL ret rm o (pc + 1) L (.int (x.toUInt32 % 65536).toInt32 :: st) h) : bb_J own cc nL ret rm o pc L (.int x :: st) h :=
  fun p l e s m args below meth c D cA A ad H locs ls hX hY hL => lv_i2c hX.1 hX.2.1 hd rfl (k p l e s m args below meth c D cA A ad H locs ls hX hY hL)
theorem bb_lcmp {x y : Int64} (hd : decode cc pc = .ok (.lcmp, 1)) (k : bb_J own cc nL ret rm o (pc + 1) L (.int (lg_cmp x y) :: st) h) : bb_J own cc nL ret rm o pc L (.long y :: .long x :: st) h :=
  fun p l e s m args below meth c D cA A ad H locs ls hX hY hL => W.lcmp hX.1 hX.2.1 hd (k p l e s m args below meth c D cA A ad H locs ls hX hY hL)
theorem bb_dup {v : Value} (hd : decode cc pc = .ok (.dup, 1)) (hv : v.category = 1) (k : bb_J own cc nL ret rm o (pc + 1) L (v :: v :: st) h) : bb_J own cc nL ret rm o pc L (v :: st) h :=
  fun p l e s m args below meth c D cA A ad H locs ls hX hY hL => lv_dup hX.1 hX.2.1 hd ((bb_cat ad v).trans hv) (k p l e s m args below meth c D cA A ad H locs ls hX hY hL)
theorem bb_dup2 {v w : Value} (hd : decode cc pc = .ok (.dup2, 1)) (hv : v.category = 1) (hw : w.category = 1) (k : bb_J own cc nL ret rm o (pc + 1) L (v :: w :: v :: w :: st) h) : bb_J own cc nL ret rm o pc L (v :: w :: st) h :=
  fun p l e s m args below meth c D cA A ad H locs ls hX hY hL => lv_dup2_11 hX.1 hX.2.1 hd ((bb_cat ad v).trans hv) ((bb_cat ad w).trans hw) (k p l e s m args below meth c D cA A ad H locs ls hX hY hL)
theorem bb_pop {v : Value} (hd : decode cc pc = .ok (.pop, 1)) (hv : v.category = 1) (k : bb_J own cc nL ret rm o (pc + 1) L st h) : bb_J own cc nL ret rm o pc L (v :: st) h :=
  fun p l e s m args below meth c D cA A ad H locs ls hX hY hL => lv_pop hX.1 hX.2.1 hd ((bb_cat ad v).trans hv) (k p l e s m args below meth c D cA A ad H locs ls hX hY hL)
theorem bb_icmp_eq {x y : Int32} {off : Int} {tgt : Nat} (hd : decode cc pc = .ok (.if_icmp .eq off, 3)) (ht : (pc : Int) + off = (tgt : Int)) (kt : x = y → bb_J own cc nL ret rm o tgt L st h) (kf : ¬ x = y → bb_J own cc nL ret rm o (pc + 3) L st h) : bb_J own cc nL ret rm o pc L (.int y :: .int x :: st) h :=
  fun p l e s m args below meth c D cA A ad H locs ls hX hY hL => lv_icmp_eq hX.1 hX.2.1 hd ht (fun q => kt q p l e s m args below meth c D cA A ad H locs ls hX hY hL) (fun q => kf q p l e s m args below meth c D cA A ad H locs ls hX hY hL)
theorem bb_if_eq {x : Int32} {off : Int} {tgt : Nat} (hd : decode cc pc = .ok (.ifCond .eq off, 3)) (ht : (pc : Int) + off = (tgt : Int)) (kt : x = 0 → bb_J own cc nL ret rm o tgt L st h) (kf : ¬ x = 0 → bb_J own cc nL ret rm o (pc + 3) L st h) : bb_J own cc nL ret rm o pc L (.int x :: st) h :=
  fun p l e s m args below meth c D cA A ad H locs ls hX hY hL => lv_if_eq hX.1 hX.2.1 hd ht (fun q => kt q p l e s m args below meth c D cA A ad H locs ls hX hY hL) (fun q => kf q p l e s m args below meth c D cA A ad H locs ls hX hY hL)
theorem bb_icmp_ne {x y : Int32} {off : Int} {tgt : Nat} (hd : decode cc pc = .ok (.if_icmp .ne off, 3)) (ht : (pc : Int) + off = (tgt : Int)) (kt : ¬ x = y → bb_J own cc nL ret rm o tgt L st h) (kf : x = y → bb_J own cc nL ret rm o (pc + 3) L st h) : bb_J own cc nL ret rm o pc L (.int y :: .int x :: st) h :=
  fun p l e s m args below meth c D cA A ad H locs ls hX hY hL => lv_icmp_ne hX.1 hX.2.1 hd ht (fun q => kt q p l e s m args below meth c D cA A ad H locs ls hX hY hL) (fun q => kf q p l e s m args below meth c D cA A ad H locs ls hX hY hL)
theorem bb_if_ne {x : Int32} {off : Int} {tgt : Nat} (hd : decode cc pc = .ok (.ifCond .ne off, 3)) (ht : (pc : Int) + off = (tgt : Int)) (kt : ¬ x = 0 → bb_J own cc nL ret rm o tgt L st h) (kf : x = 0 → bb_J own cc nL ret rm o (pc + 3) L st h) : bb_J own cc nL ret rm o pc L (.int x :: st) h :=
  fun p l e s m args below meth c D cA A ad H locs ls hX hY hL => lv_if_ne hX.1 hX.2.1 hd ht (fun q => kt q p l e s m args below meth c D cA A ad H locs ls hX hY hL) (fun q => kf q p l e s m args below meth c D cA A ad H locs ls hX hY hL)
theorem bb_icmp_lt {x y : Int32} {off : Int} {tgt : Nat} (hd : decode cc pc = .ok (.if_icmp .lt off, 3)) (ht : (pc : Int) + off = (tgt : Int)) (kt : x < y → bb_J own cc nL ret rm o tgt L st h) (kf : ¬ x < y → bb_J own cc nL ret rm o (pc + 3) L st h) : bb_J own cc nL ret rm o pc L (.int y :: .int x :: st) h :=
  fun p l e s m args below meth c D cA A ad H locs ls hX hY hL => lv_icmp_lt hX.1 hX.2.1 hd ht (fun q => kt q p l e s m args below meth c D cA A ad H locs ls hX hY hL) (fun q => kf q p l e s m args below meth c D cA A ad H locs ls hX hY hL)
theorem bb_if_lt {x : Int32} {off : Int} {tgt : Nat} (hd : decode cc pc = .ok (.ifCond .lt off, 3)) (ht : (pc : Int) + off = (tgt : Int)) (kt : x < 0 → bb_J own cc nL ret rm o tgt L st h) (kf : ¬ x < 0 → bb_J own cc nL ret rm o (pc + 3) L st h) : bb_J own cc nL ret rm o pc L (.int x :: st) h :=
  fun p l e s m args below meth c D cA A ad H locs ls hX hY hL => lv_if_lt hX.1 hX.2.1 hd ht (fun q => kt q p l e s m args below meth c D cA A ad H locs ls hX hY hL) (fun q => kf q p l e s m args below meth c D cA A ad H locs ls hX hY hL)
theorem bb_icmp_ge {x y : Int32} {off : Int} {tgt : Nat} (hd : decode cc pc = .ok (.if_icmp .ge off, 3)) (ht : (pc : Int) + off = (tgt : Int)) (kt : y ≤ x → bb_J own cc nL ret rm o tgt L st h) (kf : ¬ y ≤ x → bb_J own cc nL ret rm o (pc + 3) L st h) : bb_J own cc nL ret rm o pc L (.int y :: .int x :: st) h :=
  fun p l e s m args below meth c D cA A ad H locs ls hX hY hL => lv_icmp_ge hX.1 hX.2.1 hd ht (fun q => kt q p l e s m args below meth c D cA A ad H locs ls hX hY hL) (fun q => kf q p l e s m args below meth c D cA A ad H locs ls hX hY hL)
theorem bb_if_ge {x : Int32} {off : Int} {tgt : Nat} (hd : decode cc pc = .ok (.ifCond .ge off, 3)) (ht : (pc : Int) + off = (tgt : Int)) (kt : 0 ≤ x → bb_J own cc nL ret rm o tgt L st h) (kf : ¬ 0 ≤ x → bb_J own cc nL ret rm o (pc + 3) L st h) : bb_J own cc nL ret rm o pc L (.int x :: st) h :=
  fun p l e s m args below meth c D cA A ad H locs ls hX hY hL => lv_if_ge hX.1 hX.2.1 hd ht (fun q => kt q p l e s m args below meth c D cA A ad H locs ls hX hY hL) (fun q => kf q p l e s m args below meth c D cA A ad H locs ls hX hY hL)
theorem bb_icmp_gt {x y : Int32} {off : Int} {tgt : Nat} (hd : decode cc pc = .ok (.if_icmp .gt off, 3)) (ht : (pc : Int) + off = (tgt : Int)) (kt : y < x → bb_J own cc nL ret rm o tgt L st h) (kf : ¬ y < x → bb_J own cc nL ret rm o (pc + 3) L st h) : bb_J own cc nL ret rm o pc L (.int y :: .int x :: st) h :=
  fun p l e s m args below meth c D cA A ad H locs ls hX hY hL => lv_icmp_gt hX.1 hX.2.1 hd ht (fun q => kt q p l e s m args below meth c D cA A ad H locs ls hX hY hL) (fun q => kf q p l e s m args below meth c D cA A ad H locs ls hX hY hL)
theorem bb_if_gt {x : Int32} {off : Int} {tgt : Nat} (hd : decode cc pc = .ok (.ifCond .gt off, 3)) (ht : (pc : Int) + off = (tgt : Int)) (kt : 0 < x → bb_J own cc nL ret rm o tgt L st h) (kf : ¬ 0 < x → bb_J own cc nL ret rm o (pc + 3) L st h) : bb_J own cc nL ret rm o pc L (.int x :: st) h :=
  fun p l e s m args below meth c D cA A ad H locs ls hX hY hL => lv_if_gt hX.1 hX.2.1 hd ht (fun q => kt q p l e s m args below meth c D cA A ad H locs ls hX hY hL) (fun q => kf q p l e s m args below meth c D cA A ad H locs ls hX hY hL)
theorem bb_icmp_le {x y : Int32} {off : Int} {tgt : Nat} (hd : decode cc pc = .ok (.if_icmp .le off, 3)) (ht : (pc : Int) + off = (tgt : Int)) (kt : x ≤ y → bb_J own cc nL ret rm o tgt L st h) (kf : ¬ x ≤ y → bb_J own cc nL ret rm o (pc + 3) L st h) : bb_J own cc nL ret rm o pc L (.int y :: .int x :: st) h :=
  fun p l e s m args below meth c D cA A ad H locs ls hX hY hL => lv_icmp_le hX.1 hX.2.1 hd ht (fun q => kt q p l e s m args below meth c D cA A ad H locs ls hX hY hL) (fun q => kf q p l e s m args below meth c D cA A ad H locs ls hX hY hL)
theorem bb_if_le {x : Int32} {off : Int} {tgt : Nat} (hd : decode cc pc = .ok (.ifCond .le off, 3)) (ht : (pc : Int) + off = (tgt : Int)) (kt : x ≤ 0 → bb_J own cc nL ret rm o tgt L st h) (kf : ¬ x ≤ 0 → bb_J own cc nL ret rm o (pc + 3) L st h) : bb_J own cc nL ret rm o pc L (.int x :: st) h :=
  fun p l e s m args below meth c D cA A ad H locs ls hX hY hL => lv_if_le hX.1 hX.2.1 hd ht (fun q => kt q p l e s m args below meth c D cA A ad H locs ls hX hY hL) (fun q => kf q p l e s m args below meth c D cA A ad H locs ls hX hY hL)
theorem bb_tableIn {dflt lo hi : Int} {offs : Array Int} {len : Nat} {x : Int32} {off : Int} {tgt : Nat} (hd : decode cc pc = .ok (.tableswitch dflt lo hi offs, len)) (h1 : ¬ x.toInt < lo) (h2 : ¬ hi < x.toInt) (ho : offs[(x.toInt - lo).toNat]? = some off) (ht : (pc : Int) + off = (tgt : Int)) (k : bb_J own cc nL ret rm o tgt L st h) : bb_J own cc nL ret rm o pc L (.int x :: st) h :=
  fun p l e s m args below meth c D cA A ad H locs ls hX hY hL => lv_tableIn hX.1 hX.2.1 hd h1 h2 ho ht (k p l e s m args below meth c D cA A ad H locs ls hX hY hL)
theorem bb_tableOut {dflt lo hi : Int} {offs : Array Int} {len : Nat} {x : Int32} {tgt : Nat} (hd : decode cc pc = .ok (.tableswitch dflt lo hi offs, len)) (h1 : x.toInt < lo ∨ hi < x.toInt) (ht : (pc : Int) + dflt = (tgt : Int)) (k : bb_J own cc nL ret rm o tgt L st h) : bb_J own cc nL ret rm o pc L (.int x :: st) h :=
  fun p l e s m args below meth c D cA A ad H locs ls hX hY hL => lv_tableOut hX.1 hX.2.1 hd h1 ht (k p l e s m args below meth c D cA A ad H locs ls hX hY hL)
theorem bb_lookup {dflt : Int} {ps : Array (Int × Int)} {len : Nat} {x : Int32} {off : Int} {tgt : Nat} (hd : decode cc pc = .ok (.lookupswitch dflt ps, len)) (hp : (ps.toList.zip (ps.toList.drop 1)).all (fun (a, next) => a.1 < next.1) = true) (ho : Op.lookupswitch.offset ps.toList dflt x.toInt = off) (ht : (pc : Int) + off = (tgt : Int)) (k : bb_J own cc nL ret rm o tgt L st h) : bb_J own cc nL ret rm o pc L (.int x :: st) h :=
  fun p l e s m args below meth c D cA A ad H locs ls hX hY hL => lv_lookup hX.1 hX.2.1 hd hp ho ht (k p l e s m args below meth c D cA A ad H locs ls hX hY hL)
theorem bb_swout (x : Int32) (lo hi : Nat) (hh : hi < 2 ^ 31) (q : ∀ n, lo ≤ n → n ≤ hi → x ≠ nI n) : x.toInt < (lo : Int) ∨ (hi : Int) < x.toInt := by
  by_cases h1 : x.toInt < (lo : Int)
  · exact Or.inl h1
  · by_cases h2 : (hi : Int) < x.toInt
    · exact Or.inr h2
    · exfalso
      refine q x.toInt.toNat (by omega) (by omega) ?_
      apply Int32.toInt_inj.mp
      rw [nI_toInt (by omega)]
      omega
/-! fields -/
def bb_fl (own : String) (ix ci k : Nat) : Prop := ∃ (C : String) (T : u_T) (N : Nat), vwCl[ci]? = some (C, T, N) ∧ k < N ∧ (∀ w ∈ u_ws C T N, w ∈ bb_good) ∧ Cond.fieldLink own ix (T k).1 (T k).2.1 (T k).2.2.1 ∈ bb_good
def bb_fp (own : String) (ix ci k : Nat) (ty : FieldType) : Prop := ∃ (C : String) (T : u_T) (N : Nat) (ty0 : Nat → FieldType), vwCl[ci]? = some (C, T, N) ∧ k < N ∧ (∀ w ∈ u_ws C T N, w ∈ bb_good) ∧ Cond.fieldLink own ix (T k).1 (T k).2.1 (T k).2.2.1 ∈ bb_good ∧ (∀ k, k < N → parseFieldDescriptor (T k).2.2.1 = some (ty0 k)) ∧ (∀ a, a < N → ∀ b, b < N → a ≠ b → (T a).2.1 ≠ (T b).2.1) ∧ (T k).2.2.2 = false ∧ ty0 k = ty
theorem bb_getV {ix ci k b : Nat} {v : Value} {vs : List Value} (hf : bb_fl own ix ci k) (hd : decode cc pc = .ok (.getfield ix, 3)) (hb : h[b]? = some (.inr ci, vs)) (hv : vs[k]? = some v) (kk : bb_J own cc nL ret rm o (pc + 3) L (v :: st) h) : bb_J own cc nL ret rm o pc L (.ref b :: st) h := by
  intro p l e s m args below meth c D cA A ad H locs ls hX hY hL
  obtain ⟨C, T, N, hc, hk, hin, hl⟩ := hf
  refine va_get (C := C) (T := T) (N := N) hX.1 hX.2.1 hX.2.2.2.2.1 hin hX.2.2.2.1 hX.2.2.2.2.2.2.2.1.1 hY.1 b (bb_ws_0 hb) hc k hk (hX.2.2.2.2.1 _ hl) (fun _ q => q) (v := bb_cv ad v) ?_ hd (kk p l e s m args below meth c D cA A ad H locs ls hX hY hL)
  rw [List.getElem?_map, hv]
  rfl
theorem bb_getI {ix ci k b : Nat} {x : Int32} (hf : bb_fl own ix ci k) (hd : decode cc pc = .ok (.getfield ix, 3)) (hb : bb_gI h b ci k = some x) (kk : bb_J own cc nL ret rm o (pc + 3) L (.int x :: st) h) : bb_J own cc nL ret rm o pc L (.ref b :: st) h := by
  obtain ⟨vs, h1, h2⟩ := bb_gI_spec hb
  exact bb_getV hf hd h1 h2 kk
theorem bb_getR {ix ci k b : Nat} {x : Nat} (hf : bb_fl own ix ci k) (hd : decode cc pc = .ok (.getfield ix, 3)) (hb : bb_gR h b ci k = some x) (kk : bb_J own cc nL ret rm o (pc + 3) L (.ref x :: st) h) : bb_J own cc nL ret rm o pc L (.ref b :: st) h := by
  obtain ⟨vs, h1, h2⟩ := bb_gR_spec hb
  exact bb_getV hf hd h1 h2 kk
theorem bb_putV {ix ci k b : Nat} {ty : FieldType} {v : Value} {vs : List Value} (hf : bb_fp own ix ci k ty) (hd : decode cc pc = .ok (.putfield ix, 3)) (hb : h[b]? = some (.inr ci, vs)) (hk2 : k < vs.length) (hn : narrow ty v = v) (hfit : fits ty v = true) (hcv : ∀ ad, bb_cv ad v = v) (kk : bb_J own cc nL ret rm o (pc + 3) L st (h.set b (.inr ci, vs.set k v))) : bb_J own cc nL ret rm o pc L (v :: .ref b :: st) h := by
  intro p l e s m args below meth c D cA A ad H locs ls hX hY hL
  obtain ⟨C, T, N, ty0, hc, hk, hin, hl, hty, hnm, hfin, rfl⟩ := hf
  obtain ⟨hP, hD, hS⟩ := hY
  rw [show (v :: Value.ref b :: st).map (bb_cv ad) = v :: .ref (ad b) :: st.map (bb_cv ad) by simp only [List.map_cons, hcv]; rfl]
  refine va_put (C := C) (T := T) (N := N) hX.1 hX.2.1 hX.2.2.2.2.1 hin ty0 hty hnm hX.2.2.2.1 hX.2.2.2.2.2.2.2.1.1 hP hD hS b (bb_ws_0 hb) hc k hk (hX.2.2.2.2.1 _ hl) (fun _ q => q) hfin (hty k hk) hn hfit (by rw [List.length_map]; exact hk2) hd (fun H1 locs1 hP1 hD1 hS1 => ?_)
  have e0 : (vs.map (bb_cv ad)).set k v = (vs.set k v).map (bb_cv ad) := by rw [List.map_set, hcv]
  rw [e0] at hP1 hD1
  have e2 := bb_ws_set0 (ad := ad) (cA := cA) (c := ((.inr ci, vs.set k v) : bb_C)) (h := h) (k := b)
  exact kk p l e s m args below meth c D cA A ad H1 locs1 ls hX ⟨by rw [← e2]; exact hP1, by rw [← e2]; exact hD1, hS1⟩ hL
theorem bb_putI {ix ci k b : Nat} {x : Int32} {h' : bb_H} (hf : bb_fp own ix ci k .int) (hd : decode cc pc = .ok (.putfield ix, 3)) (hb : bb_pI h b ci k x = some h') (kk : bb_J own cc nL ret rm o (pc + 3) L st h') : bb_J own cc nL ret rm o pc L (.int x :: .ref b :: st) h := by
  obtain ⟨vs, h1, h2, rfl⟩ := bb_pI_spec hb
  exact bb_putV hf hd h1 h2 rfl rfl (fun _ => rfl) kk
theorem bb_nz {x : Int32} (hx : x = 0 ∨ x = 1) : narrow .boolean (.int x) = .int x ∧ fits .boolean (.int x) = true := by
  rcases hx with rfl | rfl <;> exact ⟨rfl, rfl⟩
theorem bb_putZ {ix ci k b : Nat} {x : Int32} {h' : bb_H} (hf : bb_fp own ix ci k .boolean) (hd : decode cc pc = .ok (.putfield ix, 3)) (hb : bb_pZ h b ci k x = some h') (kk : bb_J own cc nL ret rm o (pc + 3) L st h') : bb_J own cc nL ret rm o pc L (.int x :: .ref b :: st) h := by
  obtain ⟨hx, hb⟩ := bb_pZ_spec hb
  obtain ⟨vs, h1, h2, rfl⟩ := bb_pI_spec hb
  exact bb_putV hf hd h1 h2 (bb_nz hx).1 (bb_nz hx).2 (fun _ => rfl) kk
/-! arrays -/
theorem bb_in {vs : List Value} {i : Int32} (hi : ¬ i < 0) (hl : i.toNatClampNeg < vs.length) : vp_in i vs.length := fun q => q.elim hi (fun z => absurd hl (Nat.not_lt.mpr z))
theorem bb_iaload {a : Nat} {i x : Int32} (hd : decode cc pc = .ok (.iaload, 1)) (hb : bb_aI h a .int i = some x) (kk : bb_J own cc nL ret rm o (pc + 1) L (.int x :: st) h) : bb_J own cc nL ret rm o pc L (.int i :: .ref a :: st) h := by
  intro p l e s m args below meth c D cA A ad H locs ls hX hY hL
  obtain ⟨vs, h1, h2, h3⟩ := bb_aI_spec hb
  obtain ⟨e1, e2⟩ := bb_nth h3
  refine va_iald hX.1 hX.2.1 hX.2.2.2.2.2.2.2.1.1 hY.1 a 0 (bb_ws_0 h1) rfl (bb_in h2 e2) hd ?_
  rw [show bb_toI (vs.getD i.toNatClampNeg .null) = x by rw [e1]; rfl]
  exact kk p l e s m args below meth c D cA A ad H locs ls hX hY hL
theorem bb_caload {a : Nat} {i x : Int32} (hd : decode cc pc = .ok (.caload, 1)) (hb : bb_aI h a .char i = some x) (kk : bb_J own cc nL ret rm o (pc + 1) L (.int x :: st) h) : bb_J own cc nL ret rm o pc L (.int i :: .ref a :: st) h := by
  intro p l e s m args below meth c D cA A ad H locs ls hX hY hL
  obtain ⟨vs, h1, h2, h3⟩ := bb_aI_spec hb
  obtain ⟨e1, e2⟩ := bb_nth h3
  refine va_cald hX.1 hX.2.1 hX.2.2.2.2.2.2.2.1.1 hY.1 a 1 (bb_ws_0 h1) rfl (bb_in h2 e2) hd ?_
  rw [show bb_toI (vs.getD i.toNatClampNeg .null) = x by rw [e1]; rfl]
  exact kk p l e s m args below meth c D cA A ad H locs ls hX hY hL
theorem bb_laload {a : Nat} {i : Int32} {x : Int64} (hd : decode cc pc = .ok (.laload, 1)) (hb : bb_aL h a i = some x) (kk : bb_J own cc nL ret rm o (pc + 1) L (.long x :: st) h) : bb_J own cc nL ret rm o pc L (.int i :: .ref a :: st) h := by
  intro p l e s m args below meth c D cA A ad H locs ls hX hY hL
  obtain ⟨vs, h1, h2, h3⟩ := bb_aL_spec hb
  obtain ⟨e1, e2⟩ := bb_nth h3
  refine va_lald hX.1 hX.2.1 hX.2.2.2.2.2.2.2.1.1 hY.1 a 2 (bb_ws_0 h1) rfl (bb_in h2 e2) hd ?_
  rw [show bb_toL (vs.getD i.toNatClampNeg .null) = x by rw [e1]; rfl]
  exact kk p l e s m args below meth c D cA A ad H locs ls hX hY hL
theorem bb_aaload {a t0 : Nat} {ty : FieldType} {i : Int32} {x : Nat} (ht : ∀ cA, (bb_tys cA)[t0]? = some (cA ty, ty)) (hr : ty.isReference = true) (ha : ∀ ad vs, bb_arr ad ty vs = (vs.length, .inr (.inr (.inr (.inr (fun j => bb_toR ad (vs.getD j .null))))))) (hd : decode cc pc = .ok (.aaload, 1)) (hb : bb_aR h a ty i = some x) (kk : bb_J own cc nL ret rm o (pc + 1) L (.ref x :: st) h) : bb_J own cc nL ret rm o pc L (.int i :: .ref a :: st) h := by
  intro p l e s m args below meth c D cA A ad H locs ls hX hY hL
  obtain ⟨vs, h1, h2, h3⟩ := bb_aR_spec hb
  obtain ⟨e1, e2⟩ := bb_nth h3
  have hc := hY.1 a _ (bb_ws_0 (ad := ad) (cA := cA) h1)
  have hc : H[ad a]? = some (vp_cell (cA ty) (bb_arr ad ty vs)) := hc
  rw [ha] at hc
  refine W.aald (v := .ref (ad x)) (ty := ty) hX.1 hX.2.1 hc (((hX.2.2.2.2.2.2.2.1.1).2 t0 _ (ht cA)).1 vs.length (fun j => va_rf (bb_toR ad (vs.getD j .null)))) hr (fun q => by cases q) ?_ ?_ rfl rfl hd (kk p l e s m args below meth c D cA A ad H locs ls hX hY hL)
  · show ¬ (i < 0 ∨ (arrV _ _ _).slots.size ≤ _)
    rw [arrV_size]
    exact bb_in h2 e2
  · show (arrV _ _ _).slots[_]? = _
    rw [arrV_read _ _ e2]
    show some (va_rf (bb_toR ad (vs.getD i.toNatClampNeg Value.null))) = _
    rw [e1]
    rfl
theorem bb_iastore {a : Nat} {i x : Int32} {h' : bb_H} (hd : decode cc pc = .ok (.iastore, 1)) (hb : bb_sV h a .int i (.int x) = some h') (kk : bb_J own cc nL ret rm o (pc + 1) L st h') : bb_J own cc nL ret rm o pc L (.int x :: .int i :: .ref a :: st) h := by
  intro p l e s m args below meth c D cA A ad H locs ls hX hY hL
  obtain ⟨vs, h1, h2, h3, rfl⟩ := bb_sV_spec hb
  obtain ⟨hP, hD, hS⟩ := hY
  refine va_iast hX.1 hX.2.1 hX.2.2.2.2.2.2.2.1.1 hP hD hS a 0 (bb_ws_0 h1) rfl (bb_in h2 h3) hd (fun H1 locs1 hP1 hD1 hS1 => ?_)
  have e0 : upd (fun j => bb_toI (vs.getD j .null)) i.toNatClampNeg x = fun k => bb_toI ((vs.set i.toNatClampNeg (.int x)).getD k .null) := bb_setf (v := (.int x)) bb_toI h3
  have e3 : ((cA .int, vs.length, .inl (upd (fun j => bb_toI (vs.getD j .null)) i.toNatClampNeg x)) : ClassId × vp_A) = (cA .int, bb_arr ad .int (vs.set i.toNatClampNeg (.int x))) := by rw [e0]; show _ = (cA .int, ((vs.set i.toNatClampNeg (.int x)).length, _)); rw [List.length_set]
  rw [e3] at hP1 hD1
  have e2 := bb_ws_set0 (ad := ad) (cA := cA) (c := ((.inl .int, vs.set i.toNatClampNeg (.int x)) : bb_C)) (h := h) (k := a)
  exact kk p l e s m args below meth c D cA A ad H1 locs1 ls hX ⟨by rw [← e2]; exact hP1, by rw [← e2]; exact hD1, hS1⟩ hL
theorem bb_castore {a : Nat} {i x : Int32} {h' : bb_H} (hd : decode cc pc = .ok (.castore, 1)) (hb : bb_sV h a .char i (.int (vp_nar .char x)) = some h') (kk : bb_J own cc nL ret rm o (pc + 1) L st h') : bb_J own cc nL ret rm o pc L (.int x :: .int i :: .ref a :: st) h := by
  intro p l e s m args below meth c D cA A ad H locs ls hX hY hL
  obtain ⟨vs, h1, h2, h3, rfl⟩ := bb_sV_spec hb
  obtain ⟨hP, hD, hS⟩ := hY
  refine va_cast hX.1 hX.2.1 hX.2.2.2.2.2.2.2.1.1 hP hD hS a 1 (bb_ws_0 h1) rfl (bb_in h2 h3) hd (fun H1 locs1 hP1 hD1 hS1 => ?_)
  have e0 : upd (fun j => bb_toI (vs.getD j .null)) i.toNatClampNeg (vp_nar .char x) = fun k => bb_toI ((vs.set i.toNatClampNeg (.int (vp_nar .char x))).getD k .null) := bb_setf (v := (.int (vp_nar .char x))) bb_toI h3
  have e3 : ((cA .char, vs.length, .inl (upd (fun j => bb_toI (vs.getD j .null)) i.toNatClampNeg (vp_nar .char x))) : ClassId × vp_A) = (cA .char, bb_arr ad .char (vs.set i.toNatClampNeg (.int (vp_nar .char x)))) := by rw [e0]; show _ = (cA .char, ((vs.set i.toNatClampNeg (.int (vp_nar .char x))).length, _)); rw [List.length_set]
  rw [e3] at hP1 hD1
  have e2 := bb_ws_set0 (ad := ad) (cA := cA) (c := ((.inl .char, vs.set i.toNatClampNeg (.int (vp_nar .char x))) : bb_C)) (h := h) (k := a)
  exact kk p l e s m args below meth c D cA A ad H1 locs1 ls hX ⟨by rw [← e2]; exact hP1, by rw [← e2]; exact hD1, hS1⟩ hL
theorem bb_lastore {a : Nat} {i : Int32} {x : Int64} {h' : bb_H} (hd : decode cc pc = .ok (.lastore, 1)) (hb : bb_sV h a .long i (.long x) = some h') (kk : bb_J own cc nL ret rm o (pc + 1) L st h') : bb_J own cc nL ret rm o pc L (.long x :: .int i :: .ref a :: st) h := by
  intro p l e s m args below meth c D cA A ad H locs ls hX hY hL
  obtain ⟨vs, h1, h2, h3, rfl⟩ := bb_sV_spec hb
  obtain ⟨hP, hD, hS⟩ := hY
  refine va_last hX.1 hX.2.1 hX.2.2.2.2.2.2.2.1.1 hP hD hS a 2 (bb_ws_0 h1) rfl (bb_in h2 h3) hd (fun H1 locs1 hP1 hD1 hS1 => ?_)
  have e0 : vp_updL (fun j => bb_toL (vs.getD j .null)) i.toNatClampNeg x = fun k => bb_toL ((vs.set i.toNatClampNeg (.long x)).getD k .null) := bb_setf (v := (.long x)) bb_toL h3
  have e3 : ((cA .long, vs.length, .inr (.inl (vp_updL (fun j => bb_toL (vs.getD j .null)) i.toNatClampNeg x))) : ClassId × vp_A) = (cA .long, bb_arr ad .long (vs.set i.toNatClampNeg (.long x))) := by rw [e0]; show _ = (cA .long, ((vs.set i.toNatClampNeg (.long x)).length, _)); rw [List.length_set]
  rw [e3] at hP1 hD1
  have e2 := bb_ws_set0 (ad := ad) (cA := cA) (c := ((.inl .long, vs.set i.toNatClampNeg (.long x)) : bb_C)) (h := h) (k := a)
  exact kk p l e s m args below meth c D cA A ad H1 locs1 ls hX ⟨by rw [← e2]; exact hP1, by rw [← e2]; exact hD1, hS1⟩ hL
/-! returns -/
theorem bb_iret {v : Int32} (hr : ret = some .int) (ho : o = (some (.int v), h)) (hd : decode cc pc = .ok (.ireturn, 1)) : bb_J own cc nL ret rm o pc L [.int v] h := by
  intro p l e s m args below meth c D cA A ad H locs ls hX hY hL
  subst ho
  subst hr
  have hlocks := hX.2.2.2.2.2.2.1
  exact W.iret hX.1 hX.2.1 hX.2.2.2.2.2.1 (fun t ht hW => ⟨⟨rfl, by rw [ht]; exact hY.1, hY.2.1⟩, hY.2.2.F ht⟩) hY.2.2.2.2 hd
theorem bb_zret {v : Int32} {ty : FieldType} (hr : ret = some ty) (hn : narrow ty (.int v) = .int v) (ho : o = (some (.int v), h)) (hd : decode cc pc = .ok (.ireturn, 1)) : bb_J own cc nL ret rm o pc L [.int v] h := by
  intro p l e s m args below meth c D cA A ad H locs ls hX hY hL
  subst ho
  subst hr
  have hlocks := hX.2.2.2.2.2.2.1
  exact W.zret hX.1 hX.2.1 hX.2.2.2.2.2.1 hn (fun t ht hW => ⟨⟨rfl, by rw [ht]; exact hY.1, hY.2.1⟩, hY.2.2.F ht⟩) hY.2.2.2.2 hd
theorem bb_lret {v : Int64} (hr : ret = some .long) (ho : o = (some (.long v), h)) (hd : decode cc pc = .ok (.lreturn, 1)) : bb_J own cc nL ret rm o pc L [.long v] h := by
  intro p l e s m args below meth c D cA A ad H locs ls hX hY hL
  subst ho
  subst hr
  have hlocks := hX.2.2.2.2.2.2.1
  exact W.lret hX.1 hX.2.1 hX.2.2.2.2.2.1 (fun t ht hW => ⟨⟨rfl, by rw [ht]; exact hY.1, hY.2.1⟩, hY.2.2.F ht⟩) hY.2.2.2.2 hd
theorem bb_vret (hr : ret = none) (ho : o = (none, h)) (hd : decode cc pc = .ok (.return_, 1)) : bb_J own cc nL ret rm o pc L [] h := by
  intro p l e s m args below meth c D cA A ad H locs ls hX hY hL
  subst ho
  subst hr
  have hlocks := hX.2.2.2.2.2.2.1
  exact W.vret hX.1 hX.2.1 hX.2.2.2.2.2.1 (fun t ht hW => ⟨⟨rfl, by rw [ht]; exact hY.1, hY.2.1⟩, hY.2.2.F ht⟩) hY.2.2.2.2 hd
end BBJ
end
section
/-! CONTRACTS AND CALLS over whole mini heaps -/
def bb_wd (y : MethodName) (cc : ByteArray) (nL : Nat) (ret : Option FieldType) : List Cond := Cond.code y cc nL ret :: bb_good
def bb_Pc (D : va_G) (cA : FieldType → ClassId) (qS qV : Nat) (ad : Nat → Nat) (as : List Value) (h : bb_H) (sz : Nat) : Array Value → State → Prop := va_Pc (as.map (bb_cv ad)) (fun U => U.heap.size = sz ∧ va_P D vwCl (bb_ws ad cA 0 h) U.heap ∧ bb_K D cA qS U ∧ va_D (fun _ => True) (bb_ws ad cA 0 h) ∧ bb_Z qS qV (va_A (bb_ws ad cA 0 h) sz) U U.heap)
def bb_Ok (y : MethodName) (cc : ByteArray) (nL : Nat) (ret : Option FieldType) (rm : Room) (as : List Value) (h : bb_H) (o : Option Value × bb_H) : Prop :=
  ∀ (l : Launch) (D : va_G) (cA : FieldType → ClassId) (ad : Nat → Nat) (sz : Nat), Met l y (bb_wd y cc nL ret) rm (bb_Pc D cA (ad bb_qs) (ad bb_qv) ad as h sz) (bb_Q (o.1.map (bb_cv ad)) (bb_B D cA (va_A (bb_ws ad cA 0 h) sz) ad o.2) (va_A (bb_ws ad cA 0 h) sz)) 0 0 (va_A (bb_ws ad cA 0 h) sz)
/-- the locals with which a method begins -/
def bb_ent : List Value → List Value
  | [] => []
  | v :: vs => if v.category = 2 then v :: .null :: bb_ent vs else v :: bb_ent vs
theorem bb_ent_len (ad : Nat → Nat) : ∀ as : List Value, (lg_sl (as.map (bb_cv ad))).length = (bb_ent as).length
  | [] => rfl
  | v :: vs => by
    have ih := bb_ent_len ad vs
    unfold lg_sl at ih ⊢
    rw [List.map_cons, List.flatMap_cons, List.length_append, ih, bb_cat]
    show _ = (if v.category = 2 then v :: Value.null :: bb_ent vs else v :: bb_ent vs).length
    by_cases hc : v.category = 2
    · rw [if_pos hc, if_pos hc]
      simp only [List.length_cons, List.length_nil]
      omega
    · rw [if_neg hc, if_neg hc]
      simp only [List.length_cons, List.length_nil]
      omega
theorem bb_ent_in (ad : Nat → Nat) : ∀ (as : List Value) (j i : Nat) (v : Value), (bb_ent as)[i]? = some v → v ≠ .null → (j + i, bb_cv ad v) ∈ lv_args j (as.map (bb_cv ad))
  | [], j, i, v, h, _ => by simp [bb_ent] at h
  | w :: vs, j, i, v, h, hv => by
    rw [List.map_cons]
    unfold lv_args
    rw [bb_cat]
    unfold bb_ent at h
    by_cases hc : w.category = 2
    · rw [if_pos hc] at h
      rw [if_pos hc]
      match i, h with
      | 0, h =>
        rw [List.getElem?_cons_zero] at h
        cases h
        exact List.mem_cons_self
      | 1, h =>
        rw [List.getElem?_cons_succ, List.getElem?_cons_zero] at h
        cases h
        exact absurd rfl hv
      | i + 2, h =>
        rw [List.getElem?_cons_succ, List.getElem?_cons_succ] at h
        have h1 := bb_ent_in ad vs (j + 2) i v h hv
        rw [show j + 2 + i = j + (i + 2) by omega] at h1
        exact List.mem_cons_of_mem _ h1
    · rw [if_neg hc] at h
      rw [if_neg hc]
      match i, h with
      | 0, h =>
        rw [List.getElem?_cons_zero] at h
        cases h
        exact List.mem_cons_self
      | i + 1, h =>
        rw [List.getElem?_cons_succ] at h
        have h1 := bb_ent_in ad vs (j + 1) i v h hv
        rw [show j + 1 + i = j + (i + 1) by omega] at h1
        exact List.mem_cons_of_mem _ h1
def bb_entL (nL : Nat) (as : List Value) : List Value := bb_ent as ++ List.replicate (nL - (bb_ent as).length) .null
theorem bb_entL_in (ad : Nat → Nat) {nL : Nat} {as : List Value} {i : Nat} {v : Value} (h : (bb_entL nL as)[i]? = some v) (hv : v ≠ .null) : (i, bb_cv ad v) ∈ lv_args 0 (as.map (bb_cv ad)) := by
  unfold bb_entL at h
  by_cases hl : i < (bb_ent as).length
  · rw [List.getElem?_append_left hl] at h
    have h1 := bb_ent_in ad as 0 i v h hv
    rwa [Nat.zero_add] at h1
  · rw [List.getElem?_append_right (by omega)] at h
    exact absurd (List.eq_of_mem_replicate (List.mem_of_getElem? h)) hv
theorem bb_ok {y : MethodName} {cc : ByteArray} {nL : Nat} {ret : Option FieldType} {rm : Room} {as L : List Value} {h : bb_H} {o : Option Value × bb_H} (hy : plainName y.cls = true) (hlen : (bb_ent as).length ≤ nL) (hL : bb_entL nL as = L) (k : bb_J y.cls cc nL ret rm o 0 L [] h) : bb_Ok y cc nL ret rm as h o := by
  intro l D cA ad sz
  refine Met.ofW (cc := cc) (maxL := nL) (ret := ret) hy rfl ?_
  intro p e s m args below meth c s₁ B hml hv
  obtain ⟨rfl, hsz, hP, hK, hD0, hZ⟩ := hv
  have hts := atoms_spec (ws := bb_wd y cc nL ret) B.pre
  have hown : s.vm.findClass y.cls = some m.cls := findClass_of_methodNamed B.named
  subst hsz
  have hD := hD0.self (sz := s.heap.size)
  have hA : ∀ q : Nat, s.heap.size ≤ q → va_A (bb_ws ad cA 0 h) s.heap.size q := fun q hq => Or.inr hq
  have hl := lv_entry (as.map (bb_cv ad)) (n := nL) (by rw [bb_ent_len]; exact hlen)
  rw [lg_entry_eq]
  refine k p l e s m _ below meth c D cA _ ad s.heap [] _ ⟨B.exec, B.bytes, hml, hown, fun w hw => hts w (List.mem_cons_of_mem _ hw), B.returns, B.notSynchronized, hK, hZ, hA⟩ ⟨hP, hD, va_S.rf⟩ ?_
  subst hL
  exact bb_L.of hl (fun i v h1 h2 => bb_entL_in ad h1 h2)
theorem bb_goodin {ws : List Cond} (h : ∀ w ∈ ws, w ∈ bb_good) : GoodIn bb_good ws := fun w hw => ⟨h w hw, good_of_word (List.mem_filter.mp (h w hw)).2⟩
theorem bb_wd_in {y : MethodName} {cc : ByteArray} {nL : Nat} {ret : Option FieldType} (hc : Cond.code y cc nL ret ∈ bb_good) : ∀ w ∈ bb_wd y cc nL ret, w ∈ bb_good := fun w hw => by
  rcases List.mem_cons.mp hw with rfl | hw
  · exact hc
  · exact hw
section BBR
variable {p : Program} {l : Launch} {e : Env} {R : Room} {s : State} {m : MethodId} {args : Array Value} {below : List Frame} {meth : Method} {c : Code} {H : Heap} {locs : List Loc} {cells slots : Nat} {Q : State → Prop}
variable {pc : Nat} {ls : Array Slot} {rest st0 : List Value} {a : Array Value} {A0 A1 : Nat → Prop} {H0 : Heap} {free : Addr → Prop}
theorem bb_callx {r : Option Value} {B : State → Prop} (hr : va_Run p l e R s m args below meth c H locs cells slots 0 0 (F0 m pc ls st0) rest (bb_Q r B A1 a) free) (hS : va_S A0 H0 H locs) (hA : ∀ q, q < H.size → A1 q → A0 q) (hf : ∀ q, free q → A0 q)
    (kk : ∀ (t : State) (H1 : Heap) (locs1 : List Loc), t.heap = H1 → B t → va_S A0 H0 H1 locs1 → W p l e R s m args below meth c H1 locs1 (cells + 0) (slots + 0) Q (F0 m (pc + 3) ls (r.toList ++ rest))) : W p l e R s m args below meth c H locs cells slots Q (F0 m pc ls st0) := by
  intro T hT X
  obtain ⟨v, st₀, t, T', L, h0, X', hL, e1, e2, ⟨⟨hv, hb⟩, hz, hk⟩, st⟩ := hr T hT X
  cases hv
  rw [h0] at hz hk
  obtain ⟨t2, a1, b1⟩ := kk t T'.heap (locs ++ L) e1.symm hb
    ⟨Nat.le_trans hS.1 (by rw [e1]; exact hz), fun q h1 h2 => by rw [e1, hk q (Nat.lt_of_lt_of_le h1 hS.1) (fun z => h2 (hA q (Nat.lt_of_lt_of_le h1 hS.1) z))]; exact hS.2.1 q h1 h2, fun q hq => by
      rcases List.mem_append.mp hq with h | h
      · exact hS.2.2 q h
      · exact hf _ (hL q h)⟩ T' rfl X'
  exact ⟨t2, st t2 a1, b1⟩
end BBR
/-! what a call's place needs of the tables -/
def bb_iv (own : String) (ix : Nat) (C : String) (y : MethodName) (cc : ByteArray) (nL : Nat) (ret : Option FieldType) (n : Nat) : Prop :=
  (Cond.methodLink own ix y ∈ bb_good ∧ Cond.instanceMethod y ∈ bb_good ∧ Cond.selects C y y ∈ bb_good ∧ Cond.initialized C ∈ bb_good ∧ Cond.code y cc nL ret ∈ bb_good) ∧ (y.cls = C ∧ y.cls ≠ "java/lang/invoke/MethodHandle" ∧ y.cls ≠ "java/lang/invoke/VarHandle" ∧ (parseMethodDescriptor y.desc).map (fun d => d.parameters.length) = some n)
def bb_is_ (own : String) (ix : Nat) (y : MethodName) (cc : ByteArray) (nL : Nat) (ret : Option FieldType) (n : Nat) : Prop :=
  (Cond.methodLink own ix y ∈ bb_good ∧ Cond.static y ∈ bb_good ∧ Cond.initialized y.cls ∈ bb_good ∧ Cond.code y cc nL ret ∈ bb_good) ∧ (y.cls ≠ "java/lang/invoke/MethodHandle" ∧ y.cls ≠ "java/lang/invoke/VarHandle" ∧ (parseMethodDescriptor y.desc).map (fun d => d.parameters.length) = some n)
def bb_in_ (own : String) (ix : Nat) (host : String) (y : MethodName) (cc : ByteArray) (nL : Nat) (ret : Option FieldType) (n : Nat) : Prop :=
  ((own, ix, y, host) ∈ bb_nests ∧ Cond.static y ∈ bb_good ∧ Cond.initialized y.cls ∈ bb_good ∧ Cond.code y cc nL ret ∈ bb_good) ∧ (y.cls ≠ "java/lang/invoke/MethodHandle" ∧ y.cls ≠ "java/lang/invoke/VarHandle" ∧ (parseMethodDescriptor y.desc).map (fun d => d.parameters.length) = some n)
def bb_rr (rm' rm : Room) (nL' : Nat) : Prop := (rm'.cells = 0 ∧ rm'.slots = 0) ∧ (rm'.frames + 1 ≤ rm.frames ∧ 8 + (nL' + 11) + rm'.locals ≤ rm.locals)
theorem bb_sum (ad : Nat → Nat) (st : List Value) : ((st.map (bb_cv ad)).map fun v => v.category).sum = (st.map fun v => v.category).sum := by
  rw [List.map_map]
  congr 1
  apply List.map_congr_left
  intro v _
  exact bb_cat ad v
theorem bb_stk (ad : Nat → Nat) (r : Option Value) (st : List Value) : (r.map (bb_cv ad)).toList ++ st.map (bb_cv ad) = (r.toList ++ st).map (bb_cv ad) := by cases r <;> rfl
theorem bb_blind {D : va_G} {cA : FieldType → ClassId} {qS qV : Nat} {ad : Nat → Nat} {as : List Value} {h : bb_H} {sz : Nat} : FrameBlind (bb_Pc D cA qS qV ad as h sz) := fun a U g mk q => by
  obtain ⟨q0, q1, qP, qK, qD, qZ⟩ := q
  exact ⟨q0, q1, qP, qK.call g mk a, qD, bb_Z.go (U := U.calling g mk a) qZ (Vm.Alike.refl U.vm) (fun _ _ _ => rfl) (fun _ z => z)⟩
section BBC
variable {own : String} {cc : ByteArray} {nL : Nat} {ret : Option FieldType} {rm : Room} {o : Option Value × bb_H} {pc : Nat} {L st : List Value} {h : bb_H}
theorem bb_free {D : va_G} {cA : FieldType → ClassId} {A : Nat → Prop} {ad : Nat → Nat} {H0 H : Heap} {locs : List Loc} (hY : bb_Y D cA A ad h H0 H locs) (hA : ∀ q, H0.size ≤ q → A q) : ∀ q, va_A (bb_ws ad cA 0 h) H.size q → A q := fun q hq => by
  rcases hq with ⟨k, e, hk⟩ | hq
  · exact hY.2.1.2 k (q, e) hk
  · exact hA q (Nat.le_trans hY.2.2.1 hq)
theorem bb_pre {cc : ByteArray} {nL : Nat} {ret : Option FieldType} {p : Program} {s : State} {m : MethodId} {args : Array Value} {meth : Method} {c : Code} {D : va_G} {cA : FieldType → ClassId} {qS qV : Nat} {A : Nat → Prop} {ad : Nat → Nat} {H : Heap} {locs : List Loc} {as : List Value} (hX : bb_X own cc nL ret p s m args meth c D cA qS qV A) (hY : bb_Y D cA A ad h s.heap H locs) : ∀ U : State, U.heap = H → s.WarmedH U.vm → bb_Pc D cA qS qV ad as h H.size (as.map (bb_cv ad)).toArray U := fun U hU hW =>
  ⟨rfl, by rw [hU], by rw [hU]; exact hY.1, hX.2.2.2.2.2.2.2.1.warm hW, hY.2.1.weaken (fun _ _ _ _ => trivial), bb_Z.go hX.2.2.2.2.2.2.2.2.1 hW.alike (fun a h1 h2 => by rw [hU]; exact hY.2.2.2.1 a h1 h2) (bb_free hY hX.2.2.2.2.2.2.2.2.2)⟩
theorem bb_invV {ix ci b : Nat} {C : String} {T : u_T} {N : Nat} {y : MethodName} {cc' : ByteArray} {nL' n : Nat} {ret' : Option FieldType} {rm' : Room} {as vs ast : List Value} {r : Option Value} {h' : bb_H} (hs : bb_iv own ix C y cc' nL' ret' n) (hR : bb_rr rm' rm nL') (hcl : vwCl[ci]? = some (C, T, N)) (hd : decode cc pc = .ok (.invokevirtual ix, 3)) (hast : as.reverse ++ .ref b :: st = ast) (hn : as.length = n) (hb : h[b]? = some (.inr ci, vs)) (hrest : (st.map fun v => v.category).sum ≤ 8) (hok : bb_Ok y cc' nL' ret' rm' (.ref b :: as) h (r, h')) (k : bb_J own cc nL ret rm o (pc + 3) L (r.toList ++ st) h') : bb_J own cc nL ret rm o pc L ast h := by
  intro p l e s m args below meth c D cA A ad H locs ls hX hY hL
  subst hast
  obtain ⟨⟨w1, w2, w3, w4, w5⟩, hdd⟩ := hs
  have hF := bb_free hY hX.2.2.2.2.2.2.2.2.2
  have hG : GoodIn bb_good (wsV own ix C y (bb_wd y cc' nL' ret')) := bb_goodin (fun w hw => by
    unfold wsV at hw
    rcases List.mem_append.mp hw with hw | hw
    · simp only [List.mem_cons, List.not_mem_nil, or_false] at hw
      rcases hw with rfl | rfl | rfl | rfl
      · exact w1
      · exact w2
      · exact w3
      · exact w4
    · exact bb_wd_in w5 w hw)
  have hpre := bb_pre (as := .ref b :: as) hX hY
  refine bb_callx (va_runV (As := as.map (bb_cv ad)) (rest := st.map (bb_cv ad)) (b := ad b) ⟨hX.1, hX.2.1, hX.2.2.1, hX.2.2.2.1, hX.2.2.2.2.1⟩ (hok l D cA ad H.size) (cwV n hX.2.2.2.2.1 hG rfl hR.1.1 hR.1.2 hdd hR.2) ⟨bb_blind, va_recv hX.2.2.2.2.2.2.2.1.1 hY.1 hcl (bb_ws_0 hb), hpre⟩ rfl (by rw [List.length_map]; exact hn) hL.1 ?_ ?_ hd ⟨Nat.zero_le _, Nat.zero_le _⟩) hY.2.2 (fun q _ hq => hF q hq) hF (fun t H1 locs1 ht hB hS1 => ?_)
  · show (as.reverse ++ .ref b :: st).map (bb_cv ad) = _
    rw [List.map_append, List.map_reverse]
    rfl
  · show 2 * 0 + _ ≤ 8
    rw [bb_sum]
    omega
  · rw [bb_stk]
    exact k p l e s m args below meth c D cA A ad H1 locs1 ls hX ⟨by rw [← ht]; exact hB.1, hB.2.weaken (fun _ q _ z => hF q.1 z), hS1⟩ hL
theorem bb_invS {ix : Nat} {y : MethodName} {cc' : ByteArray} {nL' n : Nat} {ret' : Option FieldType} {rm' : Room} {as ast : List Value} {r : Option Value} {h' : bb_H} (hs : bb_is_ own ix y cc' nL' ret' n) (hR : bb_rr rm' rm nL') (hd : decode cc pc = .ok (.invokestatic ix, 3)) (hast : as.reverse ++ st = ast) (hn : as.length = n) (hrest : (st.map fun v => v.category).sum ≤ 8) (hok : bb_Ok y cc' nL' ret' rm' as h (r, h')) (k : bb_J own cc nL ret rm o (pc + 3) L (r.toList ++ st) h') : bb_J own cc nL ret rm o pc L ast h := by
  intro p l e s m args below meth c D cA A ad H locs ls hX hY hL
  subst hast
  obtain ⟨⟨w1, w2, w3, w4⟩, hdd⟩ := hs
  have hF := bb_free hY hX.2.2.2.2.2.2.2.2.2
  have hG : GoodIn bb_good (va_wsS own ix y (bb_wd y cc' nL' ret')) := bb_goodin (fun w hw => by
    unfold va_wsS at hw
    rcases List.mem_append.mp hw with hw | hw
    · simp only [List.mem_cons, List.not_mem_nil, or_false] at hw
      rcases hw with rfl | rfl | rfl
      · exact w1
      · exact w2
      · exact w3
    · exact bb_wd_in w4 w hw)
  have hpre := bb_pre (as := as) hX hY
  refine bb_callx (va_runS (As := as.map (bb_cv ad)) (rest := st.map (bb_cv ad)) ⟨hX.1, hX.2.1, hX.2.2.1, hX.2.2.2.1, hX.2.2.2.2.1⟩ (hok l D cA ad H.size) (va_cwS n hX.2.2.2.2.1 hG rfl hR.1.1 hR.1.2 hdd hR.2) ⟨bb_blind, hpre⟩ rfl (by rw [List.length_map]; exact hn) hL.1 ?_ ?_ hd ⟨Nat.zero_le _, Nat.zero_le _⟩) hY.2.2 (fun q _ hq => hF q hq) hF (fun t H1 locs1 ht hB hS1 => ?_)
  · show (as.reverse ++ st).map (bb_cv ad) = _
    rw [List.map_append, List.map_reverse]
  · show 2 * 0 + _ ≤ 8
    rw [bb_sum]
    omega
  · rw [bb_stk]
    exact k p l e s m args below meth c D cA A ad H1 locs1 ls hX ⟨by rw [← ht]; exact hB.1, hB.2.weaken (fun _ q _ z => hF q.1 z), hS1⟩ hL
theorem bb_invN {ix : Nat} {host : String} {y : MethodName} {cc' : ByteArray} {nL' n : Nat} {ret' : Option FieldType} {rm' : Room} {as ast : List Value} {r : Option Value} {h' : bb_H} (hs : bb_in_ own ix host y cc' nL' ret' n) (hR : bb_rr rm' rm nL') (hd : decode cc pc = .ok (.invokestatic ix, 3)) (hast : as.reverse ++ st = ast) (hn : as.length = n) (hrest : (st.map fun v => v.category).sum ≤ 8) (hok : bb_Ok y cc' nL' ret' rm' as h (r, h')) (k : bb_J own cc nL ret rm o (pc + 3) L (r.toList ++ st) h') : bb_J own cc nL ret rm o pc L ast h := by
  intro p l e s m args below meth c D cA A ad H locs ls hX hY hL
  subst hast
  obtain ⟨⟨w1, w2, w3, w4⟩, hdd⟩ := hs
  have hF := bb_free hY hX.2.2.2.2.2.2.2.2.2
  have hG : GoodIn bb_good (bb_wd y cc' nL' ret') := bb_goodin (bb_wd_in w4)
  have hpre := bb_pre (as := as) hX hY
  have hnw := hX.2.2.2.2.2.2.2.1.2.1 _ w1
  refine bb_callx (va_runSN (As := as.map (bb_cv ad)) (rest := st.map (bb_cv ad)) ⟨hX.1, hX.2.1, hX.2.2.1, hX.2.2.2.1, hX.2.2.2.2.1⟩ (hok l D cA ad H.size) ⟨va_cnB (host := host) n hX.2.2.2.2.1 hG rfl hR.1.1 hR.1.2 hnw (hX.2.2.2.2.1 _ w3) hdd hR.2, hX.2.2.2.2.1 _ w2, trivial⟩ ⟨bb_blind, hpre⟩ rfl (by rw [List.length_map]; exact hn) hL.1 ?_ ?_ hd ⟨Nat.zero_le _, Nat.zero_le _⟩) hY.2.2 (fun q _ hq => hF q hq) hF (fun t H1 locs1 ht hB hS1 => ?_)
  · show (as.reverse ++ st).map (bb_cv ad) = _
    rw [List.map_append, List.map_reverse]
  · show 2 * 0 + _ ≤ 8
    rw [bb_sum]
    omega
  · rw [bb_stk]
    exact k p l e s m args below meth c D cA A ad H1 locs1 ls hX ⟨by rw [← ht]; exact hB.1, hB.2.weaken (fun _ q _ z => hF q.1 z), hS1⟩ hL
end BBC
end
section
/-! the JDK's small helpers, and what the pure side is written with -/
theorem bb_bind {α β : Type} {x : Option α} {f : α → Option β} {r : β} (h : x.bind f = some r) : ∃ a, x = some a ∧ f a = some r := Option.bind_eq_some_iff.mp h
def bb_rcv {α : Type} (h : bb_H) (b ci : Nat) (x : Option α) : Option α := if bb_is h b ci = true then x else none
theorem bb_rcv_spec {α : Type} {h : bb_H} {b ci : Nat} {x : Option α} {r : α} (e : bb_rcv h b ci x = some r) : (∃ vs, h[b]? = some (.inr ci, vs)) ∧ x = some r := by
  unfold bb_rcv at e
  split at e
  · rename_i hb
    exact ⟨bb_is_spec hb, e⟩
  · cases e
def bb_rz (v : Int32) (h : bb_H) : Option (Int32 × bb_H) := if v = 0 ∨ v = 1 then some (v, h) else none
theorem bb_rz_spec {v : Int32} {h : bb_H} {r : Int32 × bb_H} (e : bb_rz v h = some r) : narrow .boolean (.int v) = .int v ∧ (v, h) = r := by
  unfold bb_rz at e
  split at e
  · rename_i hv
    exact ⟨(bb_nz hv).1, Option.some.inj e⟩
  · cases e
def bb_rc (v : Int32) (h : bb_H) : Option (Int32 × bb_H) := if narrow .char (.int v) = .int v then some (v, h) else none
theorem bb_rc_spec {v : Int32} {h : bb_H} {r : Int32 × bb_H} (e : bb_rc v h = some r) : narrow .char (.int v) = .int v ∧ (v, h) = r := by
  unfold bb_rc at e
  split at e
  · rename_i hv
    exact ⟨hv, Option.some.inj e⟩
  · cases e
def bb_max (x y : Int32) : Int32 := if x < y then y else x
def bb_min (x y : Int32) : Int32 := if y < x then y else x
def bb_im (own : String) (ix : Nat) : Prop := Cond.methodLink own ix Lib.Math.max.name ∈ bb_good ∧ Cond.static Lib.Math.max.name ∈ bb_good ∧ Cond.initialized "java/lang/Math" ∈ bb_good ∧ Cond.code Lib.Math.max.name Lib.Math.max.code 2 (some .int) ∈ bb_good
def bb_in2 (own : String) (ix : Nat) : Prop := Cond.methodLink own ix Lib.Math.min.name ∈ bb_good ∧ Cond.static Lib.Math.min.name ∈ bb_good ∧ Cond.initialized "java/lang/Math" ∈ bb_good ∧ Cond.code Lib.Math.min.name Lib.Math.min.code 2 (some .int) ∈ bb_good
section BBM
variable {own : String} {cc : ByteArray} {nL : Nat} {ret : Option FieldType} {rm : Room} {o : Option Value × bb_H} {pc : Nat} {L st : List Value} {h : bb_H}
theorem bb_mmax {ix : Nat} {x y : Int32} (hs : bb_im own ix) (hf : 1 ≤ rm.frames) (hl : 21 ≤ rm.locals) (hrest : (st.map fun v => v.category).sum ≤ 8) (hd : decode cc pc = .ok (.invokestatic ix, 3)) (k : bb_J own cc nL ret rm o (pc + 3) L (.int (bb_max x y) :: st) h) : bb_J own cc nL ret rm o pc L (.int y :: .int x :: st) h := by
  intro p l e s m args below meth c D cA A ad H locs ls hX hY hL
  have hg := hX.2.2.2.2.1
  exact va_mmax hX.1 hX.2.1 (hX.2.2.1.trans hL.1.symm) hX.2.2.2.1 (hg _ hs.1) (hg _ hs.2.1) (hg _ hs.2.2.1) (hg _ hs.2.2.2) hf (by rw [bb_sum]; omega) (Nat.zero_le _) (Nat.zero_le _) hd (k p l e s m args below meth c D cA A ad H locs ls hX hY hL)
theorem bb_mmin {ix : Nat} {x y : Int32} (hs : bb_in2 own ix) (hf : 1 ≤ rm.frames) (hl : 21 ≤ rm.locals) (hrest : (st.map fun v => v.category).sum ≤ 8) (hd : decode cc pc = .ok (.invokestatic ix, 3)) (k : bb_J own cc nL ret rm o (pc + 3) L (.int (bb_min x y) :: st) h) : bb_J own cc nL ret rm o pc L (.int y :: .int x :: st) h := by
  intro p l e s m args below meth c D cA A ad H locs ls hX hY hL
  have hg := hX.2.2.2.2.1
  exact va_mmin hX.1 hX.2.1 (hX.2.2.1.trans hL.1.symm) hX.2.2.2.1 (hg _ hs.1) (hg _ hs.2.1) (hg _ hs.2.2.1) (hg _ hs.2.2.2) hf (by rw [bb_sum]; omega) (Nat.zero_le _) (Nat.zero_le _) hd (k p l e s m args below meth c D cA A ad H locs ls hX hY hL)
end BBM
theorem bb_u0 : ∀ w ∈ u_ws RX0 TX0 5, w ∈ bb_good := by decide +kernel
theorem bb_u1 : ∀ w ∈ u_ws RX1 TX1 3, w ∈ bb_good := by decide +kernel
theorem bb_u2 : ∀ w ∈ u_ws RX2 TX2 3, w ∈ bb_good := by decide +kernel
theorem bb_u3 : ∀ w ∈ u_ws RX3 TX3 4, w ∈ bb_good := by decide +kernel
theorem bb_u4 : ∀ w ∈ u_ws RX4 TX4 4, w ∈ bb_good := by decide +kernel
theorem bb_u5 : ∀ w ∈ u_ws RX5 TX5 3, w ∈ bb_good := by decide +kernel
theorem bb_u6 : ∀ w ∈ u_ws RX6 TX6 6, w ∈ bb_good := by decide +kernel
theorem bb_u7 : ∀ w ∈ u_ws RX7 TX7 9, w ∈ bb_good := by decide +kernel
theorem bb_u8 : ∀ w ∈ u_ws RX8 TX8 14, w ∈ bb_good := by decide +kernel
/-! System.arraycopy of longs -/
def bb_cp (vs ws : List Value) (sp dp n : Nat) : List Value := ws.take dp ++ ((vs.drop sp).take n ++ ws.drop (dp + n))
def bb_cpy (h : bb_H) (a0 : Nat) (sp : Int32) (a : Nat) (dp n : Int32) : Option bb_H := match h[a0]?, h[a]? with
  | some (.inl t, vs), some (.inl u, ws) => if t = .long ∧ u = .long ∧ ¬ sp < 0 ∧ ¬ dp < 0 ∧ ¬ n < 0 ∧ sp.toNatClampNeg + n.toNatClampNeg ≤ vs.length ∧ dp.toNatClampNeg + n.toNatClampNeg ≤ ws.length then some (h.set a (.inl .long, bb_cp vs ws sp.toNatClampNeg dp.toNatClampNeg n.toNatClampNeg)) else none
  | _, _ => none
theorem bb_cpy_spec {h h' : bb_H} {a0 a : Nat} {sp dp n : Int32} (e : bb_cpy h a0 sp a dp n = some h') : ∃ vs ws, h[a0]? = some (.inl .long, vs) ∧ h[a]? = some (.inl .long, ws) ∧ ¬ sp < 0 ∧ ¬ dp < 0 ∧ ¬ n < 0 ∧ sp.toNatClampNeg + n.toNatClampNeg ≤ vs.length ∧ dp.toNatClampNeg + n.toNatClampNeg ≤ ws.length ∧ h' = h.set a (.inl .long, bb_cp vs ws sp.toNatClampNeg dp.toNatClampNeg n.toNatClampNeg) := by
  unfold bb_cpy at e
  split at e
  · rename_i t vs u ws h1 h2
    split at e
    · rename_i hc
      obtain ⟨rfl, rfl, q1, q2, q3, q4, q5⟩ := hc
      cases e
      exact ⟨vs, ws, h1, h2, q1, q2, q3, q4, q5, rfl⟩
    · cases e
  · cases e
theorem bb_cp_len {vs ws : List Value} {sp dp n : Nat} (h1 : sp + n ≤ vs.length) (h2 : dp + n ≤ ws.length) : (bb_cp vs ws sp dp n).length = ws.length := by
  unfold bb_cp
  simp only [List.length_append, List.length_take, List.length_drop]
  omega
theorem bb_cp_at {vs ws : List Value} {sp dp n : Nat} (h1 : sp + n ≤ vs.length) (h2 : dp + n ≤ ws.length) (k : Nat) : (bb_cp vs ws sp dp n)[k]? = if dp ≤ k ∧ k < dp + n then vs[sp + (k - dp)]? else ws[k]? := by
  unfold bb_cp
  by_cases c1 : k < dp
  · rw [List.getElem?_append_left (by rw [List.length_take]; omega), List.getElem?_take_of_lt c1, if_neg (by omega)]
  · rw [List.getElem?_append_right (by rw [List.length_take]; omega), List.length_take, show k - min dp ws.length = k - dp by omega]
    by_cases c2 : k < dp + n
    · rw [List.getElem?_append_left (by rw [List.length_take, List.length_drop]; omega), List.getElem?_take_of_lt (by omega), List.getElem?_drop, if_pos (by omega)]
    · rw [List.getElem?_append_right (by rw [List.length_take, List.length_drop]; omega), List.length_take, List.length_drop, List.getElem?_drop, if_neg (by omega)]
      congr 1
      omega
def bb_iac (own : String) (ix : Nat) : Prop := Cond.methodLink own ix arraycopyName ∈ bb_good ∧ Cond.native arraycopyName ∈ bb_good ∧ Cond.static arraycopyName ∈ bb_good ∧ Cond.initialized "java/lang/System" ∈ bb_good
theorem bb_acopy {own : String} {cc : ByteArray} {nL : Nat} {ret : Option FieldType} {rm : Room} {o : Option Value × bb_H} {pc : Nat} {L : List Value} {h : bb_H} {ix a0 a : Nat} {sp dp n : Int32} {h' : bb_H} (hs : bb_iac own ix) (hf : 1 ≤ rm.frames) (hl : nativeFrameWords "java/lang/System" "arraycopy" 5 + 11 ≤ rm.locals) (hd : decode cc pc = .ok (.invokestatic ix, 3)) (hc : bb_cpy h a0 sp a dp n = some h') (kk : bb_J own cc nL ret rm o (pc + 3) L [] h') : bb_J own cc nL ret rm o pc L [.int n, .int dp, .ref a, .int sp, .ref a0] h := by
  intro p l e s m args below meth c D cA A ad H locs ls hX hY hL
  obtain ⟨vs, ws, h1, h2, q1, q2, q3, q4, q5, rfl⟩ := bb_cpy_spec hc
  obtain ⟨hP, hD, hS⟩ := hY
  have hg := hX.2.2.2.2.1
  refine va_copyl (rest := []) hX.1 hX.2.1 (hX.2.2.1.trans hL.1.symm) hX.2.2.2.1 (hg _ hs.1) (hg _ hs.2.1) (hg _ hs.2.2.1) (hg _ hs.2.2.2) hX.2.2.2.2.2.2.2.1.1 hP hD hS a0 a 2 2 (ty := .long) (bb_ws_0 h1) (bb_ws_0 h2) rfl rfl rfl q1 q2 q3 q4 q5 (fun _ _ => rfl) hf (by show 0 + _ ≤ _; omega) hd (fun H1 locs1 hP1 hD1 hS1 => ?_)
  have e0 : va_cpy (fun j => bb_toL (vs.getD j .null)) (fun j => bb_toL (ws.getD j .null)) sp.toNatClampNeg dp.toNatClampNeg n.toNatClampNeg = fun k => bb_toL ((bb_cp vs ws sp.toNatClampNeg dp.toNatClampNeg n.toNatClampNeg).getD k .null) := by
    funext k
    unfold va_cpy
    simp only [List.getD_eq_getElem?_getD, bb_cp_at q4 q5]
    split <;> rfl
  have e3 : ((cA .long, ws.length, .inr (.inl (va_cpy (fun j => bb_toL (vs.getD j .null)) (fun j => bb_toL (ws.getD j .null)) sp.toNatClampNeg dp.toNatClampNeg n.toNatClampNeg))) : ClassId × vp_A) = (cA .long, bb_arr ad .long (bb_cp vs ws sp.toNatClampNeg dp.toNatClampNeg n.toNatClampNeg)) := by rw [e0]; show _ = (cA .long, ((bb_cp vs ws sp.toNatClampNeg dp.toNatClampNeg n.toNatClampNeg).length, _)); rw [bb_cp_len q4 q5]
  rw [e3] at hP1 hD1
  have e2 := bb_ws_set0 (ad := ad) (cA := cA) (c := ((.inl .long, bb_cp vs ws sp.toNatClampNeg dp.toNatClampNeg n.toNatClampNeg) : bb_C)) (h := h) (k := a)
  exact kk p l e s m args below meth c D cA A ad H1 locs1 ls hX ⟨by rw [← e2]; exact hP1, by rw [← e2]; exact hD1, hS1⟩ hL
/-! the one String constant -/
theorem bb_ldcS {cc : ByteArray} {nL : Nat} {ret : Option FieldType} {rm : Room} {o : Option Value × bb_H} {pc : Nat} {L st : List Value} {h : bb_H} (hd : decode cc pc = .ok (.ldc 49, 2)) (k : bb_J RX6 cc nL ret rm o (pc + 2) L (.ref bb_qs :: st) h) : bb_J RX6 cc nL ret rm o pc L st h := by
  intro p l e s m args below meth c D cA A ad H locs ls hX hY hL
  exact va_ldcS hX.1 hX.2.1 hX.2.2.2.1 hX.2.2.2.2.2.2.2.1.2.2 hd (k p l e s m args below meth c D cA A ad H locs ls hX hY hL)
def bb_kix (x : Int32) : Int32 := if x = 112 then 0 else if x = 104 then 1 else if x = 117 then 2 else if x = 100 then 3 else if x = 114 then 4 else -1
end
section
/-! String.indexOf over the one String constant, "phudr" -/
section BBS
variable {own : String} {cc : ByteArray} {nL : Nat} {ret : Option FieldType} {rm : Room} {o : Option Value × bb_H} {pc : Nat} {L st : List Value} {h : bb_H}
theorem bb_sget {ix : Nat} (hl : Cond.fieldLink own ix "java/lang/String" "value" "[B" ∈ bb_good) (hd : decode cc pc = .ok (.getfield ix, 3)) (k : bb_J own cc nL ret rm o (pc + 3) L (.ref bb_qv :: st) h) : bb_J own cc nL ret rm o pc L (.ref bb_qs :: st) h :=
  fun p l e s m args below meth c D cA A ad H locs ls hX hY hL => vk_getf hX.1 hX.2.1 (hX.2.2.2.2.2.2.2.2.1.1.1 0 (by decide)).2.2.1 hY.2.2 hX.2.2.2.1 (hX.2.2.2.2.1 _ hl) (fun _ q => q) hd (k p l e s m args below meth c D cA A ad H locs ls hX hY hL)
theorem bb_scod {ix : Nat} (hl : Cond.fieldLink own ix "java/lang/String" "coder" "B" ∈ bb_good) (hd : decode cc pc = .ok (.getfield ix, 3)) (k : bb_J own cc nL ret rm o (pc + 3) L (.int 0 :: st) h) : bb_J own cc nL ret rm o pc L (.ref bb_qs :: st) h :=
  fun p l e s m args below meth c D cA A ad H locs ls hX hY hL => vk_getf hX.1 hX.2.1 (hX.2.2.2.2.2.2.2.2.1.1.1 0 (by decide)).2.1 hY.2.2 hX.2.2.2.1 (hX.2.2.2.2.1 _ hl) (fun _ q => q) hd (k p l e s m args below meth c D cA A ad H locs ls hX hY hL)
theorem bb_scmp {ix : Nat} (hl : Cond.fieldLink own ix "java/lang/String" "COMPACT_STRINGS" "Z" ∈ bb_good) (hd : decode cc pc = .ok (.getstatic ix, 3)) (k : bb_J own cc nL ret rm o (pc + 3) L (.int 1 :: st) h) : bb_J own cc nL ret rm o pc L st h :=
  fun p l e s m args below meth c D cA A ad H locs ls hX hY hL => va_gets hX.1 hX.2.1 hX.2.2.2.2.2.2.2.2.1.2 hY.2.2 hX.2.2.2.1 (hX.2.2.2.2.1 _ hl) (fun _ q => q) hd (k p l e s m args below meth c D cA A ad H locs ls hX hY hL)
theorem bb_slen (hd : decode cc pc = .ok (.arraylength, 1)) (k : bb_J own cc nL ret rm o (pc + 1) L (.int 5 :: st) h) : bb_J own cc nL ret rm o pc L (.ref bb_qv :: st) h :=
  fun p l e s m args below meth c D cA A ad H locs ls hX hY hL => va_tlen (v := 5) hX.1 hX.2.1 (hX.2.2.2.2.2.2.2.2.1.1.1 0 (by decide)).2.2.2 hY.2.2 rfl hd (k p l e s m args below meth c D cA A ad H locs ls hX hY hL)
theorem bb_sld {j : Nat} {v : Int32} (hj : j < 5) (hv : ([112, 104, 117, 100, 114] : List Int32).getD j 0 = v) (hd : decode cc pc = .ok (.baload, 1)) (k : bb_J own cc nL ret rm o (pc + 1) L (.int v :: st) h) : bb_J own cc nL ret rm o pc L (.int (nI j) :: .ref bb_qv :: st) h :=
  fun p l e s m args below meth c D cA A ad H locs ls hX hY hL => va_tb (v := .int v) hX.1 hX.2.1 (hX.2.2.2.2.2.2.2.2.1.1.1 0 (by decide)).2.2.2 hY.2.2 (vp_in_nI hj (by decide)) (by rw [nI_clamp (by omega)]; show Value.int (([112, 104, 117, 100, 114] : List Int32).getD j 0) = _; rw [hv]) hd (k p l e s m args below meth c D cA A ad H locs ls hX hY hL)
theorem bb_sinv {ix : Nat} {y : MethodName} {cc' : ByteArray} {nL' n : Nat} {ret' : Option FieldType} {rm' : Room} {as ast : List Value} {r : Option Value} {h' : bb_H} (hs : bb_iv own ix "java/lang/String" y cc' nL' ret' n) (hR : bb_rr rm' rm nL') (hd : decode cc pc = .ok (.invokevirtual ix, 3)) (hast : as.reverse ++ .ref bb_qs :: st = ast) (hn : as.length = n) (hrest : (st.map fun v => v.category).sum ≤ 8) (hok : bb_Ok y cc' nL' ret' rm' (.ref bb_qs :: as) h (r, h')) (k : bb_J own cc nL ret rm o (pc + 3) L (r.toList ++ st) h') : bb_J own cc nL ret rm o pc L ast h := by
  intro p l e s m args below meth c D cA A ad H locs ls hX hY hL
  subst hast
  obtain ⟨⟨w1, w2, w3, w4, w5⟩, hdd⟩ := hs
  have hF := bb_free hY hX.2.2.2.2.2.2.2.2.2
  have hG : GoodIn bb_good (wsV own ix "java/lang/String" y (bb_wd y cc' nL' ret')) := bb_goodin (fun w hw => by
    unfold wsV at hw
    rcases List.mem_append.mp hw with hw | hw
    · simp only [List.mem_cons, List.not_mem_nil, or_false] at hw
      rcases hw with rfl | rfl | rfl | rfl
      · exact w1
      · exact w2
      · exact w3
      · exact w4
    · exact bb_wd_in w5 w hw)
  have hpre := bb_pre (as := .ref bb_qs :: as) hX hY
  refine bb_callx (va_runV (As := as.map (bb_cv ad)) (rest := st.map (bb_cv ad)) (b := ad bb_qs) ⟨hX.1, hX.2.1, hX.2.2.1, hX.2.2.2.1, hX.2.2.2.2.1⟩ (hok l D cA ad H.size) (cwV n hX.2.2.2.2.1 hG rfl hR.1.1 hR.1.2 hdd hR.2) ⟨bb_blind, vk_recv hX.2.2.2.2.2.2.2.2.1.1 (i := 0) (by decide) hY.2.2, hpre⟩ rfl (by rw [List.length_map]; exact hn) hL.1 ?_ ?_ hd ⟨Nat.zero_le _, Nat.zero_le _⟩) hY.2.2 (fun q _ hq => hF q hq) hF (fun t H1 locs1 ht hB hS1 => ?_)
  · show (as.reverse ++ .ref bb_qs :: st).map (bb_cv ad) = _
    rw [List.map_append, List.map_reverse]
    rfl
  · show 2 * 0 + _ ≤ 8
    rw [bb_sum]
    omega
  · rw [bb_stk]
    exact k p l e s m args below meth c D cA A ad H1 locs1 ls hX ⟨by rw [← ht]; exact hB.1, hB.2.weaken (fun _ q _ z => hF q.1 z), hS1⟩ hL
end BBS
abbrev rm_s0 : Room := { frames := 0, cells := 0, slots := 0, locals := 0 }
abbrev rm_s1 : Room := { frames := 1, cells := 0, slots := 0, locals := 25 }
abbrev rm_s2 : Room := { frames := 2, cells := 0, slots := 0, locals := 48 }
abbrev rm_s3 : Room := { frames := 3, cells := 0, slots := 0, locals := 70 }
theorem ws_38 : Cond.fieldLink RJ0 38 "java/lang/String" "COMPACT_STRINGS" "Z" ∈ bb_good := by decide +kernel
theorem ws_15 : Cond.fieldLink RJ0 15 "java/lang/String" "coder" "B" ∈ bb_good := by decide +kernel
theorem ws_9 : Cond.fieldLink RJ0 9 "java/lang/String" "value" "[B" ∈ bb_good := by decide +kernel
theorem ws_335 : bb_iv RJ0 335 "java/lang/String" yJ0_coder_7d493 cJ0_coder_7d493 1 (some .byte) 0 := by unfold bb_iv; decide +kernel
theorem ws_492 : bb_iv RJ0 492 "java/lang/String" yJ0_isLatin1_aae02 cJ0_isLatin1_aae02 1 (some .boolean) 0 := by unfold bb_iv; decide +kernel
theorem ws_505 : bb_iv RJ0 505 "java/lang/String" yJ0_length_8abf5 cJ0_length_8abf5 1 (some .int) 0 := by unfold bb_iv; decide +kernel
theorem ws_633 : bb_iv RJ0 633 "java/lang/String" yJ0_indexOf_7cf53 cJ0_indexOf_7cf53 3 (some .int) 2 := by unfold bb_iv; decide +kernel
theorem ws_637 : bb_is_ RJ0 637 yJ1_indexOf_4cfef cJ1_indexOf_4cfef 4 (some .int) 4 := by unfold bb_is_; decide +kernel
theorem ws_88 : bb_is_ RJ1 88 yJ1_canEncode_9a6ad cJ1_canEncode_9a6ad 1 (some .boolean) 1 := by unfold bb_is_; decide +kernel
theorem ws_95 : bb_is_ RJ1 95 yJ1_indexOfChar_4cfef cJ1_indexOfChar_4cfef 6 (some .int) 4 := by unfold bb_is_; decide +kernel
theorem ws_92 : bb_im RJ1 92 := by unfold bb_im; decide +kernel
theorem ws_m38 : bb_in2 RJ1 38 := by unfold bb_in2; decide +kernel
set_option maxRecDepth 100000 in
set_option maxHeartbeats 4000000 in
theorem ok_isLatin1 {h : bb_H} : bb_Ok yJ0_isLatin1_aae02 cJ0_isLatin1_aae02 1 (some .boolean) rm_s0 [.ref bb_qs] h (some (.int 1), h) := by
  refine bb_ok (L := [.ref bb_qs]) (by decide) (Nat.le_of_ble_eq_true rfl) rfl ?_
  refine bb_scmp ws_38 dJ0_isLatin1_aae02_0 ?_
  refine bb_if_eq (tgt := 17) dJ0_isLatin1_aae02_3 (by decide) (fun q => absurd q (by decide)) (fun _ => ?_)
  refine bb_aload_n dJ0_isLatin1_aae02_6 rfl ?_
  refine bb_scod ws_15 dJ0_isLatin1_aae02_7 ?_
  refine bb_if_ne (tgt := 17) dJ0_isLatin1_aae02_10 (by decide) (fun q => absurd rfl q) (fun _ => ?_)
  refine bb_iconst (v := 1) dJ0_isLatin1_aae02_13 (by decide) ?_
  refine bb_goto (tgt := 18) dJ0_isLatin1_aae02_14 (by decide) ?_
  exact bb_zret rfl (by decide) rfl dJ0_isLatin1_aae02_18
set_option maxRecDepth 100000 in
set_option maxHeartbeats 4000000 in
theorem ok_coder {h : bb_H} : bb_Ok yJ0_coder_7d493 cJ0_coder_7d493 1 (some .byte) rm_s0 [.ref bb_qs] h (some (.int 0), h) := by
  refine bb_ok (L := [.ref bb_qs]) (by decide) (Nat.le_of_ble_eq_true rfl) rfl ?_
  refine bb_scmp ws_38 dJ0_coder_7d493_0 ?_
  refine bb_if_eq (tgt := 13) dJ0_coder_7d493_3 (by decide) (fun q => absurd q (by decide)) (fun _ => ?_)
  refine bb_aload_n dJ0_coder_7d493_6 rfl ?_
  refine bb_scod ws_15 dJ0_coder_7d493_7 ?_
  refine bb_goto (tgt := 14) dJ0_coder_7d493_10 (by decide) ?_
  exact bb_zret rfl (by decide) rfl dJ0_coder_7d493_14
set_option maxRecDepth 100000 in
set_option maxHeartbeats 4000000 in
theorem ok_slength {h : bb_H} : bb_Ok yJ0_length_8abf5 cJ0_length_8abf5 1 (some .int) rm_s1 [.ref bb_qs] h (some (.int 5), h) := by
  refine bb_ok (L := [.ref bb_qs]) (by decide) (Nat.le_of_ble_eq_true rfl) rfl ?_
  refine bb_aload_n dJ0_length_8abf5_0 rfl ?_
  refine bb_sget ws_9 dJ0_length_8abf5_1 ?_
  refine bb_slen dJ0_length_8abf5_4 ?_
  refine bb_aload_n dJ0_length_8abf5_5 rfl ?_
  refine bb_sinv (as := []) ws_335 (by unfold bb_rr; decide) dJ0_length_8abf5_6 rfl rfl (Nat.le_of_ble_eq_true rfl) ok_coder ?_
  refine bb_ishr dJ0_length_8abf5_9 ?_
  exact bb_iret rfl rfl dJ0_length_8abf5_10
set_option maxRecDepth 100000 in
set_option maxHeartbeats 4000000 in
theorem ok_canEncode {h : bb_H} {x : Int32} : bb_Ok yJ1_canEncode_9a6ad cJ1_canEncode_9a6ad 1 (some .boolean) rm_s0 [.int x] h (some (.int (if x < 0 then 0 else if 255 < x then 0 else 1)), h) := by
  refine bb_ok (L := [.int x]) (by decide) (Nat.le_of_ble_eq_true rfl) rfl ?_
  refine bb_iload_n dJ1_canEncode_9a6ad_0 rfl ?_
  refine bb_if_lt (tgt := 15) dJ1_canEncode_9a6ad_1 (by decide) (fun q => ?_) (fun q => ?_)
  · rw [if_pos q]
    refine bb_iconst (v := 0) dJ1_canEncode_9a6ad_15 (by decide) ?_
    exact bb_zret rfl (by decide) rfl dJ1_canEncode_9a6ad_16
  · rw [if_neg q]
    refine bb_iload_n dJ1_canEncode_9a6ad_4 rfl ?_
    refine bb_sipush (v := 255) dJ1_canEncode_9a6ad_5 (by decide) ?_
    refine bb_icmp_gt (tgt := 15) dJ1_canEncode_9a6ad_8 (by decide) (fun q => ?_) (fun q => ?_)
    · rw [if_pos q]
      refine bb_iconst (v := 0) dJ1_canEncode_9a6ad_15 (by decide) ?_
      exact bb_zret rfl (by decide) rfl dJ1_canEncode_9a6ad_16
    · rw [if_neg q]
      refine bb_iconst (v := 1) dJ1_canEncode_9a6ad_11 (by decide) ?_
      refine bb_goto (tgt := 16) dJ1_canEncode_9a6ad_12 (by decide) ?_
      exact bb_zret rfl (by decide) rfl dJ1_canEncode_9a6ad_16
/-- the first place from j on whose letter this is -/
def bb_ixf (b : Int32) (j : Nat) : Nat → Int32
  | 0 => -1
  | n + 1 => if ([112, 104, 117, 100, 114] : List Int32).getD j 0 = b then nI j else bb_ixf b (j + 1) n
set_option maxRecDepth 100000 in
set_option maxHeartbeats 4000000 in
theorem j_ixchar {h : bb_H} {x : Int32} : ∀ (n j : Nat), j + n = 5 → bb_J RJ1 cJ1_indexOfChar_4cfef 6 (some .int) rm_s0 (some (.int (bb_ixf x.toInt8.toInt32 j n)), h) 7 [.ref bb_qv, .int x, .int 0, .int 5, .int x.toInt8.toInt32, .int (nI j)] [] h := by
  intro n
  induction n with
  | zero =>
    intro j hj
    obtain rfl : j = 5 := (by omega)
    refine bb_iload dJ1_indexOfChar_4cfef_7 rfl ?_
    refine bb_iload_n dJ1_indexOfChar_4cfef_9 rfl ?_
    refine bb_icmp_ge (tgt := 31) dJ1_indexOfChar_4cfef_10 (by decide) (fun q => ?_) (fun q => absurd (by decide) q)
    refine bb_iconst (v := -1) dJ1_indexOfChar_4cfef_31 (by decide) ?_
    exact bb_iret rfl rfl dJ1_indexOfChar_4cfef_32
  | succ n ih =>
    intro j hj
    refine bb_iload dJ1_indexOfChar_4cfef_7 rfl ?_
    refine bb_iload_n dJ1_indexOfChar_4cfef_9 rfl ?_
    refine bb_icmp_ge (tgt := 31) dJ1_indexOfChar_4cfef_10 (by decide) (fun q => absurd q (nI_ge (b := 5) (by omega) (by decide))) (fun q => ?_)
    refine bb_aload_n dJ1_indexOfChar_4cfef_13 rfl ?_
    refine bb_iload dJ1_indexOfChar_4cfef_14 rfl ?_
    refine bb_sld (by omega) rfl dJ1_indexOfChar_4cfef_16 ?_
    refine bb_iload dJ1_indexOfChar_4cfef_17 rfl ?_
    refine bb_icmp_ne (tgt := 25) dJ1_indexOfChar_4cfef_19 (by decide) (fun q => ?_) (fun q => ?_)
    · rw [show bb_ixf x.toInt8.toInt32 j (n + 1) = bb_ixf x.toInt8.toInt32 (j + 1) n from if_neg q]
      refine bb_iinc (v := nI (j + 1)) (L' := [.ref bb_qv, .int x, .int 0, .int 5, .int x.toInt8.toInt32, .int (nI (j + 1))]) dJ1_indexOfChar_4cfef_25 rfl (nI_1 j) (by decide) rfl rfl ?_
      refine bb_goto (tgt := 7) dJ1_indexOfChar_4cfef_28 (by decide) ?_
      exact ih (j + 1) (by omega)
    · rw [show bb_ixf x.toInt8.toInt32 j (n + 1) = nI j from if_pos q]
      refine bb_iload dJ1_indexOfChar_4cfef_22 rfl ?_
      exact bb_iret rfl rfl dJ1_indexOfChar_4cfef_24
set_option maxRecDepth 100000 in
set_option maxHeartbeats 4000000 in
theorem ok_ixchar {h : bb_H} {x : Int32} : bb_Ok yJ1_indexOfChar_4cfef cJ1_indexOfChar_4cfef 6 (some .int) rm_s0 [.ref bb_qv, .int x, .int 0, .int 5] h (some (.int (bb_ixf x.toInt8.toInt32 0 5)), h) := by
  refine bb_ok (L := [.ref bb_qv, .int x, .int 0, .int 5, .null, .null]) (by decide) (Nat.le_of_ble_eq_true rfl) rfl ?_
  refine bb_iload_n dJ1_indexOfChar_4cfef_0 rfl ?_
  refine bb_i2b dJ1_indexOfChar_4cfef_1 ?_
  refine bb_istore (L' := [.ref bb_qv, .int x, .int 0, .int 5, .int x.toInt8.toInt32, .null]) dJ1_indexOfChar_4cfef_2 (by decide) rfl rfl ?_
  refine bb_iload_n dJ1_indexOfChar_4cfef_4 rfl ?_
  refine bb_istore (L' := [.ref bb_qv, .int x, .int 0, .int 5, .int x.toInt8.toInt32, .int 0]) dJ1_indexOfChar_4cfef_5 (by decide) rfl rfl ?_
  exact j_ixchar 5 0 rfl
theorem bb_kix_no {x : Int32} (h : x < 0 ∨ 255 < x) : bb_kix x = -1 := by
  have hne : ∀ k : Int32, (0 ≤ k ∧ k ≤ 255) → ¬ x = k := fun k hk e => by
    subst e
    rcases h with h | h
    · exact absurd hk.1 (Int32.not_le.mpr h)
    · exact absurd hk.2 (Int32.not_le.mpr h)
  unfold bb_kix
  rw [if_neg (hne 112 (by decide)), if_neg (hne 104 (by decide)), if_neg (hne 117 (by decide)), if_neg (hne 100 (by decide)), if_neg (hne 114 (by decide))]
theorem bb_kix_all : ∀ n, n < 256 → bb_ixf (nI n).toInt8.toInt32 0 5 = bb_kix (nI n) := by decide +kernel
theorem bb_kix_yes {x : Int32} (h : ¬ x < 0) (h2 : ¬ 255 < x) : bb_ixf x.toInt8.toInt32 0 5 = bb_kix x := by
  obtain ⟨j, hj, rfl⟩ := nI_of2 (M := 255) (n := 255) (by decide) h (Int32.not_lt.mp h2)
  exact bb_kix_all j (by omega)
set_option maxRecDepth 100000 in
set_option maxHeartbeats 4000000 in
theorem ok_lindexOf {h : bb_H} {x : Int32} : bb_Ok yJ1_indexOf_4cfef cJ1_indexOf_4cfef 4 (some .int) rm_s1 [.ref bb_qv, .int x, .int 0, .int 5] h (some (.int (bb_kix x)), h) := by
  refine bb_ok (L := [.ref bb_qv, .int x, .int 0, .int 5]) (by decide) (Nat.le_of_ble_eq_true rfl) rfl ?_
  refine bb_iload_n dJ1_indexOf_4cfef_0 rfl ?_
  refine bb_invS (as := [.int x]) ws_88 (by unfold bb_rr; decide) dJ1_indexOf_4cfef_1 rfl rfl (Nat.le_of_ble_eq_true rfl) ok_canEncode ?_
  have no : ∀ (hx : x < 0 ∨ 255 < x), bb_J RJ1 cJ1_indexOf_4cfef 4 (some .int) rm_s1 (some (.int (bb_kix x)), h) 4 [.ref bb_qv, .int x, .int 0, .int 5] [.int 0] h := fun hx => by
    rw [bb_kix_no hx]
    refine bb_if_ne (tgt := 9) dJ1_indexOf_4cfef_4 (by decide) (fun q => absurd rfl q) (fun _ => ?_)
    refine bb_iconst (v := -1) dJ1_indexOf_4cfef_7 (by decide) ?_
    exact bb_iret rfl rfl dJ1_indexOf_4cfef_8
  by_cases c1 : x < 0
  · rw [if_pos c1]
    exact no (Or.inl c1)
  · rw [if_neg c1]
    by_cases c2 : 255 < x
    · rw [if_pos c2]
      exact no (Or.inr c2)
    · rw [if_neg c2]
      refine bb_if_ne (tgt := 9) dJ1_indexOf_4cfef_4 (by decide) (fun _ => ?_) (fun q => absurd q (by decide))
      refine bb_iload_n dJ1_indexOf_4cfef_9 rfl ?_
      refine bb_iconst (v := 0) dJ1_indexOf_4cfef_10 (by decide) ?_
      refine bb_mmax ws_92 (by decide) (by decide) (Nat.le_of_ble_eq_true rfl) dJ1_indexOf_4cfef_11 ?_
      refine bb_istore_n (L' := [.ref bb_qv, .int x, .int 0, .int 5]) dJ1_indexOf_4cfef_14 (by decide) rfl rfl ?_
      refine bb_iload_n dJ1_indexOf_4cfef_15 rfl ?_
      refine bb_aload_n dJ1_indexOf_4cfef_16 rfl ?_
      refine bb_slen dJ1_indexOf_4cfef_17 ?_
      refine bb_mmin ws_m38 (by decide) (by decide) (Nat.le_of_ble_eq_true rfl) dJ1_indexOf_4cfef_18 ?_
      refine bb_istore_n (L' := [.ref bb_qv, .int x, .int 0, .int 5]) dJ1_indexOf_4cfef_21 (by decide) rfl rfl ?_
      refine bb_iload_n dJ1_indexOf_4cfef_22 rfl ?_
      refine bb_iload_n dJ1_indexOf_4cfef_23 rfl ?_
      refine bb_icmp_lt (tgt := 29) dJ1_indexOf_4cfef_24 (by decide) (fun _ => ?_) (fun q => absurd (by decide) q)
      refine bb_aload_n dJ1_indexOf_4cfef_29 rfl ?_
      refine bb_iload_n dJ1_indexOf_4cfef_30 rfl ?_
      refine bb_iload_n dJ1_indexOf_4cfef_31 rfl ?_
      refine bb_iload_n dJ1_indexOf_4cfef_32 rfl ?_
      refine bb_invS (as := [.ref bb_qv, .int x, .int 0, .int 5]) ws_95 (by unfold bb_rr; decide) dJ1_indexOf_4cfef_33 rfl rfl (Nat.le_of_ble_eq_true rfl) ok_ixchar ?_
      rw [bb_kix_yes c1 c2]
      exact bb_iret rfl rfl dJ1_indexOf_4cfef_36
set_option maxRecDepth 100000 in
set_option maxHeartbeats 4000000 in
theorem ok_indexOf2 {h : bb_H} {x : Int32} : bb_Ok yJ0_indexOf_7cf53 cJ0_indexOf_7cf53 3 (some .int) rm_s2 [.ref bb_qs, .int x, .int 0] h (some (.int (bb_kix x)), h) := by
  refine bb_ok (L := [.ref bb_qs, .int x, .int 0]) (by decide) (Nat.le_of_ble_eq_true rfl) rfl ?_
  refine bb_aload_n dJ0_indexOf_7cf53_0 rfl ?_
  refine bb_sinv (as := []) ws_492 (by unfold bb_rr; decide) dJ0_indexOf_7cf53_1 rfl rfl (Nat.le_of_ble_eq_true rfl) ok_isLatin1 ?_
  refine bb_if_eq (tgt := 23) dJ0_indexOf_7cf53_4 (by decide) (fun q => absurd q (by decide)) (fun _ => ?_)
  refine bb_aload_n dJ0_indexOf_7cf53_7 rfl ?_
  refine bb_sget ws_9 dJ0_indexOf_7cf53_8 ?_
  refine bb_iload_n dJ0_indexOf_7cf53_11 rfl ?_
  refine bb_iload_n dJ0_indexOf_7cf53_12 rfl ?_
  refine bb_aload_n dJ0_indexOf_7cf53_13 rfl ?_
  refine bb_sinv (as := []) ws_505 (by unfold bb_rr; decide) dJ0_indexOf_7cf53_14 rfl rfl (Nat.le_of_ble_eq_true rfl) ok_slength ?_
  refine bb_invS (as := [.ref bb_qv, .int x, .int 0, .int 5]) ws_637 (by unfold bb_rr; decide) dJ0_indexOf_7cf53_17 rfl rfl (Nat.le_of_ble_eq_true rfl) ok_lindexOf ?_
  refine bb_goto (tgt := 36) dJ0_indexOf_7cf53_20 (by decide) ?_
  exact bb_iret rfl rfl dJ0_indexOf_7cf53_36
set_option maxRecDepth 100000 in
set_option maxHeartbeats 4000000 in
theorem ok_indexOf1 {h : bb_H} {x : Int32} : bb_Ok yJ0_indexOf_0f7a4 cJ0_indexOf_0f7a4 2 (some .int) rm_s3 [.ref bb_qs, .int x] h (some (.int (bb_kix x)), h) := by
  refine bb_ok (L := [.ref bb_qs, .int x]) (by decide) (Nat.le_of_ble_eq_true rfl) rfl ?_
  refine bb_aload_n dJ0_indexOf_0f7a4_0 rfl ?_
  refine bb_iload_n dJ0_indexOf_0f7a4_1 rfl ?_
  refine bb_iconst (v := 0) dJ0_indexOf_0f7a4_2 (by decide) ?_
  refine bb_sinv (as := [.int x, .int 0]) ws_633 (by unfold bb_rr; decide) dJ0_indexOf_0f7a4_3 rfl rfl (Nat.le_of_ble_eq_true rfl) ok_indexOf2 ?_
  exact bb_iret rfl rfl dJ0_indexOf_0f7a4_6
def bb_iix (own : String) (ix : Nat) : Prop := bb_iv own ix "java/lang/String" yJ0_indexOf_0f7a4 cJ0_indexOf_0f7a4 2 (some .int) 1
theorem bb_indexOf {cc : ByteArray} {nL : Nat} {ret : Option FieldType} {rm : Room} {own : String} {o : Option Value × bb_H} {pc : Nat} {L st : List Value} {h : bb_H} {ix : Nat} {x : Int32} (hs : bb_iix own ix) (hf : 6 ≤ rm.frames) (hl : 150 ≤ rm.locals) (hrest : (st.map fun v => v.category).sum ≤ 8) (hd : decode cc pc = .ok (.invokevirtual ix, 3)) (k : bb_J own cc nL ret rm o (pc + 3) L (.int (bb_kix x) :: st) h) : bb_J own cc nL ret rm o pc L (.int x :: .ref bb_qs :: st) h :=
  bb_sinv (as := [.int x]) hs ⟨⟨rfl, rfl⟩, by show 3 + 1 ≤ _; omega, by show 8 + (2 + 11) + 70 ≤ _; omega⟩ hd rfl rfl hrest ok_indexOf1 k
end
