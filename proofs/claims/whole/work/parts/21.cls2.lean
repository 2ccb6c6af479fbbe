theorem fl_X0_18 : bb_fl RX0 18 0 2 := ⟨RX0, TX0, 5, rfl, by decide, bb_u0, by decide +kernel⟩
theorem fp_X0_18 : bb_fp RX0 18 0 2 .int := ⟨RX0, TX0, 5, tyX0, rfl, by decide, bb_u0, by decide +kernel, tyX0_ok, nmX0, rfl, rfl⟩
theorem fl_X0_22 : bb_fl RX0 22 0 3 := ⟨RX0, TX0, 5, rfl, by decide, bb_u0, by decide +kernel⟩
theorem fp_X0_22 : bb_fp RX0 22 0 3 .int := ⟨RX0, TX0, 5, tyX0, rfl, by decide, bb_u0, by decide +kernel, tyX0_ok, nmX0, rfl, rfl⟩
theorem fl_X0_25 : bb_fl RX0 25 0 4 := ⟨RX0, TX0, 5, rfl, by decide, bb_u0, by decide +kernel⟩
theorem fp_X0_25 : bb_fp RX0 25 0 4 .int := ⟨RX0, TX0, 5, tyX0, rfl, by decide, bb_u0, by decide +kernel, tyX0_ok, nmX0, rfl, rfl⟩
theorem fl_X0_9 : bb_fl RX0 9 0 0 := ⟨RX0, TX0, 5, rfl, by decide, bb_u0, by decide +kernel⟩
theorem fl_X0_15 : bb_fl RX0 15 0 1 := ⟨RX0, TX0, 5, rfl, by decide, bb_u0, by decide +kernel⟩
theorem iv_X0_28 : bb_iv RX0 28 RX0 yX0_seatLast cX0_seatLast 3 none 2 := by unfold bb_iv; decide +kernel
theorem in_X0_32 : bb_in_ RX0 32 "BattleBench" yX7_within cX7_within 3 (some .boolean) 3 := by unfold bb_in_; decide +kernel
theorem iv_X0_36 : bb_iv RX0 36 RX0 yX0_seatOf cX0_seatOf 3 (some .int) 1 := by unfold bb_iv; decide +kernel
theorem iv_X0_40 : bb_iv RX0 40 RX0 yX0_setOn cX0_setOn 2 (some .int) 1 := by unfold bb_iv; decide +kernel
theorem co_J6_265 : Cond.constant RJ6 265 1431655765 ∈ bb_good := by decide +kernel
theorem co_J6_266 : Cond.constant RJ6 266 858993459 ∈ bb_good := by decide +kernel
theorem co_J6_267 : Cond.constant RJ6 267 252645135 ∈ bb_good := by decide +kernel
theorem fl_X3_15 : bb_fl RX3 15 3 1 := ⟨RX3, TX3, 4, rfl, by decide, bb_u3, by decide +kernel⟩
theorem iv_X3_58 : bb_iv RX3 58 RX3 yX3_lossOfHale cX3_lossOfHale 2 (some .int) 1 := by unfold bb_iv; decide +kernel
theorem fl_X3_24 : bb_fl RX3 24 3 3 := ⟨RX3, TX3, 4, rfl, by decide, bb_u3, by decide +kernel⟩
theorem is_X3_62 : bb_is_ RX3 62 yJ6_bitCount_0f7a4 cJ6_bitCount_0f7a4 1 (some .int) 1 := by unfold bb_is_; decide +kernel
theorem imax_X3_52 : bb_im RX3 52 := by unfold bb_im; decide +kernel
theorem iv_X0_43 : bb_iv RX0 43 RX3 yX3_lossOf cX3_lossOf 5 (some .int) 4 := by unfold bb_iv; decide +kernel
theorem iv_X0_49 : bb_iv RX0 49 RX0 yX0_hasPairAt cX0_hasPairAt 2 (some .boolean) 1 := by unfold bb_iv; decide +kernel
theorem co_X0_53 : Cond.constant RX0 53 1103515245 ∈ bb_good := by decide +kernel
theorem co_X0_54 : Cond.constant RX0 54 2147483647 ∈ bb_good := by decide +kernel
theorem co_X0_55 : Cond.constant RX0 55 65536 ∈ bb_good := by decide +kernel
theorem iv_X0_56 : bb_iv RX0 56 RX0 yX0_swapAt cX0_swapAt 3 none 1 := by unfold bb_iv; decide +kernel
theorem imax_X0_60 : bb_im RX0 60 := by unfold bb_im; decide +kernel
theorem iv_X0_66 : bb_iv RX0 66 RX0 yX0_passYear cX0_passYear 8 none 1 := by unfold bb_iv; decide +kernel
theorem fl_X1_17 : bb_fl RX1 17 1 1 := ⟨RX1, TX1, 3, rfl, by decide, bb_u1, by decide +kernel⟩
theorem fp_X1_17 : bb_fp RX1 17 1 1 .int := ⟨RX1, TX1, 3, tyX1, rfl, by decide, bb_u1, by decide +kernel, tyX1_ok, nmX1, rfl, rfl⟩
theorem fl_X1_21 : bb_fl RX1 21 1 2 := ⟨RX1, TX1, 3, rfl, by decide, bb_u1, by decide +kernel⟩
theorem fp_X1_21 : bb_fp RX1 21 1 2 .int := ⟨RX1, TX1, 3, tyX1, rfl, by decide, bb_u1, by decide +kernel, tyX1_ok, nmX1, rfl, rfl⟩
theorem fl_X1_11 : bb_fl RX1 11 1 0 := ⟨RX1, TX1, 3, rfl, by decide, bb_u1, by decide +kernel⟩
theorem iv_X1_25 : bb_iv RX1 25 RX0 yX0_takeFrom cX0_takeFrom 3 none 1 := by unfold bb_iv; decide +kernel
theorem imin_X1_29 : bb_in2 RX1 29 := by unfold bb_in2; decide +kernel
theorem fl_X2_15 : bb_fl RX2 15 2 1 := ⟨RX2, TX2, 3, rfl, by decide, bb_u2, by decide +kernel⟩
theorem fl_X2_9 : bb_fl RX2 9 2 0 := ⟨RX2, TX2, 3, rfl, by decide, bb_u2, by decide +kernel⟩
theorem iv_X2_32 : bb_iv RX2 32 RX2 yX2_keepAsBest cX2_keepAsBest 2 none 0 := by unfold bb_iv; decide +kernel
theorem in_X2_28 : bb_in_ RX2 28 "BattleBench" yX7_holds cX7_holds 2 (some .boolean) 2 := by unfold bb_in_; decide +kernel
theorem fl_X2_18 : bb_fl RX2 18 2 2 := ⟨RX2, TX2, 3, rfl, by decide, bb_u2, by decide +kernel⟩
theorem fp_X2_18 : bb_fp RX2 18 2 2 .int := ⟨RX2, TX2, 3, tyX2, rfl, by decide, bb_u2, by decide +kernel, tyX2_ok, nmX2, rfl, rfl⟩
theorem iv_X2_22 : bb_iv RX2 22 RX0 yX0_whoSits cX0_whoSits 3 (some .int) 0 := by unfold bb_iv; decide +kernel
theorem in_X2_35 : bb_in_ RX2 35 "BattleBench" yX7_within cX7_within 3 (some .boolean) 3 := by unfold bb_in_; decide +kernel
theorem iv_X2_39 : bb_iv RX2 39 RX2 yX2_swap cX2_swap 4 none 2 := by unfold bb_iv; decide +kernel
theorem fl_X3_21 : bb_fl RX3 21 3 2 := ⟨RX3, TX3, 4, rfl, by decide, bb_u3, by decide +kernel⟩
theorem fl_X3_9 : bb_fl RX3 9 3 0 := ⟨RX3, TX3, 4, rfl, by decide, bb_u3, by decide +kernel⟩
theorem fp_X3_9 : bb_fp RX3 9 3 0 .int := ⟨RX3, TX3, 4, tyX3, rfl, by decide, bb_u3, by decide +kernel, tyX3_ok, nmX3, rfl, rfl⟩
theorem in_X3_27 : bb_in_ RX3 27 "BattleBench" yX7_within cX7_within 3 (some .boolean) 3 := by unfold bb_in_; decide +kernel
theorem iv_X3_31 : bb_iv RX3 31 RX3 yX3_isTaken cX3_isTaken 4 (some .boolean) 2 := by unfold bb_iv; decide +kernel
theorem iv_X3_35 : bb_iv RX3 35 RX3 yX3_placeNext cX3_placeNext 3 none 2 := by unfold bb_iv; decide +kernel
theorem imin_X3_46 : bb_in2 RX3 46 := by unfold bb_in2; decide +kernel
theorem iv_X3_42 : bb_iv RX3 42 RX3 yX3_isNobodyBetween cX3_isNobodyBetween 7 (some .boolean) 3 := by unfold bb_iv; decide +kernel
theorem iv_X3_39 : bb_iv RX3 39 RX3 yX3_wereTogether cX3_wereTogether 4 (some .boolean) 2 := by unfold bb_iv; decide +kernel
theorem in_X3_55 : bb_in_ RX3 55 "BattleBench" yX7_holds cX7_holds 2 (some .boolean) 2 := by unfold bb_in_; decide +kernel
theorem fl_X4_22 : bb_fl RX4 22 4 3 := ⟨RX4, TX4, 4, rfl, by decide, bb_u4, by decide +kernel⟩
theorem fl_X4_9 : bb_fl RX4 9 4 0 := ⟨RX4, TX4, 4, rfl, by decide, bb_u4, by decide +kernel⟩
theorem fp_X4_9 : bb_fp RX4 9 4 0 .boolean := ⟨RX4, TX4, 4, tyX4, rfl, by decide, bb_u4, by decide +kernel, tyX4_ok, nmX4, rfl, rfl⟩
theorem fl_X4_15 : bb_fl RX4 15 4 1 := ⟨RX4, TX4, 4, rfl, by decide, bb_u4, by decide +kernel⟩
theorem fp_X4_15 : bb_fp RX4 15 4 1 .int := ⟨RX4, TX4, 4, tyX4, rfl, by decide, bb_u4, by decide +kernel, tyX4_ok, nmX4, rfl, rfl⟩
theorem fl_X4_19 : bb_fl RX4 19 4 2 := ⟨RX4, TX4, 4, rfl, by decide, bb_u4, by decide +kernel⟩
theorem fp_X4_19 : bb_fp RX4 19 4 2 .int := ⟨RX4, TX4, 4, tyX4, rfl, by decide, bb_u4, by decide +kernel, tyX4_ok, nmX4, rfl, rfl⟩
theorem iv_X4_26 : bb_iv RX4 26 RX4 yX4_spans cX4_spans 3 (some .boolean) 2 := by unfold bb_iv; decide +kernel
theorem in_X4_30 : bb_in_ RX4 30 "BattleBench" yX7_within cX7_within 3 (some .boolean) 3 := by unfold bb_in_; decide +kernel
theorem iv_X4_34 : bb_iv RX4 34 RX4 yX4_cut cX4_cut 3 (some .long) 1 := by unfold bb_iv; decide +kernel
theorem fl_X5_10 : bb_fl RX5 10 5 0 := ⟨RX5, TX5, 3, rfl, by decide, bb_u5, by decide +kernel⟩
theorem iv_X5_30 : bb_iv RX5 30 RX3 yX3_takeFrom cX3_takeFrom 4 none 1 := by unfold bb_iv; decide +kernel
theorem fl_X5_19 : bb_fl RX5 19 5 1 := ⟨RX5, TX5, 3, rfl, by decide, bb_u5, by decide +kernel⟩
theorem iv_X5_34 : bb_iv RX5 34 RX0 yX0_takeFrom cX0_takeFrom 3 none 1 := by unfold bb_iv; decide +kernel
theorem fl_X5_26 : bb_fl RX5 26 5 2 := ⟨RX5, TX5, 3, rfl, by decide, bb_u5, by decide +kernel⟩
theorem iv_X5_37 : bb_iv RX5 37 RX1 yX1_takeFrom cX1_takeFrom 3 none 1 := by unfold bb_iv; decide +kernel
abbrev rm_X0_takeFrom : Room := { frames := 0, cells := 0, slots := 0, locals := 0 }
set_option maxRecDepth 100000 in
set_option maxHeartbeats 4000000 in
theorem j_X0_takeFrom_2 {r : bb_H} : ∀ (n : Nat) (x0 : Nat) (x1 : Nat) (x2 : Int32) (h : bb_H), m_X0_takeFrom_2 n x0 x1 x2 h = some r → bb_J RX0 cX0_takeFrom 3 none rm_X0_takeFrom (none, r) 2 [.ref x0, .ref x1, .int x2] [] h := by
  intro n
  induction n with
  | zero =>
    intro x0 x1 x2 h hf
    exact absurd hf (fun z => by cases z)
  | succ n ih =>
    intro x0 x1 x2 h hf
    unfold m_X0_takeFrom_2 at hf
    refine bb_iload_n dX0_takeFrom_2 rfl ?_
    refine bb_bipush (v := 6) dX0_takeFrom_3 (by decide) ?_
    refine bb_icmp_ge (tgt := 38) dX0_takeFrom_5 (by decide) (fun c5 => ?_) (fun c5 => ?_)
    · rw [if_pos c5] at hf
      refine bb_aload_n dX0_takeFrom_38 rfl ?_
      refine bb_aload_n dX0_takeFrom_39 rfl ?_
      obtain ⟨t40, h40, hf⟩ := bb_bind hf
      refine bb_getI fl_X0_18 dX0_takeFrom_40 h40 ?_
      obtain ⟨g43, h43, hf⟩ := bb_bind hf
      refine bb_putI fp_X0_18 dX0_takeFrom_43 h43 ?_
      refine bb_aload_n dX0_takeFrom_46 rfl ?_
      refine bb_aload_n dX0_takeFrom_47 rfl ?_
      obtain ⟨t48, h48, hf⟩ := bb_bind hf
      refine bb_getI fl_X0_22 dX0_takeFrom_48 h48 ?_
      obtain ⟨g51, h51, hf⟩ := bb_bind hf
      refine bb_putI fp_X0_22 dX0_takeFrom_51 h51 ?_
      refine bb_aload_n dX0_takeFrom_54 rfl ?_
      refine bb_aload_n dX0_takeFrom_55 rfl ?_
      obtain ⟨t56, h56, hf⟩ := bb_bind hf
      refine bb_getI fl_X0_25 dX0_takeFrom_56 h56 ?_
      obtain ⟨g59, h59, hf⟩ := bb_bind hf
      refine bb_putI fp_X0_25 dX0_takeFrom_59 h59 ?_
      obtain rfl := Option.some.inj hf
      exact bb_vret rfl rfl dX0_takeFrom_62
    rw [if_neg c5] at hf
    refine bb_aload_n dX0_takeFrom_8 rfl ?_
    obtain ⟨t9, h9, hf⟩ := bb_bind hf
    refine bb_getR fl_X0_9 dX0_takeFrom_9 h9 ?_
    refine bb_iload_n dX0_takeFrom_12 rfl ?_
    refine bb_aload_n dX0_takeFrom_13 rfl ?_
    obtain ⟨t14, h14, hf⟩ := bb_bind hf
    refine bb_getR fl_X0_9 dX0_takeFrom_14 h14 ?_
    refine bb_iload_n dX0_takeFrom_17 rfl ?_
    obtain ⟨t18, h18, hf⟩ := bb_bind hf
    refine bb_iaload dX0_takeFrom_18 h18 ?_
    obtain ⟨g19, h19, hf⟩ := bb_bind hf
    refine bb_iastore dX0_takeFrom_19 h19 ?_
    refine bb_aload_n dX0_takeFrom_20 rfl ?_
    obtain ⟨t21, h21, hf⟩ := bb_bind hf
    refine bb_getR fl_X0_15 dX0_takeFrom_21 h21 ?_
    refine bb_iload_n dX0_takeFrom_24 rfl ?_
    refine bb_aload_n dX0_takeFrom_25 rfl ?_
    obtain ⟨t26, h26, hf⟩ := bb_bind hf
    refine bb_getR fl_X0_15 dX0_takeFrom_26 h26 ?_
    refine bb_iload_n dX0_takeFrom_29 rfl ?_
    obtain ⟨t30, h30, hf⟩ := bb_bind hf
    refine bb_iaload dX0_takeFrom_30 h30 ?_
    obtain ⟨g31, h31, hf⟩ := bb_bind hf
    refine bb_iastore dX0_takeFrom_31 h31 ?_
    refine bb_iinc (v := x2 + 1) (L' := [.ref x0, .ref x1, .int (x2 + 1)]) dX0_takeFrom_32 rfl rfl (by decide) rfl rfl ?_
    refine bb_goto (tgt := 2) dX0_takeFrom_35 (by decide) ?_
    refine bb_fewer (L' := [.ref x0, .ref x1, .int (x2 + 1)]) (And.intro rfl (And.intro rfl (And.intro rfl trivial))) ?_
    exact ih _ _ _ _ hf
set_option maxRecDepth 100000 in
set_option maxHeartbeats 4000000 in
theorem j_X0_takeFrom_0 {r : bb_H} : ∀ (x0 : Nat) (x1 : Nat) (h : bb_H), m_X0_takeFrom x0 x1 h = some r → bb_J RX0 cX0_takeFrom 3 none rm_X0_takeFrom (none, r) 0 [.ref x0, .ref x1, .null] [] h := by
  intro x0 x1 h hf
  unfold m_X0_takeFrom at hf
  refine bb_iconst (v := 0) dX0_takeFrom_0 (by decide) ?_
  refine bb_istore_n (L' := [.ref x0, .ref x1, .int 0]) dX0_takeFrom_1 (by decide) rfl rfl ?_
  refine bb_fewer (L' := [.ref x0, .ref x1, .int 0]) (And.intro rfl (And.intro rfl (And.intro rfl trivial))) ?_
  exact j_X0_takeFrom_2 _ _ _ _ _ hf
theorem ok_X0_takeFrom {x0 : Nat} {x1 : Nat} {h : bb_H} {r : bb_H} (hf : m_X0_takeFrom x0 x1 h = some r) : bb_Ok yX0_takeFrom cX0_takeFrom 3 none rm_X0_takeFrom [.ref x0, .ref x1] h (none, r) :=
  bb_ok (L := [.ref x0, .ref x1, .null]) (by decide) (Nat.le_of_ble_eq_true rfl) rfl (bb_fewer (L' := [.ref x0, .ref x1, .null]) (And.intro rfl (And.intro rfl trivial)) (j_X0_takeFrom_0 _ _ _ hf))
abbrev rm_X0_seatLast : Room := { frames := 0, cells := 0, slots := 0, locals := 0 }
set_option maxRecDepth 100000 in
set_option maxHeartbeats 4000000 in
theorem j_X0_seatLast_36 {r : bb_H} : ∀ (h : bb_H), m_X0_seatLast_36 h = some r → bb_J RX0 cX0_seatLast 3 none rm_X0_seatLast (none, r) 36 [.null, .null, .null] [] h := by
  intro h hf
  unfold m_X0_seatLast_36 at hf
  obtain rfl := Option.some.inj hf
  exact bb_vret rfl rfl dX0_seatLast_36
set_option maxRecDepth 100000 in
set_option maxHeartbeats 4000000 in
theorem j_X0_seatLast_0 {r : bb_H} : ∀ (x0 : Nat) (x1 : Int32) (x2 : Int32) (h : bb_H), m_X0_seatLast x0 x1 x2 h = some r → bb_J RX0 cX0_seatLast 3 none rm_X0_seatLast (none, r) 0 [.ref x0, .int x1, .int x2] [] h := by
  intro x0 x1 x2 h hf
  unfold m_X0_seatLast at hf
  refine bb_aload_n dX0_seatLast_0 rfl ?_
  obtain ⟨t1, h1, hf⟩ := bb_bind hf
  refine bb_getI fl_X0_18 dX0_seatLast_1 h1 ?_
  refine bb_bipush (v := 6) dX0_seatLast_4 (by decide) ?_
  refine bb_icmp_ge (tgt := 36) dX0_seatLast_6 (by decide) (fun c6 => ?_) (fun c6 => ?_)
  · rw [if_pos c6] at hf
    refine bb_fewer (L' := [.null, .null, .null]) trivial ?_
    exact j_X0_seatLast_36 _ hf
  rw [if_neg c6] at hf
  refine bb_aload_n dX0_seatLast_9 rfl ?_
  obtain ⟨t10, h10, hf⟩ := bb_bind hf
  refine bb_getR fl_X0_9 dX0_seatLast_10 h10 ?_
  refine bb_iload_n dX0_seatLast_13 rfl ?_
  refine bb_iload_n dX0_seatLast_14 rfl ?_
  obtain ⟨g15, h15, hf⟩ := bb_bind hf
  refine bb_iastore dX0_seatLast_15 h15 ?_
  refine bb_aload_n dX0_seatLast_16 rfl ?_
  obtain ⟨t17, h17, hf⟩ := bb_bind hf
  refine bb_getR fl_X0_15 dX0_seatLast_17 h17 ?_
  refine bb_aload_n dX0_seatLast_20 rfl ?_
  obtain ⟨t21, h21, hf⟩ := bb_bind hf
  refine bb_getI fl_X0_18 dX0_seatLast_21 h21 ?_
  refine bb_iload_n dX0_seatLast_24 rfl ?_
  obtain ⟨g25, h25, hf⟩ := bb_bind hf
  refine bb_iastore dX0_seatLast_25 h25 ?_
  refine bb_aload_n dX0_seatLast_26 rfl ?_
  refine bb_dup dX0_seatLast_27 rfl ?_
  obtain ⟨t28, h28, hf⟩ := bb_bind hf
  refine bb_getI fl_X0_18 dX0_seatLast_28 h28 ?_
  refine bb_iconst (v := 1) dX0_seatLast_31 (by decide) ?_
  refine bb_iadd dX0_seatLast_32 ?_
  obtain ⟨g33, h33, hf⟩ := bb_bind hf
  refine bb_putI fp_X0_18 dX0_seatLast_33 h33 ?_
  refine bb_fewer (L' := [.null, .null, .null]) trivial ?_
  exact j_X0_seatLast_36 _ hf
theorem ok_X0_seatLast {x0 : Nat} {x1 : Int32} {x2 : Int32} {h : bb_H} {r : bb_H} (hf : m_X0_seatLast x0 x1 x2 h = some r) : bb_Ok yX0_seatLast cX0_seatLast 3 none rm_X0_seatLast [.ref x0, .int x1, .int x2] h (none, r) :=
  bb_ok (L := [.ref x0, .int x1, .int x2]) (by decide) (Nat.le_of_ble_eq_true rfl) rfl (bb_fewer (L' := [.ref x0, .int x1, .int x2]) (And.intro rfl (And.intro rfl (And.intro rfl trivial))) (j_X0_seatLast_0 _ _ _ _ hf))
abbrev rm_X0_seatAll : Room := { frames := 1, cells := 0, slots := 0, locals := 22 }
set_option maxRecDepth 100000 in
set_option maxHeartbeats 4000000 in
theorem j_X0_seatAll_12 {r : bb_H} : ∀ (n : Nat) (x0 : Nat) (x1 : Int32) (x2 : Nat) (x3 : Int32) (h : bb_H), m_X0_seatAll_12 n x0 x1 x2 x3 h = some r → bb_J RX0 cX0_seatAll 4 none rm_X0_seatAll (none, r) 12 [.ref x0, .int x1, .ref x2, .int x3] [] h := by
  intro n
  induction n with
  | zero =>
    intro x0 x1 x2 x3 h hf
    exact absurd hf (fun z => by cases z)
  | succ n ih =>
    intro x0 x1 x2 x3 h hf
    unfold m_X0_seatAll_12 at hf
    refine bb_iload_n dX0_seatAll_12 rfl ?_
    refine bb_iload_n dX0_seatAll_13 rfl ?_
    refine bb_icmp_ge (tgt := 31) dX0_seatAll_14 (by decide) (fun c14 => ?_) (fun c14 => ?_)
    · rw [if_pos c14] at hf
      obtain rfl := Option.some.inj hf
      exact bb_vret rfl rfl dX0_seatAll_31
    rw [if_neg c14] at hf
    refine bb_aload_n dX0_seatAll_17 rfl ?_
    refine bb_iload_n dX0_seatAll_18 rfl ?_
    refine bb_aload_n dX0_seatAll_19 rfl ?_
    refine bb_iload_n dX0_seatAll_20 rfl ?_
    obtain ⟨t21, h21, hf⟩ := bb_bind hf
    refine bb_iaload dX0_seatAll_21 h21 ?_
    obtain ⟨g22, h22, hf⟩ := bb_bind hf
    obtain ⟨⟨v22, b22⟩, h22⟩ := bb_rcv_spec h22
    refine bb_invV (ci := 0) (as := [.int x3, .int t21]) iv_X0_28 (by unfold bb_rr; decide) rfl dX0_seatAll_22 rfl rfl b22 (Nat.le_of_ble_eq_true rfl) (ok_X0_seatLast h22) ?_
    refine bb_iinc (v := x3 + 1) (L' := [.ref x0, .int x1, .ref x2, .int (x3 + 1)]) dX0_seatAll_25 rfl rfl (by decide) rfl rfl ?_
    refine bb_goto (tgt := 12) dX0_seatAll_28 (by decide) ?_
    refine bb_fewer (L' := [.ref x0, .int x1, .ref x2, .int (x3 + 1)]) (And.intro rfl (And.intro rfl (And.intro rfl (And.intro rfl trivial)))) ?_
    exact ih _ _ _ _ _ hf
set_option maxRecDepth 100000 in
set_option maxHeartbeats 4000000 in
theorem j_X0_seatAll_0 {r : bb_H} : ∀ (x0 : Nat) (x1 : Int32) (x2 : Nat) (h : bb_H), m_X0_seatAll x0 x1 x2 h = some r → bb_J RX0 cX0_seatAll 4 none rm_X0_seatAll (none, r) 0 [.ref x0, .int x1, .ref x2, .null] [] h := by
  intro x0 x1 x2 h hf
  unfold m_X0_seatAll at hf
  refine bb_aload_n dX0_seatAll_0 rfl ?_
  refine bb_iconst (v := 0) dX0_seatAll_1 (by decide) ?_
  obtain ⟨g2, h2, hf⟩ := bb_bind hf
  refine bb_putI fp_X0_18 dX0_seatAll_2 h2 ?_
  refine bb_aload_n dX0_seatAll_5 rfl ?_
  refine bb_iconst (v := 0) dX0_seatAll_6 (by decide) ?_
  obtain ⟨g7, h7, hf⟩ := bb_bind hf
  refine bb_putI fp_X0_22 dX0_seatAll_7 h7 ?_
  refine bb_iconst (v := 0) dX0_seatAll_10 (by decide) ?_
  refine bb_istore_n (L' := [.ref x0, .int x1, .ref x2, .int 0]) dX0_seatAll_11 (by decide) rfl rfl ?_
  refine bb_fewer (L' := [.ref x0, .int x1, .ref x2, .int 0]) (And.intro rfl (And.intro rfl (And.intro rfl (And.intro rfl trivial)))) ?_
  exact j_X0_seatAll_12 _ _ _ _ _ _ hf
theorem ok_X0_seatAll {x0 : Nat} {x1 : Int32} {x2 : Nat} {h : bb_H} {r : bb_H} (hf : m_X0_seatAll x0 x1 x2 h = some r) : bb_Ok yX0_seatAll cX0_seatAll 4 none rm_X0_seatAll [.ref x0, .int x1, .ref x2] h (none, r) :=
  bb_ok (L := [.ref x0, .int x1, .ref x2, .null]) (by decide) (Nat.le_of_ble_eq_true rfl) rfl (bb_fewer (L' := [.ref x0, .int x1, .ref x2, .null]) (And.intro rfl (And.intro rfl (And.intro rfl trivial))) (j_X0_seatAll_0 _ _ _ _ hf))
abbrev rm_X0_seatAs : Room := { frames := 0, cells := 0, slots := 0, locals := 0 }
set_option maxRecDepth 100000 in
set_option maxHeartbeats 4000000 in
theorem j_X0_seatAs_2 {r : bb_H} : ∀ (n : Nat) (x0 : Nat) (x1 : Nat) (x2 : Int32) (h : bb_H), m_X0_seatAs_2 n x0 x1 x2 h = some r → bb_J RX0 cX0_seatAs 3 none rm_X0_seatAs (none, r) 2 [.ref x0, .ref x1, .int x2] [] h := by
  intro n
  induction n with
  | zero =>
    intro x0 x1 x2 h hf
    exact absurd hf (fun z => by cases z)
  | succ n ih =>
    intro x0 x1 x2 h hf
    unfold m_X0_seatAs_2 at hf
    refine bb_iload_n dX0_seatAs_2 rfl ?_
    refine bb_aload_n dX0_seatAs_3 rfl ?_
    obtain ⟨t4, h4, hf⟩ := bb_bind hf
    refine bb_getI fl_X0_18 dX0_seatAs_4 h4 ?_
    refine bb_icmp_ge (tgt := 25) dX0_seatAs_7 (by decide) (fun c7 => ?_) (fun c7 => ?_)
    · rw [if_pos c7] at hf
      obtain rfl := Option.some.inj hf
      exact bb_vret rfl rfl dX0_seatAs_25
    rw [if_neg c7] at hf
    refine bb_aload_n dX0_seatAs_10 rfl ?_
    obtain ⟨t11, h11, hf⟩ := bb_bind hf
    refine bb_getR fl_X0_15 dX0_seatAs_11 h11 ?_
    refine bb_iload_n dX0_seatAs_14 rfl ?_
    refine bb_aload_n dX0_seatAs_15 rfl ?_
    refine bb_iload_n dX0_seatAs_16 rfl ?_
    obtain ⟨t17, h17, hf⟩ := bb_bind hf
    refine bb_iaload dX0_seatAs_17 h17 ?_
    obtain ⟨g18, h18, hf⟩ := bb_bind hf
    refine bb_iastore dX0_seatAs_18 h18 ?_
    refine bb_iinc (v := x2 + 1) (L' := [.ref x0, .ref x1, .int (x2 + 1)]) dX0_seatAs_19 rfl rfl (by decide) rfl rfl ?_
    refine bb_goto (tgt := 2) dX0_seatAs_22 (by decide) ?_
    refine bb_fewer (L' := [.ref x0, .ref x1, .int (x2 + 1)]) (And.intro rfl (And.intro rfl (And.intro rfl trivial))) ?_
    exact ih _ _ _ _ hf
set_option maxRecDepth 100000 in
set_option maxHeartbeats 4000000 in
theorem j_X0_seatAs_0 {r : bb_H} : ∀ (x0 : Nat) (x1 : Nat) (h : bb_H), m_X0_seatAs x0 x1 h = some r → bb_J RX0 cX0_seatAs 3 none rm_X0_seatAs (none, r) 0 [.ref x0, .ref x1, .null] [] h := by
  intro x0 x1 h hf
  unfold m_X0_seatAs at hf
  refine bb_iconst (v := 0) dX0_seatAs_0 (by decide) ?_
  refine bb_istore_n (L' := [.ref x0, .ref x1, .int 0]) dX0_seatAs_1 (by decide) rfl rfl ?_
  refine bb_fewer (L' := [.ref x0, .ref x1, .int 0]) (And.intro rfl (And.intro rfl (And.intro rfl trivial))) ?_
  exact j_X0_seatAs_2 _ _ _ _ _ hf
theorem ok_X0_seatAs {x0 : Nat} {x1 : Nat} {h : bb_H} {r : bb_H} (hf : m_X0_seatAs x0 x1 h = some r) : bb_Ok yX0_seatAs cX0_seatAs 3 none rm_X0_seatAs [.ref x0, .ref x1] h (none, r) :=
  bb_ok (L := [.ref x0, .ref x1, .null]) (by decide) (Nat.le_of_ble_eq_true rfl) rfl (bb_fewer (L' := [.ref x0, .ref x1, .null]) (And.intro rfl (And.intro rfl trivial)) (j_X0_seatAs_0 _ _ _ hf))
abbrev rm_X7_within : Room := { frames := 0, cells := 0, slots := 0, locals := 0 }
set_option maxRecDepth 100000 in
set_option maxHeartbeats 4000000 in
theorem j_X7_within_15 {r : Int32 × bb_H} : ∀ (z0 : Int32) (h : bb_H), m_X7_within_15 z0 h = some r → bb_J RX7 cX7_within 3 (some .boolean) rm_X7_within (some (.int r.1), r.2) 15 [.null, .null, .null] [.int z0] h := by
  intro z0 h hf
  unfold m_X7_within_15 at hf
  obtain ⟨hn, rfl⟩ := bb_rz_spec hf
  exact bb_zret rfl hn rfl dX7_within_15
set_option maxRecDepth 100000 in
set_option maxHeartbeats 4000000 in
theorem j_X7_within_14 {r : Int32 × bb_H} : ∀ (h : bb_H), m_X7_within_14 h = some r → bb_J RX7 cX7_within 3 (some .boolean) rm_X7_within (some (.int r.1), r.2) 14 [.null, .null, .null] [] h := by
  intro h hf
  unfold m_X7_within_14 at hf
  refine bb_iconst (v := 0) dX7_within_14 (by decide) ?_
  refine bb_fewer (L' := [.null, .null, .null]) trivial ?_
  exact j_X7_within_15 _ _ hf
set_option maxRecDepth 100000 in
set_option maxHeartbeats 4000000 in
theorem j_X7_within_0 {r : Int32 × bb_H} : ∀ (x0 : Int32) (x1 : Int32) (x2 : Int32) (h : bb_H), m_X7_within x0 x1 x2 h = some r → bb_J RX7 cX7_within 3 (some .boolean) rm_X7_within (some (.int r.1), r.2) 0 [.int x0, .int x1, .int x2] [] h := by
  intro x0 x1 x2 h hf
  unfold m_X7_within at hf
  refine bb_iload_n dX7_within_0 rfl ?_
  refine bb_iload_n dX7_within_1 rfl ?_
  refine bb_icmp_lt (tgt := 14) dX7_within_2 (by decide) (fun c2 => ?_) (fun c2 => ?_)
  · rw [if_pos c2] at hf
    refine bb_fewer (L' := [.null, .null, .null]) trivial ?_
    exact j_X7_within_14 _ hf
  rw [if_neg c2] at hf
  refine bb_iload_n dX7_within_5 rfl ?_
  refine bb_iload_n dX7_within_6 rfl ?_
  refine bb_icmp_gt (tgt := 14) dX7_within_7 (by decide) (fun c7 => ?_) (fun c7 => ?_)
  · rw [if_pos c7] at hf
    refine bb_fewer (L' := [.null, .null, .null]) trivial ?_
    exact j_X7_within_14 _ hf
  rw [if_neg c7] at hf
  refine bb_iconst (v := 1) dX7_within_10 (by decide) ?_
  refine bb_goto (tgt := 15) dX7_within_11 (by decide) ?_
  refine bb_fewer (L' := [.null, .null, .null]) trivial ?_
  exact j_X7_within_15 _ _ hf
theorem ok_X7_within {x0 : Int32} {x1 : Int32} {x2 : Int32} {h : bb_H} {r : Int32 × bb_H} (hf : m_X7_within x0 x1 x2 h = some r) : bb_Ok yX7_within cX7_within 3 (some .boolean) rm_X7_within [.int x0, .int x1, .int x2] h (some (.int r.1), r.2) :=
  bb_ok (L := [.int x0, .int x1, .int x2]) (by decide) (Nat.le_of_ble_eq_true rfl) rfl (bb_fewer (L' := [.int x0, .int x1, .int x2]) (And.intro rfl (And.intro rfl (And.intro rfl trivial))) (j_X7_within_0 _ _ _ _ hf))
abbrev rm_X0_whoIsOn : Room := { frames := 1, cells := 0, slots := 0, locals := 22 }
set_option maxRecDepth 100000 in
set_option maxHeartbeats 4000000 in
theorem j_X0_whoIsOn_25 {r : Int32 × bb_H} : ∀ (z0 : Int32) (h : bb_H), m_X0_whoIsOn_25 z0 h = some r → bb_J RX0 cX0_whoIsOn 2 (some .int) rm_X0_whoIsOn (some (.int r.1), r.2) 25 [.null, .null] [.int z0] h := by
  intro z0 h hf
  unfold m_X0_whoIsOn_25 at hf
  obtain rfl := Option.some.inj hf
  exact bb_iret rfl rfl dX0_whoIsOn_25
set_option maxRecDepth 100000 in
set_option maxHeartbeats 4000000 in
theorem j_X0_whoIsOn_0 {r : Int32 × bb_H} : ∀ (x0 : Nat) (x1 : Int32) (h : bb_H), m_X0_whoIsOn x0 x1 h = some r → bb_J RX0 cX0_whoIsOn 2 (some .int) rm_X0_whoIsOn (some (.int r.1), r.2) 0 [.ref x0, .int x1] [] h := by
  intro x0 x1 h hf
  unfold m_X0_whoIsOn at hf
  refine bb_iload_n dX0_whoIsOn_0 rfl ?_
  refine bb_iconst (v := 0) dX0_whoIsOn_1 (by decide) ?_
  refine bb_aload_n dX0_whoIsOn_2 rfl ?_
  obtain ⟨t3, h3, hf⟩ := bb_bind hf
  refine bb_getI fl_X0_18 dX0_whoIsOn_3 h3 ?_
  refine bb_iconst (v := 1) dX0_whoIsOn_6 (by decide) ?_
  refine bb_isub dX0_whoIsOn_7 ?_
  obtain ⟨r8, h8, hf⟩ := bb_bind hf
  refine bb_invN (as := [.int x1, .int 0, .int (t3 - 1)]) in_X0_32 (by unfold bb_rr; decide) dX0_whoIsOn_8 rfl rfl (Nat.le_of_ble_eq_true rfl) (ok_X7_within h8) ?_
  refine bb_if_eq (tgt := 23) dX0_whoIsOn_11 (by decide) (fun c11 => ?_) (fun c11 => ?_)
  · rw [if_pos c11] at hf
    refine bb_bipush (v := (-4)) dX0_whoIsOn_23 (by decide) ?_
    refine bb_fewer (L' := [.null, .null]) trivial ?_
    exact j_X0_whoIsOn_25 _ _ hf
  rw [if_neg c11] at hf
  refine bb_aload_n dX0_whoIsOn_14 rfl ?_
  obtain ⟨t15, h15, hf⟩ := bb_bind hf
  refine bb_getR fl_X0_15 dX0_whoIsOn_15 h15 ?_
  refine bb_iload_n dX0_whoIsOn_18 rfl ?_
  obtain ⟨t19, h19, hf⟩ := bb_bind hf
  refine bb_iaload dX0_whoIsOn_19 h19 ?_
  refine bb_goto (tgt := 25) dX0_whoIsOn_20 (by decide) ?_
  refine bb_fewer (L' := [.null, .null]) trivial ?_
  exact j_X0_whoIsOn_25 _ _ hf
theorem ok_X0_whoIsOn {x0 : Nat} {x1 : Int32} {h : bb_H} {r : Int32 × bb_H} (hf : m_X0_whoIsOn x0 x1 h = some r) : bb_Ok yX0_whoIsOn cX0_whoIsOn 2 (some .int) rm_X0_whoIsOn [.ref x0, .int x1] h (some (.int r.1), r.2) :=
  bb_ok (L := [.ref x0, .int x1]) (by decide) (Nat.le_of_ble_eq_true rfl) rfl (bb_fewer (L' := [.ref x0, .int x1]) (And.intro rfl (And.intro rfl trivial)) (j_X0_whoIsOn_0 _ _ _ hf))
abbrev rm_X0_seatOf : Room := { frames := 0, cells := 0, slots := 0, locals := 0 }
set_option maxRecDepth 100000 in
set_option maxHeartbeats 4000000 in
theorem j_X0_seatOf_2 {r : Int32 × bb_H} : ∀ (n : Nat) (x0 : Nat) (x1 : Int32) (x2 : Int32) (h : bb_H), m_X0_seatOf_2 n x0 x1 x2 h = some r → bb_J RX0 cX0_seatOf 3 (some .int) rm_X0_seatOf (some (.int r.1), r.2) 2 [.ref x0, .int x1, .int x2] [] h := by
  intro n
  induction n with
  | zero =>
    intro x0 x1 x2 h hf
    exact absurd hf (fun z => by cases z)
  | succ n ih =>
    intro x0 x1 x2 h hf
    unfold m_X0_seatOf_2 at hf
    refine bb_iload_n dX0_seatOf_2 rfl ?_
    refine bb_aload_n dX0_seatOf_3 rfl ?_
    obtain ⟨t4, h4, hf⟩ := bb_bind hf
    refine bb_getI fl_X0_18 dX0_seatOf_4 h4 ?_
    refine bb_icmp_ge (tgt := 28) dX0_seatOf_7 (by decide) (fun c7 => ?_) (fun c7 => ?_)
    · rw [if_pos c7] at hf
      refine bb_bipush (v := (-4)) dX0_seatOf_28 (by decide) ?_
      obtain rfl := Option.some.inj hf
      exact bb_iret rfl rfl dX0_seatOf_30
    rw [if_neg c7] at hf
    refine bb_aload_n dX0_seatOf_10 rfl ?_
    obtain ⟨t11, h11, hf⟩ := bb_bind hf
    refine bb_getR fl_X0_15 dX0_seatOf_11 h11 ?_
    refine bb_iload_n dX0_seatOf_14 rfl ?_
    obtain ⟨t15, h15, hf⟩ := bb_bind hf
    refine bb_iaload dX0_seatOf_15 h15 ?_
    refine bb_iload_n dX0_seatOf_16 rfl ?_
    refine bb_icmp_ne (tgt := 22) dX0_seatOf_17 (by decide) (fun c17 => ?_) (fun c17 => ?_)
    · rw [if_neg c17] at hf
      refine bb_iinc (v := x2 + 1) (L' := [.ref x0, .int x1, .int (x2 + 1)]) dX0_seatOf_22 rfl rfl (by decide) rfl rfl ?_
      refine bb_goto (tgt := 2) dX0_seatOf_25 (by decide) ?_
      refine bb_fewer (L' := [.ref x0, .int x1, .int (x2 + 1)]) (And.intro rfl (And.intro rfl (And.intro rfl trivial))) ?_
      exact ih _ _ _ _ hf
    rw [if_pos c17] at hf
    refine bb_iload_n dX0_seatOf_20 rfl ?_
    obtain rfl := Option.some.inj hf
    exact bb_iret rfl rfl dX0_seatOf_21
set_option maxRecDepth 100000 in
set_option maxHeartbeats 4000000 in
theorem j_X0_seatOf_0 {r : Int32 × bb_H} : ∀ (x0 : Nat) (x1 : Int32) (h : bb_H), m_X0_seatOf x0 x1 h = some r → bb_J RX0 cX0_seatOf 3 (some .int) rm_X0_seatOf (some (.int r.1), r.2) 0 [.ref x0, .int x1, .null] [] h := by
  intro x0 x1 h hf
  unfold m_X0_seatOf at hf
  refine bb_iconst (v := 0) dX0_seatOf_0 (by decide) ?_
  refine bb_istore_n (L' := [.ref x0, .int x1, .int 0]) dX0_seatOf_1 (by decide) rfl rfl ?_
  refine bb_fewer (L' := [.ref x0, .int x1, .int 0]) (And.intro rfl (And.intro rfl (And.intro rfl trivial))) ?_
  exact j_X0_seatOf_2 _ _ _ _ _ hf
theorem ok_X0_seatOf {x0 : Nat} {x1 : Int32} {h : bb_H} {r : Int32 × bb_H} (hf : m_X0_seatOf x0 x1 h = some r) : bb_Ok yX0_seatOf cX0_seatOf 3 (some .int) rm_X0_seatOf [.ref x0, .int x1] h (some (.int r.1), r.2) :=
  bb_ok (L := [.ref x0, .int x1, .null]) (by decide) (Nat.le_of_ble_eq_true rfl) rfl (bb_fewer (L' := [.ref x0, .int x1, .null]) (And.intro rfl (And.intro rfl trivial)) (j_X0_seatOf_0 _ _ _ hf))
abbrev rm_X0_whoSits : Room := { frames := 0, cells := 0, slots := 0, locals := 0 }
set_option maxRecDepth 100000 in
set_option maxHeartbeats 4000000 in
theorem j_X0_whoSits_4 {r : Int32 × bb_H} : ∀ (n : Nat) (x0 : Nat) (x1 : Int32) (x2 : Int32) (h : bb_H), m_X0_whoSits_4 n x0 x1 x2 h = some r → bb_J RX0 cX0_whoSits 3 (some .int) rm_X0_whoSits (some (.int r.1), r.2) 4 [.ref x0, .int x1, .int x2] [] h := by
  intro n
  induction n with
  | zero =>
    intro x0 x1 x2 h hf
    exact absurd hf (fun z => by cases z)
  | succ n ih =>
    intro x0 x1 x2 h hf
    unfold m_X0_whoSits_4 at hf
    refine bb_iload_n dX0_whoSits_4 rfl ?_
    refine bb_aload_n dX0_whoSits_5 rfl ?_
    obtain ⟨t6, h6, hf⟩ := bb_bind hf
    refine bb_getI fl_X0_18 dX0_whoSits_6 h6 ?_
    refine bb_icmp_ge (tgt := 29) dX0_whoSits_9 (by decide) (fun c9 => ?_) (fun c9 => ?_)
    · rw [if_pos c9] at hf
      refine bb_iload_n dX0_whoSits_29 rfl ?_
      obtain rfl := Option.some.inj hf
      exact bb_iret rfl rfl dX0_whoSits_30
    rw [if_neg c9] at hf
    refine bb_iload_n dX0_whoSits_12 rfl ?_
    refine bb_iconst (v := 1) dX0_whoSits_13 (by decide) ?_
    refine bb_aload_n dX0_whoSits_14 rfl ?_
    obtain ⟨t15, h15, hf⟩ := bb_bind hf
    refine bb_getR fl_X0_15 dX0_whoSits_15 h15 ?_
    refine bb_iload_n dX0_whoSits_18 rfl ?_
    obtain ⟨t19, h19, hf⟩ := bb_bind hf
    refine bb_iaload dX0_whoSits_19 h19 ?_
    refine bb_ishl dX0_whoSits_20 ?_
    refine bb_ior dX0_whoSits_21 ?_
    refine bb_istore_n (L' := [.ref x0, .int (x1 ||| (1 <<< (t19 &&& 31))), .int x2]) dX0_whoSits_22 (by decide) rfl rfl ?_
    refine bb_iinc (v := x2 + 1) (L' := [.ref x0, .int (x1 ||| (1 <<< (t19 &&& 31))), .int (x2 + 1)]) dX0_whoSits_23 rfl rfl (by decide) rfl rfl ?_
    refine bb_goto (tgt := 4) dX0_whoSits_26 (by decide) ?_
    refine bb_fewer (L' := [.ref x0, .int (x1 ||| (1 <<< (t19 &&& 31))), .int (x2 + 1)]) (And.intro rfl (And.intro rfl (And.intro rfl trivial))) ?_
    exact ih _ _ _ _ hf
set_option maxRecDepth 100000 in
set_option maxHeartbeats 4000000 in
theorem j_X0_whoSits_0 {r : Int32 × bb_H} : ∀ (x0 : Nat) (h : bb_H), m_X0_whoSits x0 h = some r → bb_J RX0 cX0_whoSits 3 (some .int) rm_X0_whoSits (some (.int r.1), r.2) 0 [.ref x0, .null, .null] [] h := by
  intro x0 h hf
  unfold m_X0_whoSits at hf
  refine bb_iconst (v := 0) dX0_whoSits_0 (by decide) ?_
  refine bb_istore_n (L' := [.ref x0, .int 0, .null]) dX0_whoSits_1 (by decide) rfl rfl ?_
  refine bb_iconst (v := 0) dX0_whoSits_2 (by decide) ?_
  refine bb_istore_n (L' := [.ref x0, .int 0, .int 0]) dX0_whoSits_3 (by decide) rfl rfl ?_
  refine bb_fewer (L' := [.ref x0, .int 0, .int 0]) (And.intro rfl (And.intro rfl (And.intro rfl trivial))) ?_
  exact j_X0_whoSits_4 _ _ _ _ _ hf
theorem ok_X0_whoSits {x0 : Nat} {h : bb_H} {r : Int32 × bb_H} (hf : m_X0_whoSits x0 h = some r) : bb_Ok yX0_whoSits cX0_whoSits 3 (some .int) rm_X0_whoSits [.ref x0] h (some (.int r.1), r.2) :=
  bb_ok (L := [.ref x0, .null, .null]) (by decide) (Nat.le_of_ble_eq_true rfl) rfl (bb_fewer (L' := [.ref x0, .null, .null]) (And.intro rfl trivial) (j_X0_whoSits_0 _ _ hf))
abbrev rm_X0_setOn : Room := { frames := 1, cells := 0, slots := 0, locals := 22 }
set_option maxRecDepth 100000 in
set_option maxHeartbeats 4000000 in
theorem j_X0_setOn_26 {r : Int32 × bb_H} : ∀ (z0 : Int32) (h : bb_H), m_X0_setOn_26 z0 h = some r → bb_J RX0 cX0_setOn 2 (some .int) rm_X0_setOn (some (.int r.1), r.2) 26 [.null, .null] [.int z0] h := by
  intro z0 h hf
  unfold m_X0_setOn_26 at hf
  obtain rfl := Option.some.inj hf
  exact bb_iret rfl rfl dX0_setOn_26
set_option maxRecDepth 100000 in
set_option maxHeartbeats 4000000 in
theorem j_X0_setOn_0 {r : Int32 × bb_H} : ∀ (x0 : Nat) (x1 : Int32) (h : bb_H), m_X0_setOn x0 x1 h = some r → bb_J RX0 cX0_setOn 2 (some .int) rm_X0_setOn (some (.int r.1), r.2) 0 [.ref x0, .int x1] [] h := by
  intro x0 x1 h hf
  unfold m_X0_setOn at hf
  refine bb_iload_n dX0_setOn_0 rfl ?_
  refine bb_iconst (v := 0) dX0_setOn_1 (by decide) ?_
  refine bb_aload_n dX0_setOn_2 rfl ?_
  obtain ⟨t3, h3, hf⟩ := bb_bind hf
  refine bb_getI fl_X0_18 dX0_setOn_3 h3 ?_
  refine bb_iconst (v := 1) dX0_setOn_6 (by decide) ?_
  refine bb_isub dX0_setOn_7 ?_
  obtain ⟨r8, h8, hf⟩ := bb_bind hf
  refine bb_invN (as := [.int x1, .int 0, .int (t3 - 1)]) in_X0_32 (by unfold bb_rr; decide) dX0_setOn_8 rfl rfl (Nat.le_of_ble_eq_true rfl) (ok_X7_within h8) ?_
  refine bb_if_eq (tgt := 25) dX0_setOn_11 (by decide) (fun c11 => ?_) (fun c11 => ?_)
  · rw [if_pos c11] at hf
    refine bb_iconst (v := 0) dX0_setOn_25 (by decide) ?_
    refine bb_fewer (L' := [.null, .null]) trivial ?_
    exact j_X0_setOn_26 _ _ hf
  rw [if_neg c11] at hf
  refine bb_iconst (v := 1) dX0_setOn_14 (by decide) ?_
  refine bb_aload_n dX0_setOn_15 rfl ?_
  obtain ⟨t16, h16, hf⟩ := bb_bind hf
  refine bb_getR fl_X0_15 dX0_setOn_16 h16 ?_
  refine bb_iload_n dX0_setOn_19 rfl ?_
  obtain ⟨t20, h20, hf⟩ := bb_bind hf
  refine bb_iaload dX0_setOn_20 h20 ?_
  refine bb_ishl dX0_setOn_21 ?_
  refine bb_goto (tgt := 26) dX0_setOn_22 (by decide) ?_
  refine bb_fewer (L' := [.null, .null]) trivial ?_
  exact j_X0_setOn_26 _ _ hf
theorem ok_X0_setOn {x0 : Nat} {x1 : Int32} {h : bb_H} {r : Int32 × bb_H} (hf : m_X0_setOn x0 x1 h = some r) : bb_Ok yX0_setOn cX0_setOn 2 (some .int) rm_X0_setOn [.ref x0, .int x1] h (some (.int r.1), r.2) :=
  bb_ok (L := [.ref x0, .int x1]) (by decide) (Nat.le_of_ble_eq_true rfl) rfl (bb_fewer (L' := [.ref x0, .int x1]) (And.intro rfl (And.intro rfl trivial)) (j_X0_setOn_0 _ _ _ hf))
abbrev rm_X0_whoSitsBy : Room := { frames := 2, cells := 0, slots := 0, locals := 43 }
set_option maxRecDepth 100000 in
set_option maxHeartbeats 4000000 in
theorem j_X0_whoSitsBy_0 {r : Int32 × bb_H} : ∀ (x0 : Nat) (x1 : Int32) (h : bb_H), m_X0_whoSitsBy x0 x1 h = some r → bb_J RX0 cX0_whoSitsBy 3 (some .int) rm_X0_whoSitsBy (some (.int r.1), r.2) 0 [.ref x0, .int x1, .null] [] h := by
  intro x0 x1 h hf
  unfold m_X0_whoSitsBy at hf
  refine bb_aload_n dX0_whoSitsBy_0 rfl ?_
  refine bb_iload_n dX0_whoSitsBy_1 rfl ?_
  obtain ⟨r2, h2, hf⟩ := bb_bind hf
  obtain ⟨⟨v2, b2⟩, h2⟩ := bb_rcv_spec h2
  refine bb_invV (ci := 0) (as := [.int x1]) iv_X0_36 (by unfold bb_rr; decide) rfl dX0_whoSitsBy_2 rfl rfl b2 (Nat.le_of_ble_eq_true rfl) (ok_X0_seatOf h2) ?_
  refine bb_istore_n (L' := [.ref x0, .int x1, .int r2.1]) dX0_whoSitsBy_5 (by decide) rfl rfl ?_
  refine bb_iload_n dX0_whoSitsBy_6 rfl ?_
  refine bb_bipush (v := (-4)) dX0_whoSitsBy_7 (by decide) ?_
  refine bb_icmp_ne (tgt := 14) dX0_whoSitsBy_9 (by decide) (fun c9 => ?_) (fun c9 => ?_)
  · rw [if_neg c9] at hf
    refine bb_aload_n dX0_whoSitsBy_14 rfl ?_
    refine bb_iload_n dX0_whoSitsBy_15 rfl ?_
    refine bb_iconst (v := 1) dX0_whoSitsBy_16 (by decide) ?_
    refine bb_isub dX0_whoSitsBy_17 ?_
    obtain ⟨r18, h18, hf⟩ := bb_bind hf
    obtain ⟨⟨v18, b18⟩, h18⟩ := bb_rcv_spec h18
    refine bb_invV (ci := 0) (as := [.int (r2.1 - 1)]) iv_X0_40 (by unfold bb_rr; decide) rfl dX0_whoSitsBy_18 rfl rfl b18 (Nat.le_of_ble_eq_true rfl) (ok_X0_setOn h18) ?_
    refine bb_aload_n dX0_whoSitsBy_21 rfl ?_
    refine bb_iload_n dX0_whoSitsBy_22 rfl ?_
    refine bb_iconst (v := 1) dX0_whoSitsBy_23 (by decide) ?_
    refine bb_iadd dX0_whoSitsBy_24 ?_
    obtain ⟨r25, h25, hf⟩ := bb_bind hf
    obtain ⟨⟨v25, b25⟩, h25⟩ := bb_rcv_spec h25
    refine bb_invV (ci := 0) (as := [.int (r2.1 + 1)]) iv_X0_40 (by unfold bb_rr; decide) rfl dX0_whoSitsBy_25 rfl rfl b25 (Nat.le_of_ble_eq_true rfl) (ok_X0_setOn h25) ?_
    refine bb_ior dX0_whoSitsBy_28 ?_
    obtain rfl := Option.some.inj hf
    exact bb_iret rfl rfl dX0_whoSitsBy_29
  rw [if_pos c9] at hf
  refine bb_iconst (v := 0) dX0_whoSitsBy_12 (by decide) ?_
  obtain rfl := Option.some.inj hf
  exact bb_iret rfl rfl dX0_whoSitsBy_13
theorem ok_X0_whoSitsBy {x0 : Nat} {x1 : Int32} {h : bb_H} {r : Int32 × bb_H} (hf : m_X0_whoSitsBy x0 x1 h = some r) : bb_Ok yX0_whoSitsBy cX0_whoSitsBy 3 (some .int) rm_X0_whoSitsBy [.ref x0, .int x1] h (some (.int r.1), r.2) :=
  bb_ok (L := [.ref x0, .int x1, .null]) (by decide) (Nat.le_of_ble_eq_true rfl) rfl (bb_fewer (L' := [.ref x0, .int x1, .null]) (And.intro rfl (And.intro rfl trivial)) (j_X0_whoSitsBy_0 _ _ _ hf))
abbrev rm_X0_lifeOfAll : Room := { frames := 0, cells := 0, slots := 0, locals := 0 }
set_option maxRecDepth 100000 in
set_option maxHeartbeats 4000000 in
theorem j_X0_lifeOfAll_4 {r : Int32 × bb_H} : ∀ (n : Nat) (x0 : Nat) (x1 : Int32) (x2 : Int32) (h : bb_H), m_X0_lifeOfAll_4 n x0 x1 x2 h = some r → bb_J RX0 cX0_lifeOfAll 3 (some .int) rm_X0_lifeOfAll (some (.int r.1), r.2) 4 [.ref x0, .int x1, .int x2] [] h := by
  intro n
  induction n with
  | zero =>
    intro x0 x1 x2 h hf
    exact absurd hf (fun z => by cases z)
  | succ n ih =>
    intro x0 x1 x2 h hf
    unfold m_X0_lifeOfAll_4 at hf
    refine bb_iload_n dX0_lifeOfAll_4 rfl ?_
    refine bb_aload_n dX0_lifeOfAll_5 rfl ?_
    obtain ⟨t6, h6, hf⟩ := bb_bind hf
    refine bb_getI fl_X0_18 dX0_lifeOfAll_6 h6 ?_
    refine bb_icmp_ge (tgt := 32) dX0_lifeOfAll_9 (by decide) (fun c9 => ?_) (fun c9 => ?_)
    · rw [if_pos c9] at hf
      refine bb_iload_n dX0_lifeOfAll_32 rfl ?_
      obtain rfl := Option.some.inj hf
      exact bb_iret rfl rfl dX0_lifeOfAll_33
    rw [if_neg c9] at hf
    refine bb_iload_n dX0_lifeOfAll_12 rfl ?_
    refine bb_aload_n dX0_lifeOfAll_13 rfl ?_
    obtain ⟨t14, h14, hf⟩ := bb_bind hf
    refine bb_getR fl_X0_9 dX0_lifeOfAll_14 h14 ?_
    refine bb_aload_n dX0_lifeOfAll_17 rfl ?_
    obtain ⟨t18, h18, hf⟩ := bb_bind hf
    refine bb_getR fl_X0_15 dX0_lifeOfAll_18 h18 ?_
    refine bb_iload_n dX0_lifeOfAll_21 rfl ?_
    obtain ⟨t22, h22, hf⟩ := bb_bind hf
    refine bb_iaload dX0_lifeOfAll_22 h22 ?_
    obtain ⟨t23, h23, hf⟩ := bb_bind hf
    refine bb_iaload dX0_lifeOfAll_23 h23 ?_
    refine bb_iadd dX0_lifeOfAll_24 ?_
    refine bb_istore_n (L' := [.ref x0, .int (x1 + t23), .int x2]) dX0_lifeOfAll_25 (by decide) rfl rfl ?_
    refine bb_iinc (v := x2 + 1) (L' := [.ref x0, .int (x1 + t23), .int (x2 + 1)]) dX0_lifeOfAll_26 rfl rfl (by decide) rfl rfl ?_
    refine bb_goto (tgt := 4) dX0_lifeOfAll_29 (by decide) ?_
    refine bb_fewer (L' := [.ref x0, .int (x1 + t23), .int (x2 + 1)]) (And.intro rfl (And.intro rfl (And.intro rfl trivial))) ?_
    exact ih _ _ _ _ hf
set_option maxRecDepth 100000 in
set_option maxHeartbeats 4000000 in
theorem j_X0_lifeOfAll_0 {r : Int32 × bb_H} : ∀ (x0 : Nat) (h : bb_H), m_X0_lifeOfAll x0 h = some r → bb_J RX0 cX0_lifeOfAll 3 (some .int) rm_X0_lifeOfAll (some (.int r.1), r.2) 0 [.ref x0, .null, .null] [] h := by
  intro x0 h hf
  unfold m_X0_lifeOfAll at hf
  refine bb_iconst (v := 0) dX0_lifeOfAll_0 (by decide) ?_
  refine bb_istore_n (L' := [.ref x0, .int 0, .null]) dX0_lifeOfAll_1 (by decide) rfl rfl ?_
  refine bb_iconst (v := 0) dX0_lifeOfAll_2 (by decide) ?_
  refine bb_istore_n (L' := [.ref x0, .int 0, .int 0]) dX0_lifeOfAll_3 (by decide) rfl rfl ?_
  refine bb_fewer (L' := [.ref x0, .int 0, .int 0]) (And.intro rfl (And.intro rfl (And.intro rfl trivial))) ?_
  exact j_X0_lifeOfAll_4 _ _ _ _ _ hf
theorem ok_X0_lifeOfAll {x0 : Nat} {h : bb_H} {r : Int32 × bb_H} (hf : m_X0_lifeOfAll x0 h = some r) : bb_Ok yX0_lifeOfAll cX0_lifeOfAll 3 (some .int) rm_X0_lifeOfAll [.ref x0] h (some (.int r.1), r.2) :=
  bb_ok (L := [.ref x0, .null, .null]) (by decide) (Nat.le_of_ble_eq_true rfl) rfl (bb_fewer (L' := [.ref x0, .null, .null]) (And.intro rfl trivial) (j_X0_lifeOfAll_0 _ _ hf))
abbrev rm_X3_lossOfHale : Room := { frames := 0, cells := 0, slots := 0, locals := 0 }
set_option maxRecDepth 100000 in
set_option maxHeartbeats 4000000 in
theorem j_X3_lossOfHale_11 {r : Int32 × bb_H} : ∀ (z0 : Int32) (h : bb_H), m_X3_lossOfHale_11 z0 h = some r → bb_J RX3 cX3_lossOfHale 2 (some .int) rm_X3_lossOfHale (some (.int r.1), r.2) 11 [.null, .null] [.int z0] h := by
  intro z0 h hf
  unfold m_X3_lossOfHale_11 at hf
  obtain rfl := Option.some.inj hf
  exact bb_iret rfl rfl dX3_lossOfHale_11
set_option maxRecDepth 100000 in
set_option maxHeartbeats 4000000 in
theorem j_X3_lossOfHale_0 {r : Int32 × bb_H} : ∀ (x1 : Int32) (h : bb_H), m_X3_lossOfHale_0 x1 h = some r → bb_J RX3 cX3_lossOfHale 2 (some .int) rm_X3_lossOfHale (some (.int r.1), r.2) 0 [.null, .int x1] [] h := by
  intro x1 h hf
  unfold m_X3_lossOfHale_0 at hf
  refine bb_iload_n dX3_lossOfHale_0 rfl ?_
  refine bb_iconst (v := 2) dX3_lossOfHale_1 (by decide) ?_
  refine bb_irem dX3_lossOfHale_2 (by decide) ?_
  refine bb_if_ne (tgt := 10) dX3_lossOfHale_3 (by decide) (fun c3 => ?_) (fun c3 => ?_)
  · rw [if_neg c3] at hf
    refine bb_iconst (v := 0) dX3_lossOfHale_10 (by decide) ?_
    refine bb_fewer (L' := [.null, .null]) trivial ?_
    exact j_X3_lossOfHale_11 _ _ hf
  rw [if_pos c3] at hf
  refine bb_iconst (v := 2) dX3_lossOfHale_6 (by decide) ?_
  refine bb_goto (tgt := 11) dX3_lossOfHale_7 (by decide) ?_
  refine bb_fewer (L' := [.null, .null]) trivial ?_
  exact j_X3_lossOfHale_11 _ _ hf
theorem ok_X3_lossOfHale {x0 : Nat} {x1 : Int32} {h : bb_H} {r : Int32 × bb_H} (hf : m_X3_lossOfHale x0 x1 h = some r) : bb_Ok yX3_lossOfHale cX3_lossOfHale 2 (some .int) rm_X3_lossOfHale [.ref x0, .int x1] h (some (.int r.1), r.2) :=
  bb_ok (L := [.ref x0, .int x1]) (by decide) (Nat.le_of_ble_eq_true rfl) rfl (bb_fewer (L' := [.null, .int x1]) (And.intro rfl trivial) (j_X3_lossOfHale_0 _ _ hf))
abbrev rm_J6_bitCount_0f7a4 : Room := { frames := 0, cells := 0, slots := 0, locals := 0 }
set_option maxRecDepth 100000 in
set_option maxHeartbeats 4000000 in
theorem j_J6_bitCount_0f7a4_0 {r : Int32 × bb_H} : ∀ (x0 : Int32) (h : bb_H), m_J6_bitCount_0f7a4 x0 h = some r → bb_J RJ6 cJ6_bitCount_0f7a4 1 (some .int) rm_J6_bitCount_0f7a4 (some (.int r.1), r.2) 0 [.int x0] [] h := by
  intro x0 h hf
  unfold m_J6_bitCount_0f7a4 at hf
  refine bb_iload_n dJ6_bitCount_0f7a4_0 rfl ?_
  refine bb_iload_n dJ6_bitCount_0f7a4_1 rfl ?_
  refine bb_iconst (v := 1) dJ6_bitCount_0f7a4_2 (by decide) ?_
  refine bb_iushr dJ6_bitCount_0f7a4_3 ?_
  refine bb_ldcw (v := 1431655765) co_J6_265 dJ6_bitCount_0f7a4_4 ?_
  refine bb_iand dJ6_bitCount_0f7a4_7 ?_
  refine bb_isub dJ6_bitCount_0f7a4_8 ?_
  refine bb_istore_n (L' := [.int (x0 - (((x0.toUInt32 >>> ((1 : Int32).toUInt32 &&& Int32.toUInt32 31)).toInt32) &&& 1431655765))]) dJ6_bitCount_0f7a4_9 (by decide) rfl rfl ?_
  refine bb_iload_n dJ6_bitCount_0f7a4_10 rfl ?_
  refine bb_ldcw (v := 858993459) co_J6_266 dJ6_bitCount_0f7a4_11 ?_
  refine bb_iand dJ6_bitCount_0f7a4_14 ?_
  refine bb_iload_n dJ6_bitCount_0f7a4_15 rfl ?_
  refine bb_iconst (v := 2) dJ6_bitCount_0f7a4_16 (by decide) ?_
  refine bb_iushr dJ6_bitCount_0f7a4_17 ?_
  refine bb_ldcw (v := 858993459) co_J6_266 dJ6_bitCount_0f7a4_18 ?_
  refine bb_iand dJ6_bitCount_0f7a4_21 ?_
  refine bb_iadd dJ6_bitCount_0f7a4_22 ?_
  obtain ⟨y23, hy23, hf⟩ := bb_bind hf
  have hy23 := Option.some.inj hy23
  rw [hy23]
  refine bb_istore_n (L' := [.int y23]) dJ6_bitCount_0f7a4_23 (by decide) rfl rfl ?_
  refine bb_iload_n dJ6_bitCount_0f7a4_24 rfl ?_
  refine bb_iload_n dJ6_bitCount_0f7a4_25 rfl ?_
  refine bb_iconst (v := 4) dJ6_bitCount_0f7a4_26 (by decide) ?_
  refine bb_iushr dJ6_bitCount_0f7a4_27 ?_
  refine bb_iadd dJ6_bitCount_0f7a4_28 ?_
  refine bb_ldcw (v := 252645135) co_J6_267 dJ6_bitCount_0f7a4_29 ?_
  refine bb_iand dJ6_bitCount_0f7a4_32 ?_
  refine bb_istore_n (L' := [.int ((y23 + ((y23.toUInt32 >>> ((4 : Int32).toUInt32 &&& Int32.toUInt32 31)).toInt32)) &&& 252645135)]) dJ6_bitCount_0f7a4_33 (by decide) rfl rfl ?_
  refine bb_iload_n dJ6_bitCount_0f7a4_34 rfl ?_
  refine bb_iload_n dJ6_bitCount_0f7a4_35 rfl ?_
  refine bb_bipush (v := 8) dJ6_bitCount_0f7a4_36 (by decide) ?_
  refine bb_iushr dJ6_bitCount_0f7a4_38 ?_
  refine bb_iadd dJ6_bitCount_0f7a4_39 ?_
  obtain ⟨y40, hy40, hf⟩ := bb_bind hf
  have hy40 := Option.some.inj hy40
  rw [hy40]
  refine bb_istore_n (L' := [.int y40]) dJ6_bitCount_0f7a4_40 (by decide) rfl rfl ?_
  refine bb_iload_n dJ6_bitCount_0f7a4_41 rfl ?_
  refine bb_iload_n dJ6_bitCount_0f7a4_42 rfl ?_
  refine bb_bipush (v := 16) dJ6_bitCount_0f7a4_43 (by decide) ?_
  refine bb_iushr dJ6_bitCount_0f7a4_45 ?_
  refine bb_iadd dJ6_bitCount_0f7a4_46 ?_
  refine bb_istore_n (L' := [.int (y40 + ((y40.toUInt32 >>> ((16 : Int32).toUInt32 &&& Int32.toUInt32 31)).toInt32))]) dJ6_bitCount_0f7a4_47 (by decide) rfl rfl ?_
  refine bb_iload_n dJ6_bitCount_0f7a4_48 rfl ?_
  refine bb_bipush (v := 63) dJ6_bitCount_0f7a4_49 (by decide) ?_
  refine bb_iand dJ6_bitCount_0f7a4_51 ?_
  obtain rfl := Option.some.inj hf
  exact bb_iret rfl rfl dJ6_bitCount_0f7a4_52
theorem ok_J6_bitCount_0f7a4 {x0 : Int32} {h : bb_H} {r : Int32 × bb_H} (hf : m_J6_bitCount_0f7a4 x0 h = some r) : bb_Ok yJ6_bitCount_0f7a4 cJ6_bitCount_0f7a4 1 (some .int) rm_J6_bitCount_0f7a4 [.int x0] h (some (.int r.1), r.2) :=
  bb_ok (L := [.int x0]) (by decide) (Nat.le_of_ble_eq_true rfl) rfl (bb_fewer (L' := [.int x0]) (And.intro rfl trivial) (j_J6_bitCount_0f7a4_0 _ _ hf))
abbrev rm_X3_lossOf : Room := { frames := 1, cells := 0, slots := 0, locals := 21 }
set_option maxRecDepth 100000 in
set_option maxHeartbeats 4000000 in
theorem j_X3_lossOf_67 {r : Int32 × bb_H} : ∀ (z0 : Int32) (z1 : Int32) (h : bb_H), m_X3_lossOf_67 z0 z1 h = some r → bb_J RX3 cX3_lossOf 5 (some .int) rm_X3_lossOf (some (.int r.1), r.2) 67 [.null, .null, .null, .null, .null] [.int z1, .int z0] h := by
  intro z0 z1 h hf
  unfold m_X3_lossOf_67 at hf
  refine bb_iadd dX3_lossOf_67 ?_
  obtain rfl := Option.some.inj hf
  exact bb_iret rfl rfl dX3_lossOf_68
set_option maxRecDepth 100000 in
set_option maxHeartbeats 4000000 in
theorem j_X3_lossOf_62 {r : Int32 × bb_H} : ∀ (z0 : Int32) (h : bb_H), m_X3_lossOf_62 z0 h = some r → bb_J RX3 cX3_lossOf 5 (some .int) rm_X3_lossOf (some (.int r.1), r.2) 62 [.null, .null, .null, .null, .null] [.int z0] h := by
  intro z0 h hf
  unfold m_X3_lossOf_62 at hf
  refine bb_iconst (v := 1) dX3_lossOf_62 (by decide) ?_
  refine bb_goto (tgt := 67) dX3_lossOf_63 (by decide) ?_
  refine bb_fewer (L' := [.null, .null, .null, .null, .null]) trivial ?_
  exact j_X3_lossOf_67 _ _ _ hf
set_option maxRecDepth 100000 in
set_option maxHeartbeats 4000000 in
theorem j_X3_lossOf_90 {r : Int32 × bb_H} : ∀ (h : bb_H), m_X3_lossOf_90 h = some r → bb_J RX3 cX3_lossOf 5 (some .int) rm_X3_lossOf (some (.int r.1), r.2) 90 [.null, .null, .null, .null, .null] [] h := by
  intro h hf
  unfold m_X3_lossOf_90 at hf
  refine bb_iconst (v := 2) dX3_lossOf_90 (by decide) ?_
  obtain rfl := Option.some.inj hf
  exact bb_iret rfl rfl dX3_lossOf_91
set_option maxRecDepth 100000 in
set_option maxHeartbeats 4000000 in
theorem j_X3_lossOf_0 {r : Int32 × bb_H} : ∀ (x0 : Nat) (x1 : Int32) (x2 : Int32) (x3 : Int32) (x4 : Int32) (h : bb_H), m_X3_lossOf x0 x1 x2 x3 x4 h = some r → bb_J RX3 cX3_lossOf 5 (some .int) rm_X3_lossOf (some (.int r.1), r.2) 0 [.ref x0, .int x1, .int x2, .int x3, .int x4] [] h := by
  intro x0 x1 x2 x3 x4 h hf
  unfold m_X3_lossOf at hf
  refine bb_aload_n dX3_lossOf_0 rfl ?_
  obtain ⟨t1, h1, hf⟩ := bb_bind hf
  refine bb_getR fl_X3_15 dX3_lossOf_1 h1 ?_
  refine bb_iload_n dX3_lossOf_4 rfl ?_
  obtain ⟨t5, h5, hf⟩ := bb_bind hf
  refine bb_iaload dX3_lossOf_5 h5 ?_
  by_cases c6_0 : t5 = 0
  · rw [if_pos c6_0] at hf
    refine bb_tableIn (tgt := 90) dX3_lossOf_6 (by rw [c6_0]; decide) (by rw [c6_0]; decide) (off := 84) (by rw [c6_0]; decide) (by decide) ?_
    refine bb_fewer (L' := [.null, .null, .null, .null, .null]) trivial ?_
    exact j_X3_lossOf_90 _ hf
  rw [if_neg c6_0] at hf
  by_cases c6_1 : t5 = 1
  · rw [if_pos c6_1] at hf
    refine bb_tableIn (tgt := 40) dX3_lossOf_6 (by rw [c6_1]; decide) (by rw [c6_1]; decide) (off := 34) (by rw [c6_1]; decide) (by decide) ?_
    refine bb_aload_n dX3_lossOf_40 rfl ?_
    refine bb_iload_n dX3_lossOf_41 rfl ?_
    obtain ⟨r42, h42, hf⟩ := bb_bind hf
    obtain ⟨⟨v42, b42⟩, h42⟩ := bb_rcv_spec h42
    refine bb_invV (ci := 3) (as := [.int x2]) iv_X3_58 (by unfold bb_rr; decide) rfl dX3_lossOf_42 rfl rfl b42 (Nat.le_of_ble_eq_true rfl) (ok_X3_lossOfHale h42) ?_
    obtain rfl := Option.some.inj hf
    exact bb_iret rfl rfl dX3_lossOf_45
  rw [if_neg c6_1] at hf
  by_cases c6_2 : t5 = 2
  · rw [if_pos c6_2] at hf
    refine bb_tableIn (tgt := 46) dX3_lossOf_6 (by rw [c6_2]; decide) (by rw [c6_2]; decide) (off := 40) (by rw [c6_2]; decide) (by decide) ?_
    refine bb_iconst (v := 4) dX3_lossOf_46 (by decide) ?_
    obtain rfl := Option.some.inj hf
    exact bb_iret rfl rfl dX3_lossOf_47
  rw [if_neg c6_2] at hf
  by_cases c6_3 : t5 = 3
  · rw [if_pos c6_3] at hf
    refine bb_tableIn (tgt := 48) dX3_lossOf_6 (by rw [c6_3]; decide) (by rw [c6_3]; decide) (off := 42) (by rw [c6_3]; decide) (by decide) ?_
    refine bb_aload_n dX3_lossOf_48 rfl ?_
    refine bb_iload_n dX3_lossOf_49 rfl ?_
    obtain ⟨r50, h50, hf⟩ := bb_bind hf
    obtain ⟨⟨v50, b50⟩, h50⟩ := bb_rcv_spec h50
    refine bb_invV (ci := 3) (as := [.int x2]) iv_X3_58 (by unfold bb_rr; decide) rfl dX3_lossOf_50 rfl rfl b50 (Nat.le_of_ble_eq_true rfl) (ok_X3_lossOfHale h50) ?_
    refine bb_iload_n dX3_lossOf_53 rfl ?_
    refine bb_if_eq (tgt := 62) dX3_lossOf_54 (by decide) (fun c54 => ?_) (fun c54 => ?_)
    · rw [if_pos c54] at hf
      refine bb_fewer (L' := [.null, .null, .null, .null, .null]) trivial ?_
      exact j_X3_lossOf_62 _ _ hf
    rw [if_neg c54] at hf
    refine bb_iload dX3_lossOf_57 rfl ?_
    refine bb_if_ne (tgt := 66) dX3_lossOf_59 (by decide) (fun c59 => ?_) (fun c59 => ?_)
    · rw [if_neg c59] at hf
      refine bb_iconst (v := 0) dX3_lossOf_66 (by decide) ?_
      refine bb_fewer (L' := [.null, .null, .null, .null, .null]) trivial ?_
      exact j_X3_lossOf_67 _ _ _ hf
    rw [if_pos c59] at hf
    refine bb_fewer (L' := [.null, .null, .null, .null, .null]) trivial ?_
    exact j_X3_lossOf_62 _ _ hf
  rw [if_neg c6_3] at hf
  by_cases c6_4 : t5 = 4
  · rw [if_pos c6_4] at hf
    refine bb_tableIn (tgt := 69) dX3_lossOf_6 (by rw [c6_4]; decide) (by rw [c6_4]; decide) (off := 63) (by rw [c6_4]; decide) (by decide) ?_
    refine bb_iconst (v := 0) dX3_lossOf_69 (by decide) ?_
    refine bb_iconst (v := 4) dX3_lossOf_70 (by decide) ?_
    refine bb_aload_n dX3_lossOf_71 rfl ?_
    obtain ⟨t72, h72, hf⟩ := bb_bind hf
    refine bb_getR fl_X3_24 dX3_lossOf_72 h72 ?_
    refine bb_iload_n dX3_lossOf_75 rfl ?_
    obtain ⟨t76, h76, hf⟩ := bb_bind hf
    refine bb_iaload dX3_lossOf_76 h76 ?_
    refine bb_iload_n dX3_lossOf_77 rfl ?_
    refine bb_iload dX3_lossOf_78 rfl ?_
    refine bb_ior dX3_lossOf_80 ?_
    refine bb_iand dX3_lossOf_81 ?_
    obtain ⟨r82, h82, hf⟩ := bb_bind hf
    refine bb_invS (as := [.int (t76 &&& (x3 ||| x4))]) is_X3_62 (by unfold bb_rr; decide) dX3_lossOf_82 rfl rfl (Nat.le_of_ble_eq_true rfl) (ok_J6_bitCount_0f7a4 h82) ?_
    refine bb_isub dX3_lossOf_85 ?_
    refine bb_mmax imax_X3_52 (by decide) (by decide) (Nat.le_of_ble_eq_true rfl) dX3_lossOf_86 ?_
    obtain rfl := Option.some.inj hf
    exact bb_iret rfl rfl dX3_lossOf_89
  rw [if_neg c6_4] at hf
  refine bb_tableOut (tgt := 90) dX3_lossOf_6 (bb_swout t5 0 4 (by decide) (fun n q1 q2 => by rcases (show n = 0 ∨ n = 1 ∨ n = 2 ∨ n = 3 ∨ n = 4 by omega) with rfl | rfl | rfl | rfl | rfl <;> assumption)) (by decide) ?_
  refine bb_fewer (L' := [.null, .null, .null, .null, .null]) trivial ?_
  exact j_X3_lossOf_90 _ hf
theorem ok_X3_lossOf {x0 : Nat} {x1 : Int32} {x2 : Int32} {x3 : Int32} {x4 : Int32} {h : bb_H} {r : Int32 × bb_H} (hf : m_X3_lossOf x0 x1 x2 x3 x4 h = some r) : bb_Ok yX3_lossOf cX3_lossOf 5 (some .int) rm_X3_lossOf [.ref x0, .int x1, .int x2, .int x3, .int x4] h (some (.int r.1), r.2) :=
  bb_ok (L := [.ref x0, .int x1, .int x2, .int x3, .int x4]) (by decide) (Nat.le_of_ble_eq_true rfl) rfl (bb_fewer (L' := [.ref x0, .int x1, .int x2, .int x3, .int x4]) (And.intro rfl (And.intro rfl (And.intro rfl (And.intro rfl (And.intro rfl trivial))))) (j_X3_lossOf_0 _ _ _ _ _ _ hf))
abbrev rm_X0_lossOf : Room := { frames := 2, cells := 0, slots := 0, locals := 45 }
set_option maxRecDepth 100000 in
set_option maxHeartbeats 4000000 in
theorem j_X0_lossOf_39 {r : Int32 × bb_H} : ∀ (z0 : Int32) (h : bb_H), m_X0_lossOf_39 z0 h = some r → bb_J RX0 cX0_lossOf 4 (some .int) rm_X0_lossOf (some (.int r.1), r.2) 39 [.null, .null, .null, .null] [.int z0] h := by
  intro z0 h hf
  unfold m_X0_lossOf_39 at hf
  obtain rfl := Option.some.inj hf
  exact bb_iret rfl rfl dX0_lossOf_39
set_option maxRecDepth 100000 in
set_option maxHeartbeats 4000000 in
theorem j_X0_lossOf_0 {r : Int32 × bb_H} : ∀ (x0 : Nat) (x1 : Int32) (x2 : Nat) (h : bb_H), m_X0_lossOf x0 x1 x2 h = some r → bb_J RX0 cX0_lossOf 4 (some .int) rm_X0_lossOf (some (.int r.1), r.2) 0 [.ref x0, .int x1, .ref x2, .null] [] h := by
  intro x0 x1 x2 h hf
  unfold m_X0_lossOf at hf
  refine bb_aload_n dX0_lossOf_0 rfl ?_
  refine bb_iload_n dX0_lossOf_1 rfl ?_
  obtain ⟨r2, h2, hf⟩ := bb_bind hf
  obtain ⟨⟨v2, b2⟩, h2⟩ := bb_rcv_spec h2
  refine bb_invV (ci := 0) (as := [.int x1]) iv_X0_36 (by unfold bb_rr; decide) rfl dX0_lossOf_2 rfl rfl b2 (Nat.le_of_ble_eq_true rfl) (ok_X0_seatOf h2) ?_
  refine bb_istore_n (L' := [.ref x0, .int x1, .ref x2, .int r2.1]) dX0_lossOf_5 (by decide) rfl rfl ?_
  refine bb_iload_n dX0_lossOf_6 rfl ?_
  refine bb_bipush (v := (-4)) dX0_lossOf_7 (by decide) ?_
  refine bb_icmp_ne (tgt := 16) dX0_lossOf_9 (by decide) (fun c9 => ?_) (fun c9 => ?_)
  · rw [if_neg c9] at hf
    refine bb_aload_n dX0_lossOf_16 rfl ?_
    refine bb_iload_n dX0_lossOf_17 rfl ?_
    refine bb_aload_n dX0_lossOf_18 rfl ?_
    obtain ⟨t19, h19, hf⟩ := bb_bind hf
    refine bb_getI fl_X0_22 dX0_lossOf_19 h19 ?_
    refine bb_aload_n dX0_lossOf_22 rfl ?_
    refine bb_iload_n dX0_lossOf_23 rfl ?_
    refine bb_iconst (v := 1) dX0_lossOf_24 (by decide) ?_
    refine bb_isub dX0_lossOf_25 ?_
    obtain ⟨r26, h26, hf⟩ := bb_bind hf
    obtain ⟨⟨v26, b26⟩, h26⟩ := bb_rcv_spec h26
    refine bb_invV (ci := 0) (as := [.int (r2.1 - 1)]) iv_X0_40 (by unfold bb_rr; decide) rfl dX0_lossOf_26 rfl rfl b26 (Nat.le_of_ble_eq_true rfl) (ok_X0_setOn h26) ?_
    refine bb_aload_n dX0_lossOf_29 rfl ?_
    refine bb_iload_n dX0_lossOf_30 rfl ?_
    refine bb_iconst (v := 1) dX0_lossOf_31 (by decide) ?_
    refine bb_iadd dX0_lossOf_32 ?_
    obtain ⟨r33, h33, hf⟩ := bb_bind hf
    obtain ⟨⟨v33, b33⟩, h33⟩ := bb_rcv_spec h33
    refine bb_invV (ci := 0) (as := [.int (r2.1 + 1)]) iv_X0_40 (by unfold bb_rr; decide) rfl dX0_lossOf_33 rfl rfl b33 (Nat.le_of_ble_eq_true rfl) (ok_X0_setOn h33) ?_
    obtain ⟨r36, h36, hf⟩ := bb_bind hf
    obtain ⟨⟨v36, b36⟩, h36⟩ := bb_rcv_spec h36
    refine bb_invV (ci := 3) (as := [.int x1, .int t19, .int r26.1, .int r33.1]) iv_X0_43 (by unfold bb_rr; decide) rfl dX0_lossOf_36 rfl rfl b36 (Nat.le_of_ble_eq_true rfl) (ok_X3_lossOf h36) ?_
    refine bb_fewer (L' := [.null, .null, .null, .null]) trivial ?_
    exact j_X0_lossOf_39 _ _ hf
  rw [if_pos c9] at hf
  refine bb_iconst (v := 0) dX0_lossOf_12 (by decide) ?_
  refine bb_goto (tgt := 39) dX0_lossOf_13 (by decide) ?_
  refine bb_fewer (L' := [.null, .null, .null, .null]) trivial ?_
  exact j_X0_lossOf_39 _ _ hf
theorem ok_X0_lossOf {x0 : Nat} {x1 : Int32} {x2 : Nat} {h : bb_H} {r : Int32 × bb_H} (hf : m_X0_lossOf x0 x1 x2 h = some r) : bb_Ok yX0_lossOf cX0_lossOf 4 (some .int) rm_X0_lossOf [.ref x0, .int x1, .ref x2] h (some (.int r.1), r.2) :=
  bb_ok (L := [.ref x0, .int x1, .ref x2, .null]) (by decide) (Nat.le_of_ble_eq_true rfl) rfl (bb_fewer (L' := [.ref x0, .int x1, .ref x2, .null]) (And.intro rfl (And.intro rfl (And.intro rfl trivial))) (j_X0_lossOf_0 _ _ _ _ hf))
abbrev rm_X0_hasPairAt : Room := { frames := 1, cells := 0, slots := 0, locals := 22 }
set_option maxRecDepth 100000 in
set_option maxHeartbeats 4000000 in
theorem j_X0_hasPairAt_0 {r : Int32 × bb_H} : ∀ (x0 : Nat) (x1 : Int32) (h : bb_H), m_X0_hasPairAt x0 x1 h = some r → bb_J RX0 cX0_hasPairAt 2 (some .boolean) rm_X0_hasPairAt (some (.int r.1), r.2) 0 [.ref x0, .int x1] [] h := by
  intro x0 x1 h hf
  unfold m_X0_hasPairAt at hf
  refine bb_iload_n dX0_hasPairAt_0 rfl ?_
  refine bb_iconst (v := 0) dX0_hasPairAt_1 (by decide) ?_
  refine bb_aload_n dX0_hasPairAt_2 rfl ?_
  obtain ⟨t3, h3, hf⟩ := bb_bind hf
  refine bb_getI fl_X0_18 dX0_hasPairAt_3 h3 ?_
  refine bb_iconst (v := 2) dX0_hasPairAt_6 (by decide) ?_
  refine bb_isub dX0_hasPairAt_7 ?_
  obtain ⟨r8, h8, hf⟩ := bb_bind hf
  refine bb_invN (as := [.int x1, .int 0, .int (t3 - 2)]) in_X0_32 (by unfold bb_rr; decide) dX0_hasPairAt_8 rfl rfl (Nat.le_of_ble_eq_true rfl) (ok_X7_within h8) ?_
  obtain ⟨hn, rfl⟩ := bb_rz_spec hf
  exact bb_zret rfl hn rfl dX0_hasPairAt_11
theorem ok_X0_hasPairAt {x0 : Nat} {x1 : Int32} {h : bb_H} {r : Int32 × bb_H} (hf : m_X0_hasPairAt x0 x1 h = some r) : bb_Ok yX0_hasPairAt cX0_hasPairAt 2 (some .boolean) rm_X0_hasPairAt [.ref x0, .int x1] h (some (.int r.1), r.2) :=
  bb_ok (L := [.ref x0, .int x1]) (by decide) (Nat.le_of_ble_eq_true rfl) rfl (bb_fewer (L' := [.ref x0, .int x1]) (And.intro rfl (And.intro rfl trivial)) (j_X0_hasPairAt_0 _ _ _ hf))
abbrev rm_X0_swapAt : Room := { frames := 2, cells := 0, slots := 0, locals := 43 }
set_option maxRecDepth 100000 in
set_option maxHeartbeats 4000000 in
theorem j_X0_swapAt_38 {r : bb_H} : ∀ (h : bb_H), m_X0_swapAt_38 h = some r → bb_J RX0 cX0_swapAt 3 none rm_X0_swapAt (none, r) 38 [.null, .null, .null] [] h := by
  intro h hf
  unfold m_X0_swapAt_38 at hf
  obtain rfl := Option.some.inj hf
  exact bb_vret rfl rfl dX0_swapAt_38
set_option maxRecDepth 100000 in
set_option maxHeartbeats 4000000 in
theorem j_X0_swapAt_0 {r : bb_H} : ∀ (x0 : Nat) (x1 : Int32) (h : bb_H), m_X0_swapAt x0 x1 h = some r → bb_J RX0 cX0_swapAt 3 none rm_X0_swapAt (none, r) 0 [.ref x0, .int x1, .null] [] h := by
  intro x0 x1 h hf
  unfold m_X0_swapAt at hf
  refine bb_aload_n dX0_swapAt_0 rfl ?_
  refine bb_iload_n dX0_swapAt_1 rfl ?_
  obtain ⟨r2, h2, hf⟩ := bb_bind hf
  obtain ⟨⟨v2, b2⟩, h2⟩ := bb_rcv_spec h2
  refine bb_invV (ci := 0) (as := [.int x1]) iv_X0_49 (by unfold bb_rr; decide) rfl dX0_swapAt_2 rfl rfl b2 (Nat.le_of_ble_eq_true rfl) (ok_X0_hasPairAt h2) ?_
  refine bb_if_eq (tgt := 38) dX0_swapAt_5 (by decide) (fun c5 => ?_) (fun c5 => ?_)
  · rw [if_pos c5] at hf
    refine bb_fewer (L' := [.null, .null, .null]) trivial ?_
    exact j_X0_swapAt_38 _ hf
  rw [if_neg c5] at hf
  refine bb_aload_n dX0_swapAt_8 rfl ?_
  obtain ⟨t9, h9, hf⟩ := bb_bind hf
  refine bb_getR fl_X0_15 dX0_swapAt_9 h9 ?_
  refine bb_iload_n dX0_swapAt_12 rfl ?_
  obtain ⟨t13, h13, hf⟩ := bb_bind hf
  refine bb_iaload dX0_swapAt_13 h13 ?_
  refine bb_istore_n (L' := [.ref x0, .int x1, .int t13]) dX0_swapAt_14 (by decide) rfl rfl ?_
  refine bb_aload_n dX0_swapAt_15 rfl ?_
  obtain ⟨t16, h16, hf⟩ := bb_bind hf
  refine bb_getR fl_X0_15 dX0_swapAt_16 h16 ?_
  refine bb_iload_n dX0_swapAt_19 rfl ?_
  refine bb_aload_n dX0_swapAt_20 rfl ?_
  obtain ⟨t21, h21, hf⟩ := bb_bind hf
  refine bb_getR fl_X0_15 dX0_swapAt_21 h21 ?_
  refine bb_iload_n dX0_swapAt_24 rfl ?_
  refine bb_iconst (v := 1) dX0_swapAt_25 (by decide) ?_
  refine bb_iadd dX0_swapAt_26 ?_
  obtain ⟨t27, h27, hf⟩ := bb_bind hf
  refine bb_iaload dX0_swapAt_27 h27 ?_
  obtain ⟨g28, h28, hf⟩ := bb_bind hf
  refine bb_iastore dX0_swapAt_28 h28 ?_
  refine bb_aload_n dX0_swapAt_29 rfl ?_
  obtain ⟨t30, h30, hf⟩ := bb_bind hf
  refine bb_getR fl_X0_15 dX0_swapAt_30 h30 ?_
  refine bb_iload_n dX0_swapAt_33 rfl ?_
  refine bb_iconst (v := 1) dX0_swapAt_34 (by decide) ?_
  refine bb_iadd dX0_swapAt_35 ?_
  refine bb_iload_n dX0_swapAt_36 rfl ?_
  obtain ⟨g37, h37, hf⟩ := bb_bind hf
  refine bb_iastore dX0_swapAt_37 h37 ?_
  refine bb_fewer (L' := [.null, .null, .null]) trivial ?_
  exact j_X0_swapAt_38 _ hf
theorem ok_X0_swapAt {x0 : Nat} {x1 : Int32} {h : bb_H} {r : bb_H} (hf : m_X0_swapAt x0 x1 h = some r) : bb_Ok yX0_swapAt cX0_swapAt 3 none rm_X0_swapAt [.ref x0, .int x1] h (none, r) :=
  bb_ok (L := [.ref x0, .int x1, .null]) (by decide) (Nat.le_of_ble_eq_true rfl) rfl (bb_fewer (L' := [.ref x0, .int x1, .null]) (And.intro rfl (And.intro rfl trivial)) (j_X0_swapAt_0 _ _ _ hf))
abbrev rm_X0_moveByDraw : Room := { frames := 3, cells := 0, slots := 0, locals := 65 }
set_option maxRecDepth 100000 in
set_option maxHeartbeats 4000000 in
theorem j_X0_moveByDraw_44 {r : bb_H} : ∀ (h : bb_H), m_X0_moveByDraw_44 h = some r → bb_J RX0 cX0_moveByDraw 1 none rm_X0_moveByDraw (none, r) 44 [.null] [] h := by
  intro h hf
  unfold m_X0_moveByDraw_44 at hf
  obtain rfl := Option.some.inj hf
  exact bb_vret rfl rfl dX0_moveByDraw_44
set_option maxRecDepth 100000 in
set_option maxHeartbeats 4000000 in
theorem j_X0_moveByDraw_0 {r : bb_H} : ∀ (x0 : Nat) (h : bb_H), m_X0_moveByDraw x0 h = some r → bb_J RX0 cX0_moveByDraw 1 none rm_X0_moveByDraw (none, r) 0 [.ref x0] [] h := by
  intro x0 h hf
  unfold m_X0_moveByDraw at hf
  refine bb_aload_n dX0_moveByDraw_0 rfl ?_
  refine bb_aload_n dX0_moveByDraw_1 rfl ?_
  obtain ⟨t2, h2, hf⟩ := bb_bind hf
  refine bb_getI fl_X0_25 dX0_moveByDraw_2 h2 ?_
  refine bb_ldc (v := 1103515245) co_X0_53 dX0_moveByDraw_5 ?_
  refine bb_imul dX0_moveByDraw_7 ?_
  refine bb_sipush (v := 12345) dX0_moveByDraw_8 (by decide) ?_
  refine bb_iadd dX0_moveByDraw_11 ?_
  refine bb_ldc (v := 2147483647) co_X0_54 dX0_moveByDraw_12 ?_
  refine bb_iand dX0_moveByDraw_14 ?_
  obtain ⟨g15, h15, hf⟩ := bb_bind hf
  refine bb_putI fp_X0_25 dX0_moveByDraw_15 h15 ?_
  refine bb_aload_n dX0_moveByDraw_18 rfl ?_
  obtain ⟨t19, h19, hf⟩ := bb_bind hf
  refine bb_getI fl_X0_18 dX0_moveByDraw_19 h19 ?_
  refine bb_iconst (v := 2) dX0_moveByDraw_22 (by decide) ?_
  refine bb_icmp_lt (tgt := 44) dX0_moveByDraw_23 (by decide) (fun c23 => ?_) (fun c23 => ?_)
  · rw [if_pos c23] at hf
    refine bb_fewer (L' := [.null]) trivial ?_
    exact j_X0_moveByDraw_44 _ hf
  rw [if_neg c23] at hf
  refine bb_aload_n dX0_moveByDraw_26 rfl ?_
  refine bb_aload_n dX0_moveByDraw_27 rfl ?_
  obtain ⟨t28, h28, hf⟩ := bb_bind hf
  refine bb_getI fl_X0_25 dX0_moveByDraw_28 h28 ?_
  refine bb_ldc (v := 65536) co_X0_55 dX0_moveByDraw_31 ?_
  refine bb_idiv dX0_moveByDraw_33 (by decide) ?_
  refine bb_aload_n dX0_moveByDraw_34 rfl ?_
  obtain ⟨t35, h35, hf⟩ := bb_bind hf
  refine bb_getI fl_X0_18 dX0_moveByDraw_35 h35 ?_
  refine bb_iconst (v := 1) dX0_moveByDraw_38 (by decide) ?_
  refine bb_isub dX0_moveByDraw_39 ?_
  by_cases c40 : (t35 - 1) = 0
  · rw [if_pos c40] at hf; cases hf
  rw [if_neg c40] at hf
  refine bb_irem dX0_moveByDraw_40 c40 ?_
  obtain ⟨g41, h41, hf⟩ := bb_bind hf
  obtain ⟨⟨v41, b41⟩, h41⟩ := bb_rcv_spec h41
  refine bb_invV (ci := 0) (as := [.int ((t28 / 65536) - (t28 / 65536) / (t35 - 1) * (t35 - 1))]) iv_X0_56 (by unfold bb_rr; decide) rfl dX0_moveByDraw_41 rfl rfl b41 (Nat.le_of_ble_eq_true rfl) (ok_X0_swapAt h41) ?_
  refine bb_fewer (L' := [.null]) trivial ?_
  exact j_X0_moveByDraw_44 _ hf
theorem ok_X0_moveByDraw {x0 : Nat} {h : bb_H} {r : bb_H} (hf : m_X0_moveByDraw x0 h = some r) : bb_Ok yX0_moveByDraw cX0_moveByDraw 1 none rm_X0_moveByDraw [.ref x0] h (none, r) :=
  bb_ok (L := [.ref x0]) (by decide) (Nat.le_of_ble_eq_true rfl) rfl (bb_fewer (L' := [.ref x0]) (And.intro rfl trivial) (j_X0_moveByDraw_0 _ _ hf))
abbrev rm_X0_passYear : Room := { frames := 2, cells := 0, slots := 0, locals := 45 }
set_option maxRecDepth 100000 in
set_option maxHeartbeats 4000000 in
theorem j_X0_passYear_107 {r : bb_H} {k15 : Nat → Nat → Int32 → Int32 → Int32 → Int32 → bb_H → Option bb_H} (hk15 : ∀ (x0 : Nat) (x1 : Nat) (x2 : Int32) (x3 : Int32) (x4 : Int32) (x5 : Int32) (h : bb_H), k15 x0 x1 x2 x3 x4 x5 h = some r → bb_J RX0 cX0_passYear 8 none rm_X0_passYear (none, r) 15 [.ref x0, .ref x1, .int x2, .int x3, .int x4, .int x5, .null, .null] [] h) : ∀ (x0 : Nat) (x1 : Nat) (x2 : Int32) (x3 : Int32) (x5 : Int32) (x6 : Int32) (h : bb_H), m_X0_passYear_107 k15 x0 x1 x2 x3 x5 x6 h = some r → bb_J RX0 cX0_passYear 8 none rm_X0_passYear (none, r) 107 [.ref x0, .ref x1, .int x2, .int x3, .null, .int x5, .int x6, .null] [] h := by
  intro x0 x1 x2 x3 x5 x6 h hf
  unfold m_X0_passYear_107 at hf
  refine bb_iconst (v := 1) dX0_passYear_107 (by decide) ?_
  refine bb_iload dX0_passYear_108 rfl ?_
  refine bb_ishl dX0_passYear_110 ?_
  refine bb_istore (L' := [.ref x0, .ref x1, .int x2, .int x3, .int (1 <<< (x6 &&& 31)), .int x5, .int x6, .null]) dX0_passYear_111 (by decide) rfl rfl ?_
  refine bb_iinc (v := x5 + 1) (L' := [.ref x0, .ref x1, .int x2, .int x3, .int (1 <<< (x6 &&& 31)), .int (x5 + 1), .int x6, .null]) dX0_passYear_113 rfl rfl (by decide) rfl rfl ?_
  refine bb_goto (tgt := 15) dX0_passYear_116 (by decide) ?_
  refine bb_fewer (L' := [.ref x0, .ref x1, .int x2, .int x3, .int (1 <<< (x6 &&& 31)), .int (x5 + 1), .null, .null]) (And.intro rfl (And.intro rfl (And.intro rfl (And.intro rfl (And.intro rfl (And.intro rfl trivial)))))) ?_
  exact hk15 _ _ _ _ _ _ _ hf
set_option maxRecDepth 100000 in
set_option maxHeartbeats 4000000 in
theorem j_X0_passYear_51 {r : bb_H} {k15 : Nat → Nat → Int32 → Int32 → Int32 → Int32 → bb_H → Option bb_H} (hk15 : ∀ (x0 : Nat) (x1 : Nat) (x2 : Int32) (x3 : Int32) (x4 : Int32) (x5 : Int32) (h : bb_H), k15 x0 x1 x2 x3 x4 x5 h = some r → bb_J RX0 cX0_passYear 8 none rm_X0_passYear (none, r) 15 [.ref x0, .ref x1, .int x2, .int x3, .int x4, .int x5, .null, .null] [] h) : ∀ (x0 : Nat) (x1 : Nat) (x2 : Int32) (x3 : Int32) (x4 : Int32) (x5 : Int32) (x6 : Int32) (z0 : Int32) (h : bb_H), m_X0_passYear_51 k15 x0 x1 x2 x3 x4 x5 x6 z0 h = some r → bb_J RX0 cX0_passYear 8 none rm_X0_passYear (none, r) 51 [.ref x0, .ref x1, .int x2, .int x3, .int x4, .int x5, .int x6, .null] [.int z0] h := by
  intro x0 x1 x2 x3 x4 x5 x6 z0 h hf
  unfold m_X0_passYear_51 at hf
  refine bb_istore (L' := [.ref x0, .ref x1, .int x2, .int x3, .int x4, .int x5, .int x6, .int z0]) dX0_passYear_51 (by decide) rfl rfl ?_
  refine bb_aload_n dX0_passYear_53 rfl ?_
  obtain ⟨t54, h54, hf⟩ := bb_bind hf
  refine bb_getR fl_X0_9 dX0_passYear_54 h54 ?_
  refine bb_iload dX0_passYear_57 rfl ?_
  refine bb_iconst (v := 0) dX0_passYear_59 (by decide) ?_
  refine bb_aload_n dX0_passYear_60 rfl ?_
  obtain ⟨t61, h61, hf⟩ := bb_bind hf
  refine bb_getR fl_X0_9 dX0_passYear_61 h61 ?_
  refine bb_iload dX0_passYear_64 rfl ?_
  obtain ⟨t66, h66, hf⟩ := bb_bind hf
  refine bb_iaload dX0_passYear_66 h66 ?_
  refine bb_aload_n dX0_passYear_67 rfl ?_
  refine bb_iload dX0_passYear_68 rfl ?_
  refine bb_aload_n dX0_passYear_70 rfl ?_
  obtain ⟨t71, h71, hf⟩ := bb_bind hf
  refine bb_getI fl_X0_22 dX0_passYear_71 h71 ?_
  refine bb_iload dX0_passYear_74 rfl ?_
  refine bb_iload dX0_passYear_76 rfl ?_
  obtain ⟨r78, h78, hf⟩ := bb_bind hf
  obtain ⟨⟨v78, b78⟩, h78⟩ := bb_rcv_spec h78
  refine bb_invV (ci := 3) (as := [.int x6, .int t71, .int x4, .int z0]) iv_X0_43 (by unfold bb_rr; decide) rfl dX0_passYear_78 rfl rfl b78 (Nat.le_of_ble_eq_true rfl) (ok_X3_lossOf h78) ?_
  refine bb_isub dX0_passYear_81 ?_
  refine bb_mmax imax_X0_60 (by decide) (by decide) (Nat.le_of_ble_eq_true rfl) dX0_passYear_82 ?_
  obtain ⟨g85, h85, hf⟩ := bb_bind hf
  refine bb_iastore dX0_passYear_85 h85 ?_
  refine bb_aload_n dX0_passYear_86 rfl ?_
  obtain ⟨t87, h87, hf⟩ := bb_bind hf
  refine bb_getR fl_X0_9 dX0_passYear_87 h87 ?_
  refine bb_iload dX0_passYear_90 rfl ?_
  obtain ⟨t92, h92, hf⟩ := bb_bind hf
  refine bb_iaload dX0_passYear_92 h92 ?_
  refine bb_if_le (tgt := 107) dX0_passYear_93 (by decide) (fun c93 => ?_) (fun c93 => ?_)
  · rw [if_pos c93] at hf
    refine bb_fewer (L' := [.ref x0, .ref x1, .int x2, .int x3, .null, .int x5, .int x6, .null]) (And.intro rfl (And.intro rfl (And.intro rfl (And.intro rfl (And.intro rfl (And.intro rfl trivial)))))) ?_
    exact j_X0_passYear_107 hk15 _ _ _ _ _ _ _ hf
  rw [if_neg c93] at hf
  refine bb_aload_n dX0_passYear_96 rfl ?_
  obtain ⟨t97, h97, hf⟩ := bb_bind hf
  refine bb_getR fl_X0_15 dX0_passYear_97 h97 ?_
  refine bb_iload_n dX0_passYear_100 rfl ?_
  refine bb_iload dX0_passYear_101 rfl ?_
  obtain ⟨g103, h103, hf⟩ := bb_bind hf
  refine bb_iastore dX0_passYear_103 h103 ?_
  refine bb_iinc (v := x3 + 1) (L' := [.ref x0, .ref x1, .int x2, .int (x3 + 1), .int x4, .int x5, .int x6, .int z0]) dX0_passYear_104 rfl rfl (by decide) rfl rfl ?_
  refine bb_fewer (L' := [.ref x0, .ref x1, .int x2, .int (x3 + 1), .null, .int x5, .int x6, .null]) (And.intro rfl (And.intro rfl (And.intro rfl (And.intro rfl (And.intro rfl (And.intro rfl trivial)))))) ?_
  exact j_X0_passYear_107 hk15 _ _ _ _ _ _ _ hf
set_option maxRecDepth 100000 in
set_option maxHeartbeats 4000000 in
theorem j_X0_passYear_15 {r : bb_H} : ∀ (n : Nat) (x0 : Nat) (x1 : Nat) (x2 : Int32) (x3 : Int32) (x4 : Int32) (x5 : Int32) (h : bb_H), m_X0_passYear_15 n x0 x1 x2 x3 x4 x5 h = some r → bb_J RX0 cX0_passYear 8 none rm_X0_passYear (none, r) 15 [.ref x0, .ref x1, .int x2, .int x3, .int x4, .int x5, .null, .null] [] h := by
  intro n
  induction n with
  | zero =>
    intro x0 x1 x2 x3 x4 x5 h hf
    exact absurd hf (fun z => by cases z)
  | succ n ih =>
    intro x0 x1 x2 x3 x4 x5 h hf
    unfold m_X0_passYear_15 at hf
    refine bb_iload dX0_passYear_15 rfl ?_
    refine bb_iload_n dX0_passYear_17 rfl ?_
    refine bb_icmp_gt (tgt := 119) dX0_passYear_18 (by decide) (fun c18 => ?_) (fun c18 => ?_)
    · rw [if_pos c18] at hf
      refine bb_aload_n dX0_passYear_119 rfl ?_
      refine bb_iload_n dX0_passYear_120 rfl ?_
      obtain ⟨g121, h121, hf⟩ := bb_bind hf
      refine bb_putI fp_X0_18 dX0_passYear_121 h121 ?_
      refine bb_aload_n dX0_passYear_124 rfl ?_
      refine bb_dup dX0_passYear_125 rfl ?_
      obtain ⟨t126, h126, hf⟩ := bb_bind hf
      refine bb_getI fl_X0_22 dX0_passYear_126 h126 ?_
      refine bb_iconst (v := 1) dX0_passYear_129 (by decide) ?_
      refine bb_iadd dX0_passYear_130 ?_
      obtain ⟨g131, h131, hf⟩ := bb_bind hf
      refine bb_putI fp_X0_22 dX0_passYear_131 h131 ?_
      obtain rfl := Option.some.inj hf
      exact bb_vret rfl rfl dX0_passYear_134
    rw [if_neg c18] at hf
    refine bb_aload_n dX0_passYear_21 rfl ?_
    obtain ⟨t22, h22, hf⟩ := bb_bind hf
    refine bb_getR fl_X0_15 dX0_passYear_22 h22 ?_
    refine bb_iload dX0_passYear_25 rfl ?_
    obtain ⟨t27, h27, hf⟩ := bb_bind hf
    refine bb_iaload dX0_passYear_27 h27 ?_
    refine bb_istore (L' := [.ref x0, .ref x1, .int x2, .int x3, .int x4, .int x5, .int t27, .null]) dX0_passYear_28 (by decide) rfl rfl ?_
    refine bb_iload dX0_passYear_30 rfl ?_
    refine bb_iload_n dX0_passYear_32 rfl ?_
    refine bb_icmp_ge (tgt := 50) dX0_passYear_33 (by decide) (fun c33 => ?_) (fun c33 => ?_)
    · rw [if_pos c33] at hf
      refine bb_iconst (v := 0) dX0_passYear_50 (by decide) ?_
      refine bb_fewer (L' := [.ref x0, .ref x1, .int x2, .int x3, .int x4, .int x5, .int t27, .null]) (And.intro rfl (And.intro rfl (And.intro rfl (And.intro rfl (And.intro rfl (And.intro rfl (And.intro rfl trivial))))))) ?_
      exact j_X0_passYear_51 ih _ _ _ _ _ _ _ _ _ hf
    rw [if_neg c33] at hf
    refine bb_iconst (v := 1) dX0_passYear_36 (by decide) ?_
    refine bb_aload_n dX0_passYear_37 rfl ?_
    obtain ⟨t38, h38, hf⟩ := bb_bind hf
    refine bb_getR fl_X0_15 dX0_passYear_38 h38 ?_
    refine bb_iload dX0_passYear_41 rfl ?_
    refine bb_iconst (v := 1) dX0_passYear_43 (by decide) ?_
    refine bb_iadd dX0_passYear_44 ?_
    obtain ⟨t45, h45, hf⟩ := bb_bind hf
    refine bb_iaload dX0_passYear_45 h45 ?_
    refine bb_ishl dX0_passYear_46 ?_
    refine bb_goto (tgt := 51) dX0_passYear_47 (by decide) ?_
    refine bb_fewer (L' := [.ref x0, .ref x1, .int x2, .int x3, .int x4, .int x5, .int t27, .null]) (And.intro rfl (And.intro rfl (And.intro rfl (And.intro rfl (And.intro rfl (And.intro rfl (And.intro rfl trivial))))))) ?_
    exact j_X0_passYear_51 ih _ _ _ _ _ _ _ _ _ hf
set_option maxRecDepth 100000 in
set_option maxHeartbeats 4000000 in
theorem j_X0_passYear_0 {r : bb_H} : ∀ (x0 : Nat) (x1 : Nat) (h : bb_H), m_X0_passYear x0 x1 h = some r → bb_J RX0 cX0_passYear 8 none rm_X0_passYear (none, r) 0 [.ref x0, .ref x1, .null, .null, .null, .null, .null, .null] [] h := by
  intro x0 x1 h hf
  unfold m_X0_passYear at hf
  refine bb_aload_n dX0_passYear_0 rfl ?_
  obtain ⟨t1, h1, hf⟩ := bb_bind hf
  refine bb_getI fl_X0_18 dX0_passYear_1 h1 ?_
  refine bb_iconst (v := 1) dX0_passYear_4 (by decide) ?_
  refine bb_isub dX0_passYear_5 ?_
  refine bb_istore_n (L' := [.ref x0, .ref x1, .int (t1 - 1), .null, .null, .null, .null, .null]) dX0_passYear_6 (by decide) rfl rfl ?_
  refine bb_iconst (v := 0) dX0_passYear_7 (by decide) ?_
  refine bb_istore_n (L' := [.ref x0, .ref x1, .int (t1 - 1), .int 0, .null, .null, .null, .null]) dX0_passYear_8 (by decide) rfl rfl ?_
  refine bb_iconst (v := 0) dX0_passYear_9 (by decide) ?_
  refine bb_istore (L' := [.ref x0, .ref x1, .int (t1 - 1), .int 0, .int 0, .null, .null, .null]) dX0_passYear_10 (by decide) rfl rfl ?_
  refine bb_iconst (v := 0) dX0_passYear_12 (by decide) ?_
  refine bb_istore (L' := [.ref x0, .ref x1, .int (t1 - 1), .int 0, .int 0, .int 0, .null, .null]) dX0_passYear_13 (by decide) rfl rfl ?_
  refine bb_fewer (L' := [.ref x0, .ref x1, .int (t1 - 1), .int 0, .int 0, .int 0, .null, .null]) (And.intro rfl (And.intro rfl (And.intro rfl (And.intro rfl (And.intro rfl (And.intro rfl trivial)))))) ?_
  exact j_X0_passYear_15 _ _ _ _ _ _ _ _ hf
theorem ok_X0_passYear {x0 : Nat} {x1 : Nat} {h : bb_H} {r : bb_H} (hf : m_X0_passYear x0 x1 h = some r) : bb_Ok yX0_passYear cX0_passYear 8 none rm_X0_passYear [.ref x0, .ref x1] h (none, r) :=
  bb_ok (L := [.ref x0, .ref x1, .null, .null, .null, .null, .null, .null]) (by decide) (Nat.le_of_ble_eq_true rfl) rfl (bb_fewer (L' := [.ref x0, .ref x1, .null, .null, .null, .null, .null, .null]) (And.intro rfl (And.intro rfl trivial)) (j_X0_passYear_0 _ _ _ hf))
abbrev rm_X0_passYears : Room := { frames := 3, cells := 0, slots := 0, locals := 72 }
set_option maxRecDepth 100000 in
set_option maxHeartbeats 4000000 in
theorem j_X0_passYears_2 {r : bb_H} : ∀ (n : Nat) (x0 : Nat) (x1 : Int32) (x2 : Nat) (x3 : Int32) (h : bb_H), m_X0_passYears_2 n x0 x1 x2 x3 h = some r → bb_J RX0 cX0_passYears 4 none rm_X0_passYears (none, r) 2 [.ref x0, .int x1, .ref x2, .int x3] [] h := by
  intro n
  induction n with
  | zero =>
    intro x0 x1 x2 x3 h hf
    exact absurd hf (fun z => by cases z)
  | succ n ih =>
    intro x0 x1 x2 x3 h hf
    unfold m_X0_passYears_2 at hf
    refine bb_iload_n dX0_passYears_2 rfl ?_
    refine bb_iload_n dX0_passYears_3 rfl ?_
    refine bb_icmp_ge (tgt := 18) dX0_passYears_4 (by decide) (fun c4 => ?_) (fun c4 => ?_)
    · rw [if_pos c4] at hf
      obtain rfl := Option.some.inj hf
      exact bb_vret rfl rfl dX0_passYears_18
    rw [if_neg c4] at hf
    refine bb_aload_n dX0_passYears_7 rfl ?_
    refine bb_aload_n dX0_passYears_8 rfl ?_
    obtain ⟨g9, h9, hf⟩ := bb_bind hf
    obtain ⟨⟨v9, b9⟩, h9⟩ := bb_rcv_spec h9
    refine bb_invV (ci := 0) (as := [.ref x2]) iv_X0_66 (by unfold bb_rr; decide) rfl dX0_passYears_9 rfl rfl b9 (Nat.le_of_ble_eq_true rfl) (ok_X0_passYear h9) ?_
    refine bb_iinc (v := x3 + 1) (L' := [.ref x0, .int x1, .ref x2, .int (x3 + 1)]) dX0_passYears_12 rfl rfl (by decide) rfl rfl ?_
    refine bb_goto (tgt := 2) dX0_passYears_15 (by decide) ?_
    refine bb_fewer (L' := [.ref x0, .int x1, .ref x2, .int (x3 + 1)]) (And.intro rfl (And.intro rfl (And.intro rfl (And.intro rfl trivial)))) ?_
    exact ih _ _ _ _ _ hf
set_option maxRecDepth 100000 in
set_option maxHeartbeats 4000000 in
theorem j_X0_passYears_0 {r : bb_H} : ∀ (x0 : Nat) (x1 : Int32) (x2 : Nat) (h : bb_H), m_X0_passYears x0 x1 x2 h = some r → bb_J RX0 cX0_passYears 4 none rm_X0_passYears (none, r) 0 [.ref x0, .int x1, .ref x2, .null] [] h := by
  intro x0 x1 x2 h hf
  unfold m_X0_passYears at hf
  refine bb_iconst (v := 0) dX0_passYears_0 (by decide) ?_
  refine bb_istore_n (L' := [.ref x0, .int x1, .ref x2, .int 0]) dX0_passYears_1 (by decide) rfl rfl ?_
  refine bb_fewer (L' := [.ref x0, .int x1, .ref x2, .int 0]) (And.intro rfl (And.intro rfl (And.intro rfl (And.intro rfl trivial)))) ?_
  exact j_X0_passYears_2 _ _ _ _ _ _ hf
theorem ok_X0_passYears {x0 : Nat} {x1 : Int32} {x2 : Nat} {h : bb_H} {r : bb_H} (hf : m_X0_passYears x0 x1 x2 h = some r) : bb_Ok yX0_passYears cX0_passYears 4 none rm_X0_passYears [.ref x0, .int x1, .ref x2] h (none, r) :=
  bb_ok (L := [.ref x0, .int x1, .ref x2, .null]) (by decide) (Nat.le_of_ble_eq_true rfl) rfl (bb_fewer (L' := [.ref x0, .int x1, .ref x2, .null]) (And.intro rfl (And.intro rfl (And.intro rfl trivial))) (j_X0_passYears_0 _ _ _ _ hf))
abbrev rm_X1_takeFrom : Room := { frames := 1, cells := 0, slots := 0, locals := 22 }
set_option maxRecDepth 100000 in
set_option maxHeartbeats 4000000 in
theorem j_X1_takeFrom_2 {r : bb_H} : ∀ (n : Nat) (x0 : Nat) (x1 : Nat) (x2 : Int32) (h : bb_H), m_X1_takeFrom_2 n x0 x1 x2 h = some r → bb_J RX1 cX1_takeFrom 3 none rm_X1_takeFrom (none, r) 2 [.ref x0, .ref x1, .int x2] [] h := by
  intro n
  induction n with
  | zero =>
    intro x0 x1 x2 h hf
    exact absurd hf (fun z => by cases z)
  | succ n ih =>
    intro x0 x1 x2 h hf
    unfold m_X1_takeFrom_2 at hf
    refine bb_iload_n dX1_takeFrom_2 rfl ?_
    refine bb_bipush (v := 8) dX1_takeFrom_3 (by decide) ?_
    refine bb_icmp_ge (tgt := 29) dX1_takeFrom_5 (by decide) (fun c5 => ?_) (fun c5 => ?_)
    · rw [if_pos c5] at hf
      refine bb_aload_n dX1_takeFrom_29 rfl ?_
      refine bb_aload_n dX1_takeFrom_30 rfl ?_
      obtain ⟨t31, h31, hf⟩ := bb_bind hf
      refine bb_getI fl_X1_17 dX1_takeFrom_31 h31 ?_
      obtain ⟨g34, h34, hf⟩ := bb_bind hf
      refine bb_putI fp_X1_17 dX1_takeFrom_34 h34 ?_
      refine bb_aload_n dX1_takeFrom_37 rfl ?_
      refine bb_aload_n dX1_takeFrom_38 rfl ?_
      obtain ⟨t39, h39, hf⟩ := bb_bind hf
      refine bb_getI fl_X1_21 dX1_takeFrom_39 h39 ?_
      obtain ⟨g42, h42, hf⟩ := bb_bind hf
      refine bb_putI fp_X1_21 dX1_takeFrom_42 h42 ?_
      obtain rfl := Option.some.inj hf
      exact bb_vret rfl rfl dX1_takeFrom_45
    rw [if_neg c5] at hf
    refine bb_aload_n dX1_takeFrom_8 rfl ?_
    obtain ⟨t9, h9, hf⟩ := bb_bind hf
    refine bb_getR fl_X1_11 dX1_takeFrom_9 h9 ?_
    refine bb_iload_n dX1_takeFrom_12 rfl ?_
    obtain ⟨t13, h13, hf⟩ := bb_bind hf
    refine bb_aaload (t0 := 3) (fun _ => rfl) rfl (fun _ _ => rfl) dX1_takeFrom_13 h13 ?_
    refine bb_aload_n dX1_takeFrom_14 rfl ?_
    obtain ⟨t15, h15, hf⟩ := bb_bind hf
    refine bb_getR fl_X1_11 dX1_takeFrom_15 h15 ?_
    refine bb_iload_n dX1_takeFrom_18 rfl ?_
    obtain ⟨t19, h19, hf⟩ := bb_bind hf
    refine bb_aaload (t0 := 3) (fun _ => rfl) rfl (fun _ _ => rfl) dX1_takeFrom_19 h19 ?_
    obtain ⟨g20, h20, hf⟩ := bb_bind hf
    obtain ⟨⟨v20, b20⟩, h20⟩ := bb_rcv_spec h20
    refine bb_invV (ci := 0) (as := [.ref t19]) iv_X1_25 (by unfold bb_rr; decide) rfl dX1_takeFrom_20 rfl rfl b20 (Nat.le_of_ble_eq_true rfl) (ok_X0_takeFrom h20) ?_
    refine bb_iinc (v := x2 + 1) (L' := [.ref x0, .ref x1, .int (x2 + 1)]) dX1_takeFrom_23 rfl rfl (by decide) rfl rfl ?_
    refine bb_goto (tgt := 2) dX1_takeFrom_26 (by decide) ?_
    refine bb_fewer (L' := [.ref x0, .ref x1, .int (x2 + 1)]) (And.intro rfl (And.intro rfl (And.intro rfl trivial))) ?_
    exact ih _ _ _ _ hf
set_option maxRecDepth 100000 in
set_option maxHeartbeats 4000000 in
theorem j_X1_takeFrom_0 {r : bb_H} : ∀ (x0 : Nat) (x1 : Nat) (h : bb_H), m_X1_takeFrom x0 x1 h = some r → bb_J RX1 cX1_takeFrom 3 none rm_X1_takeFrom (none, r) 0 [.ref x0, .ref x1, .null] [] h := by
  intro x0 x1 h hf
  unfold m_X1_takeFrom at hf
  refine bb_iconst (v := 0) dX1_takeFrom_0 (by decide) ?_
  refine bb_istore_n (L' := [.ref x0, .ref x1, .int 0]) dX1_takeFrom_1 (by decide) rfl rfl ?_
  refine bb_fewer (L' := [.ref x0, .ref x1, .int 0]) (And.intro rfl (And.intro rfl (And.intro rfl trivial))) ?_
  exact j_X1_takeFrom_2 _ _ _ _ _ hf
theorem ok_X1_takeFrom {x0 : Nat} {x1 : Nat} {h : bb_H} {r : bb_H} (hf : m_X1_takeFrom x0 x1 h = some r) : bb_Ok yX1_takeFrom cX1_takeFrom 3 none rm_X1_takeFrom [.ref x0, .ref x1] h (none, r) :=
  bb_ok (L := [.ref x0, .ref x1, .null]) (by decide) (Nat.le_of_ble_eq_true rfl) rfl (bb_fewer (L' := [.ref x0, .ref x1, .null]) (And.intro rfl (And.intro rfl trivial)) (j_X1_takeFrom_0 _ _ _ hf))
abbrev rm_X1_keep : Room := { frames := 1, cells := 0, slots := 0, locals := 22 }
set_option maxRecDepth 100000 in
set_option maxHeartbeats 4000000 in
theorem j_X1_keep_0 {r : bb_H} : ∀ (x0 : Nat) (x1 : Nat) (h : bb_H), m_X1_keep x0 x1 h = some r → bb_J RX1 cX1_keep 2 none rm_X1_keep (none, r) 0 [.ref x0, .ref x1] [] h := by
  intro x0 x1 h hf
  unfold m_X1_keep at hf
  refine bb_aload_n dX1_keep_0 rfl ?_
  obtain ⟨t1, h1, hf⟩ := bb_bind hf
  refine bb_getR fl_X1_11 dX1_keep_1 h1 ?_
  refine bb_aload_n dX1_keep_4 rfl ?_
  obtain ⟨t5, h5, hf⟩ := bb_bind hf
  refine bb_getI fl_X1_21 dX1_keep_5 h5 ?_
  obtain ⟨t8, h8, hf⟩ := bb_bind hf
  refine bb_aaload (t0 := 3) (fun _ => rfl) rfl (fun _ _ => rfl) dX1_keep_8 h8 ?_
  refine bb_aload_n dX1_keep_9 rfl ?_
  obtain ⟨g10, h10, hf⟩ := bb_bind hf
  obtain ⟨⟨v10, b10⟩, h10⟩ := bb_rcv_spec h10
  refine bb_invV (ci := 0) (as := [.ref x1]) iv_X1_25 (by unfold bb_rr; decide) rfl dX1_keep_10 rfl rfl b10 (Nat.le_of_ble_eq_true rfl) (ok_X0_takeFrom h10) ?_
  refine bb_aload_n dX1_keep_13 rfl ?_
  refine bb_aload_n dX1_keep_14 rfl ?_
  obtain ⟨t15, h15, hf⟩ := bb_bind hf
  refine bb_getI fl_X1_21 dX1_keep_15 h15 ?_
  refine bb_iconst (v := 1) dX1_keep_18 (by decide) ?_
  refine bb_iadd dX1_keep_19 ?_
  refine bb_bipush (v := 8) dX1_keep_20 (by decide) ?_
  refine bb_irem dX1_keep_22 (by decide) ?_
  obtain ⟨g23, h23, hf⟩ := bb_bind hf
  refine bb_putI fp_X1_21 dX1_keep_23 h23 ?_
  refine bb_aload_n dX1_keep_26 rfl ?_
  refine bb_bipush (v := 8) dX1_keep_27 (by decide) ?_
  refine bb_aload_n dX1_keep_29 rfl ?_
  obtain ⟨t30, h30, hf⟩ := bb_bind hf
  refine bb_getI fl_X1_17 dX1_keep_30 h30 ?_
  refine bb_iconst (v := 1) dX1_keep_33 (by decide) ?_
  refine bb_iadd dX1_keep_34 ?_
  refine bb_mmin imin_X1_29 (by decide) (by decide) (Nat.le_of_ble_eq_true rfl) dX1_keep_35 ?_
  obtain ⟨g38, h38, hf⟩ := bb_bind hf
  refine bb_putI fp_X1_17 dX1_keep_38 h38 ?_
  obtain rfl := Option.some.inj hf
  exact bb_vret rfl rfl dX1_keep_41
theorem ok_X1_keep {x0 : Nat} {x1 : Nat} {h : bb_H} {r : bb_H} (hf : m_X1_keep x0 x1 h = some r) : bb_Ok yX1_keep cX1_keep 2 none rm_X1_keep [.ref x0, .ref x1] h (none, r) :=
  bb_ok (L := [.ref x0, .ref x1]) (by decide) (Nat.le_of_ble_eq_true rfl) rfl (bb_fewer (L' := [.ref x0, .ref x1]) (And.intro rfl (And.intro rfl trivial)) (j_X1_keep_0 _ _ _ hf))
abbrev rm_X1_giveBack : Room := { frames := 1, cells := 0, slots := 0, locals := 22 }
set_option maxRecDepth 100000 in
set_option maxHeartbeats 4000000 in
theorem j_X1_giveBack_46 {r : bb_H} : ∀ (h : bb_H), m_X1_giveBack_46 h = some r → bb_J RX1 cX1_giveBack 2 none rm_X1_giveBack (none, r) 46 [.null, .null] [] h := by
  intro h hf
  unfold m_X1_giveBack_46 at hf
  obtain rfl := Option.some.inj hf
  exact bb_vret rfl rfl dX1_giveBack_46
set_option maxRecDepth 100000 in
set_option maxHeartbeats 4000000 in
theorem j_X1_giveBack_0 {r : bb_H} : ∀ (x0 : Nat) (x1 : Nat) (h : bb_H), m_X1_giveBack x0 x1 h = some r → bb_J RX1 cX1_giveBack 2 none rm_X1_giveBack (none, r) 0 [.ref x0, .ref x1] [] h := by
  intro x0 x1 h hf
  unfold m_X1_giveBack at hf
  refine bb_aload_n dX1_giveBack_0 rfl ?_
  obtain ⟨t1, h1, hf⟩ := bb_bind hf
  refine bb_getI fl_X1_17 dX1_giveBack_1 h1 ?_
  refine bb_if_le (tgt := 46) dX1_giveBack_4 (by decide) (fun c4 => ?_) (fun c4 => ?_)
  · rw [if_pos c4] at hf
    refine bb_fewer (L' := [.null, .null]) trivial ?_
    exact j_X1_giveBack_46 _ hf
  rw [if_neg c4] at hf
  refine bb_aload_n dX1_giveBack_7 rfl ?_
  refine bb_aload_n dX1_giveBack_8 rfl ?_
  obtain ⟨t9, h9, hf⟩ := bb_bind hf
  refine bb_getI fl_X1_21 dX1_giveBack_9 h9 ?_
  refine bb_bipush (v := 8) dX1_giveBack_12 (by decide) ?_
  refine bb_iadd dX1_giveBack_14 ?_
  refine bb_iconst (v := 1) dX1_giveBack_15 (by decide) ?_
  refine bb_isub dX1_giveBack_16 ?_
  refine bb_bipush (v := 8) dX1_giveBack_17 (by decide) ?_
  refine bb_irem dX1_giveBack_19 (by decide) ?_
  obtain ⟨g20, h20, hf⟩ := bb_bind hf
  refine bb_putI fp_X1_21 dX1_giveBack_20 h20 ?_
  refine bb_aload_n dX1_giveBack_23 rfl ?_
  refine bb_dup dX1_giveBack_24 rfl ?_
  obtain ⟨t25, h25, hf⟩ := bb_bind hf
  refine bb_getI fl_X1_17 dX1_giveBack_25 h25 ?_
  refine bb_iconst (v := 1) dX1_giveBack_28 (by decide) ?_
  refine bb_isub dX1_giveBack_29 ?_
  obtain ⟨g30, h30, hf⟩ := bb_bind hf
  refine bb_putI fp_X1_17 dX1_giveBack_30 h30 ?_
  refine bb_aload_n dX1_giveBack_33 rfl ?_
  refine bb_aload_n dX1_giveBack_34 rfl ?_
  obtain ⟨t35, h35, hf⟩ := bb_bind hf
  refine bb_getR fl_X1_11 dX1_giveBack_35 h35 ?_
  refine bb_aload_n dX1_giveBack_38 rfl ?_
  obtain ⟨t39, h39, hf⟩ := bb_bind hf
  refine bb_getI fl_X1_21 dX1_giveBack_39 h39 ?_
  obtain ⟨t42, h42, hf⟩ := bb_bind hf
  refine bb_aaload (t0 := 3) (fun _ => rfl) rfl (fun _ _ => rfl) dX1_giveBack_42 h42 ?_
  obtain ⟨g43, h43, hf⟩ := bb_bind hf
  obtain ⟨⟨v43, b43⟩, h43⟩ := bb_rcv_spec h43
  refine bb_invV (ci := 0) (as := [.ref t42]) iv_X1_25 (by unfold bb_rr; decide) rfl dX1_giveBack_43 rfl rfl b43 (Nat.le_of_ble_eq_true rfl) (ok_X0_takeFrom h43) ?_
  refine bb_fewer (L' := [.null, .null]) trivial ?_
  exact j_X1_giveBack_46 _ hf
theorem ok_X1_giveBack {x0 : Nat} {x1 : Nat} {h : bb_H} {r : bb_H} (hf : m_X1_giveBack x0 x1 h = some r) : bb_Ok yX1_giveBack cX1_giveBack 2 none rm_X1_giveBack [.ref x0, .ref x1] h (none, r) :=
  bb_ok (L := [.ref x0, .ref x1]) (by decide) (Nat.le_of_ble_eq_true rfl) rfl (bb_fewer (L' := [.ref x0, .ref x1]) (And.intro rfl (And.intro rfl trivial)) (j_X1_giveBack_0 _ _ _ hf))
abbrev rm_X1_forget : Room := { frames := 0, cells := 0, slots := 0, locals := 0 }
set_option maxRecDepth 100000 in
set_option maxHeartbeats 4000000 in
theorem j_X1_forget_0 {r : bb_H} : ∀ (x0 : Nat) (h : bb_H), m_X1_forget x0 h = some r → bb_J RX1 cX1_forget 1 none rm_X1_forget (none, r) 0 [.ref x0] [] h := by
  intro x0 h hf
  unfold m_X1_forget at hf
  refine bb_aload_n dX1_forget_0 rfl ?_
  refine bb_iconst (v := 0) dX1_forget_1 (by decide) ?_
  obtain ⟨g2, h2, hf⟩ := bb_bind hf
  refine bb_putI fp_X1_17 dX1_forget_2 h2 ?_
  obtain rfl := Option.some.inj hf
  exact bb_vret rfl rfl dX1_forget_5
theorem ok_X1_forget {x0 : Nat} {h : bb_H} {r : bb_H} (hf : m_X1_forget x0 h = some r) : bb_Ok yX1_forget cX1_forget 1 none rm_X1_forget [.ref x0] h (none, r) :=
  bb_ok (L := [.ref x0]) (by decide) (Nat.le_of_ble_eq_true rfl) rfl (bb_fewer (L' := [.ref x0]) (And.intro rfl trivial) (j_X1_forget_0 _ _ hf))
abbrev rm_X7_holds : Room := { frames := 0, cells := 0, slots := 0, locals := 0 }
set_option maxRecDepth 100000 in
set_option maxHeartbeats 4000000 in
theorem j_X7_holds_14 {r : Int32 × bb_H} : ∀ (z0 : Int32) (h : bb_H), m_X7_holds_14 z0 h = some r → bb_J RX7 cX7_holds 2 (some .boolean) rm_X7_holds (some (.int r.1), r.2) 14 [.null, .null] [.int z0] h := by
  intro z0 h hf
  unfold m_X7_holds_14 at hf
  obtain ⟨hn, rfl⟩ := bb_rz_spec hf
  exact bb_zret rfl hn rfl dX7_holds_14
set_option maxRecDepth 100000 in
set_option maxHeartbeats 4000000 in
theorem j_X7_holds_0 {r : Int32 × bb_H} : ∀ (x0 : Int32) (x1 : Int32) (h : bb_H), m_X7_holds x0 x1 h = some r → bb_J RX7 cX7_holds 2 (some .boolean) rm_X7_holds (some (.int r.1), r.2) 0 [.int x0, .int x1] [] h := by
  intro x0 x1 h hf
  unfold m_X7_holds at hf
  refine bb_iload_n dX7_holds_0 rfl ?_
  refine bb_iload_n dX7_holds_1 rfl ?_
  refine bb_ishr dX7_holds_2 ?_
  refine bb_iconst (v := 1) dX7_holds_3 (by decide) ?_
  refine bb_iand dX7_holds_4 ?_
  refine bb_iconst (v := 1) dX7_holds_5 (by decide) ?_
  refine bb_icmp_ne (tgt := 13) dX7_holds_6 (by decide) (fun c6 => ?_) (fun c6 => ?_)
  · rw [if_neg c6] at hf
    refine bb_iconst (v := 0) dX7_holds_13 (by decide) ?_
    refine bb_fewer (L' := [.null, .null]) trivial ?_
    exact j_X7_holds_14 _ _ hf
  rw [if_pos c6] at hf
  refine bb_iconst (v := 1) dX7_holds_9 (by decide) ?_
  refine bb_goto (tgt := 14) dX7_holds_10 (by decide) ?_
  refine bb_fewer (L' := [.null, .null]) trivial ?_
  exact j_X7_holds_14 _ _ hf
theorem ok_X7_holds {x0 : Int32} {x1 : Int32} {h : bb_H} {r : Int32 × bb_H} (hf : m_X7_holds x0 x1 h = some r) : bb_Ok yX7_holds cX7_holds 2 (some .boolean) rm_X7_holds [.int x0, .int x1] h (some (.int r.1), r.2) :=
  bb_ok (L := [.int x0, .int x1]) (by decide) (Nat.le_of_ble_eq_true rfl) rfl (bb_fewer (L' := [.int x0, .int x1]) (And.intro rfl (And.intro rfl trivial)) (j_X7_holds_0 _ _ _ hf))
abbrev rm_X2_keepAsBest : Room := { frames := 0, cells := 0, slots := 0, locals := 0 }
set_option maxRecDepth 100000 in
set_option maxHeartbeats 4000000 in
theorem j_X2_keepAsBest_2 {r : bb_H} : ∀ (n : Nat) (x0 : Nat) (x1 : Int32) (h : bb_H), m_X2_keepAsBest_2 n x0 x1 h = some r → bb_J RX2 cX2_keepAsBest 2 none rm_X2_keepAsBest (none, r) 2 [.ref x0, .int x1] [] h := by
  intro n
  induction n with
  | zero =>
    intro x0 x1 h hf
    exact absurd hf (fun z => by cases z)
  | succ n ih =>
    intro x0 x1 h hf
    unfold m_X2_keepAsBest_2 at hf
    refine bb_iload_n dX2_keepAsBest_2 rfl ?_
    refine bb_bipush (v := 6) dX2_keepAsBest_3 (by decide) ?_
    refine bb_icmp_ge (tgt := 26) dX2_keepAsBest_5 (by decide) (fun c5 => ?_) (fun c5 => ?_)
    · rw [if_pos c5] at hf
      obtain rfl := Option.some.inj hf
      exact bb_vret rfl rfl dX2_keepAsBest_26
    rw [if_neg c5] at hf
    refine bb_aload_n dX2_keepAsBest_8 rfl ?_
    obtain ⟨t9, h9, hf⟩ := bb_bind hf
    refine bb_getR fl_X2_15 dX2_keepAsBest_9 h9 ?_
    refine bb_iload_n dX2_keepAsBest_12 rfl ?_
    refine bb_aload_n dX2_keepAsBest_13 rfl ?_
    obtain ⟨t14, h14, hf⟩ := bb_bind hf
    refine bb_getR fl_X2_9 dX2_keepAsBest_14 h14 ?_
    refine bb_iload_n dX2_keepAsBest_17 rfl ?_
    obtain ⟨t18, h18, hf⟩ := bb_bind hf
    refine bb_iaload dX2_keepAsBest_18 h18 ?_
    obtain ⟨g19, h19, hf⟩ := bb_bind hf
    refine bb_iastore dX2_keepAsBest_19 h19 ?_
    refine bb_iinc (v := x1 + 1) (L' := [.ref x0, .int (x1 + 1)]) dX2_keepAsBest_20 rfl rfl (by decide) rfl rfl ?_
    refine bb_goto (tgt := 2) dX2_keepAsBest_23 (by decide) ?_
    refine bb_fewer (L' := [.ref x0, .int (x1 + 1)]) (And.intro rfl (And.intro rfl trivial)) ?_
    exact ih _ _ _ hf
set_option maxRecDepth 100000 in
set_option maxHeartbeats 4000000 in
theorem j_X2_keepAsBest_0 {r : bb_H} : ∀ (x0 : Nat) (h : bb_H), m_X2_keepAsBest x0 h = some r → bb_J RX2 cX2_keepAsBest 2 none rm_X2_keepAsBest (none, r) 0 [.ref x0, .null] [] h := by
  intro x0 h hf
  unfold m_X2_keepAsBest at hf
  refine bb_iconst (v := 0) dX2_keepAsBest_0 (by decide) ?_
  refine bb_istore_n (L' := [.ref x0, .int 0]) dX2_keepAsBest_1 (by decide) rfl rfl ?_
  refine bb_fewer (L' := [.ref x0, .int 0]) (And.intro rfl (And.intro rfl trivial)) ?_
  exact j_X2_keepAsBest_2 _ _ _ _ hf
theorem ok_X2_keepAsBest {x0 : Nat} {h : bb_H} {r : bb_H} (hf : m_X2_keepAsBest x0 h = some r) : bb_Ok yX2_keepAsBest cX2_keepAsBest 2 none rm_X2_keepAsBest [.ref x0] h (none, r) :=
  bb_ok (L := [.ref x0, .null]) (by decide) (Nat.le_of_ble_eq_true rfl) rfl (bb_fewer (L' := [.ref x0, .null]) (And.intro rfl trivial) (j_X2_keepAsBest_0 _ _ hf))
abbrev rm_X2_start : Room := { frames := 1, cells := 0, slots := 0, locals := 22 }
set_option maxRecDepth 100000 in
set_option maxHeartbeats 4000000 in
theorem j_X2_start_46 {r : bb_H} {k12 : Nat → Int32 → Int32 → bb_H → Option bb_H} (hk12 : ∀ (x0 : Nat) (x2 : Int32) (x3 : Int32) (h : bb_H), k12 x0 x2 x3 h = some r → bb_J RX2 cX2_start 4 none rm_X2_start (none, r) 12 [.ref x0, .null, .int x2, .int x3] [] h) : ∀ (x0 : Nat) (x2 : Int32) (x3 : Int32) (h : bb_H), m_X2_start_46 k12 x0 x2 x3 h = some r → bb_J RX2 cX2_start 4 none rm_X2_start (none, r) 46 [.ref x0, .null, .int x2, .int x3] [] h := by
  intro x0 x2 x3 h hf
  unfold m_X2_start_46 at hf
  refine bb_iinc (v := x3 + 1) (L' := [.ref x0, .null, .int x2, .int (x3 + 1)]) dX2_start_46 rfl rfl (by decide) rfl rfl ?_
  refine bb_goto (tgt := 12) dX2_start_49 (by decide) ?_
  refine bb_fewer (L' := [.ref x0, .null, .int x2, .int (x3 + 1)]) (And.intro rfl (And.intro rfl (And.intro rfl trivial))) ?_
  exact hk12 _ _ _ _ hf
set_option maxRecDepth 100000 in
set_option maxHeartbeats 4000000 in
theorem j_X2_start_12 {r : bb_H} : ∀ (n : Nat) (x0 : Nat) (x2 : Int32) (x3 : Int32) (h : bb_H), m_X2_start_12 n x0 x2 x3 h = some r → bb_J RX2 cX2_start 4 none rm_X2_start (none, r) 12 [.ref x0, .null, .int x2, .int x3] [] h := by
  intro n
  induction n with
  | zero =>
    intro x0 x2 x3 h hf
    exact absurd hf (fun z => by cases z)
  | succ n ih =>
    intro x0 x2 x3 h hf
    unfold m_X2_start_12 at hf
    refine bb_iload_n dX2_start_12 rfl ?_
    refine bb_bipush (v := 6) dX2_start_13 (by decide) ?_
    refine bb_icmp_ge (tgt := 52) dX2_start_15 (by decide) (fun c15 => ?_) (fun c15 => ?_)
    · rw [if_pos c15] at hf
      refine bb_aload_n dX2_start_52 rfl ?_
      obtain ⟨g53, h53, hf⟩ := bb_bind hf
      obtain ⟨⟨v53, b53⟩, h53⟩ := bb_rcv_spec h53
      refine bb_invV (ci := 2) (as := []) iv_X2_32 (by unfold bb_rr; decide) rfl dX2_start_53 rfl rfl b53 (Nat.le_of_ble_eq_true rfl) (ok_X2_keepAsBest h53) ?_
      obtain rfl := Option.some.inj hf
      exact bb_vret rfl rfl dX2_start_56
    rw [if_neg c15] at hf
    refine bb_iload_n dX2_start_18 rfl ?_
    refine bb_iload_n dX2_start_19 rfl ?_
    obtain ⟨r20, h20, hf⟩ := bb_bind hf
    refine bb_invN (as := [.int x2, .int x3]) in_X2_28 (by unfold bb_rr; decide) dX2_start_20 rfl rfl (Nat.le_of_ble_eq_true rfl) (ok_X7_holds h20) ?_
    refine bb_if_eq (tgt := 46) dX2_start_23 (by decide) (fun c23 => ?_) (fun c23 => ?_)
    · rw [if_pos c23] at hf
      refine bb_fewer (L' := [.ref x0, .null, .int x2, .int x3]) (And.intro rfl (And.intro rfl (And.intro rfl trivial))) ?_
      exact j_X2_start_46 ih _ _ _ _ hf
    rw [if_neg c23] at hf
    refine bb_aload_n dX2_start_26 rfl ?_
    obtain ⟨t27, h27, hf⟩ := bb_bind hf
    refine bb_getR fl_X2_9 dX2_start_27 h27 ?_
    refine bb_aload_n dX2_start_30 rfl ?_
    obtain ⟨t31, h31, hf⟩ := bb_bind hf
    refine bb_getI fl_X2_18 dX2_start_31 h31 ?_
    refine bb_iload_n dX2_start_34 rfl ?_
    obtain ⟨g35, h35, hf⟩ := bb_bind hf
    refine bb_iastore dX2_start_35 h35 ?_
    refine bb_aload_n dX2_start_36 rfl ?_
    refine bb_dup dX2_start_37 rfl ?_
    obtain ⟨t38, h38, hf⟩ := bb_bind hf
    refine bb_getI fl_X2_18 dX2_start_38 h38 ?_
    refine bb_iconst (v := 1) dX2_start_41 (by decide) ?_
    refine bb_iadd dX2_start_42 ?_
    obtain ⟨g43, h43, hf⟩ := bb_bind hf
    refine bb_putI fp_X2_18 dX2_start_43 h43 ?_
    refine bb_fewer (L' := [.ref x0, .null, .int x2, .int x3]) (And.intro rfl (And.intro rfl (And.intro rfl trivial))) ?_
    exact j_X2_start_46 ih _ _ _ _ hf
set_option maxRecDepth 100000 in
set_option maxHeartbeats 4000000 in
theorem j_X2_start_0 {r : bb_H} : ∀ (x0 : Nat) (x1 : Nat) (h : bb_H), m_X2_start x0 x1 h = some r → bb_J RX2 cX2_start 4 none rm_X2_start (none, r) 0 [.ref x0, .ref x1, .null, .null] [] h := by
  intro x0 x1 h hf
  unfold m_X2_start at hf
  refine bb_aload_n dX2_start_0 rfl ?_
  obtain ⟨r1, h1, hf⟩ := bb_bind hf
  obtain ⟨⟨v1, b1⟩, h1⟩ := bb_rcv_spec h1
  refine bb_invV (ci := 0) (as := []) iv_X2_22 (by unfold bb_rr; decide) rfl dX2_start_1 rfl rfl b1 (Nat.le_of_ble_eq_true rfl) (ok_X0_whoSits h1) ?_
  refine bb_istore_n (L' := [.ref x0, .ref x1, .int r1.1, .null]) dX2_start_4 (by decide) rfl rfl ?_
  refine bb_aload_n dX2_start_5 rfl ?_
  refine bb_iconst (v := 0) dX2_start_6 (by decide) ?_
  obtain ⟨g7, h7, hf⟩ := bb_bind hf
  refine bb_putI fp_X2_18 dX2_start_7 h7 ?_
  refine bb_iconst (v := 0) dX2_start_10 (by decide) ?_
  refine bb_istore_n (L' := [.ref x0, .ref x1, .int r1.1, .int 0]) dX2_start_11 (by decide) rfl rfl ?_
  refine bb_fewer (L' := [.ref x0, .null, .int r1.1, .int 0]) (And.intro rfl (And.intro rfl (And.intro rfl trivial))) ?_
  exact j_X2_start_12 _ _ _ _ _ hf
theorem ok_X2_start {x0 : Nat} {x1 : Nat} {h : bb_H} {r : bb_H} (hf : m_X2_start x0 x1 h = some r) : bb_Ok yX2_start cX2_start 4 none rm_X2_start [.ref x0, .ref x1] h (none, r) :=
  bb_ok (L := [.ref x0, .ref x1, .null, .null]) (by decide) (Nat.le_of_ble_eq_true rfl) rfl (bb_fewer (L' := [.ref x0, .ref x1, .null, .null]) (And.intro rfl (And.intro rfl trivial)) (j_X2_start_0 _ _ _ hf))
abbrev rm_X2_bestOn : Room := { frames := 1, cells := 0, slots := 0, locals := 22 }
set_option maxRecDepth 100000 in
set_option maxHeartbeats 4000000 in
theorem j_X2_bestOn_25 {r : Int32 × bb_H} : ∀ (z0 : Int32) (h : bb_H), m_X2_bestOn_25 z0 h = some r → bb_J RX2 cX2_bestOn 2 (some .int) rm_X2_bestOn (some (.int r.1), r.2) 25 [.null, .null] [.int z0] h := by
  intro z0 h hf
  unfold m_X2_bestOn_25 at hf
  obtain rfl := Option.some.inj hf
  exact bb_iret rfl rfl dX2_bestOn_25
set_option maxRecDepth 100000 in
set_option maxHeartbeats 4000000 in
theorem j_X2_bestOn_0 {r : Int32 × bb_H} : ∀ (x0 : Nat) (x1 : Int32) (h : bb_H), m_X2_bestOn x0 x1 h = some r → bb_J RX2 cX2_bestOn 2 (some .int) rm_X2_bestOn (some (.int r.1), r.2) 0 [.ref x0, .int x1] [] h := by
  intro x0 x1 h hf
  unfold m_X2_bestOn at hf
  refine bb_iload_n dX2_bestOn_0 rfl ?_
  refine bb_iconst (v := 0) dX2_bestOn_1 (by decide) ?_
  refine bb_aload_n dX2_bestOn_2 rfl ?_
  obtain ⟨t3, h3, hf⟩ := bb_bind hf
  refine bb_getI fl_X2_18 dX2_bestOn_3 h3 ?_
  refine bb_iconst (v := 1) dX2_bestOn_6 (by decide) ?_
  refine bb_isub dX2_bestOn_7 ?_
  obtain ⟨r8, h8, hf⟩ := bb_bind hf
  refine bb_invN (as := [.int x1, .int 0, .int (t3 - 1)]) in_X2_35 (by unfold bb_rr; decide) dX2_bestOn_8 rfl rfl (Nat.le_of_ble_eq_true rfl) (ok_X7_within h8) ?_
  refine bb_if_eq (tgt := 23) dX2_bestOn_11 (by decide) (fun c11 => ?_) (fun c11 => ?_)
  · rw [if_pos c11] at hf
    refine bb_bipush (v := (-4)) dX2_bestOn_23 (by decide) ?_
    refine bb_fewer (L' := [.null, .null]) trivial ?_
    exact j_X2_bestOn_25 _ _ hf
  rw [if_neg c11] at hf
  refine bb_aload_n dX2_bestOn_14 rfl ?_
  obtain ⟨t15, h15, hf⟩ := bb_bind hf
  refine bb_getR fl_X2_15 dX2_bestOn_15 h15 ?_
  refine bb_iload_n dX2_bestOn_18 rfl ?_
  obtain ⟨t19, h19, hf⟩ := bb_bind hf
  refine bb_iaload dX2_bestOn_19 h19 ?_
  refine bb_goto (tgt := 25) dX2_bestOn_20 (by decide) ?_
  refine bb_fewer (L' := [.null, .null]) trivial ?_
  exact j_X2_bestOn_25 _ _ hf
theorem ok_X2_bestOn {x0 : Nat} {x1 : Int32} {h : bb_H} {r : Int32 × bb_H} (hf : m_X2_bestOn x0 x1 h = some r) : bb_Ok yX2_bestOn cX2_bestOn 2 (some .int) rm_X2_bestOn [.ref x0, .int x1] h (some (.int r.1), r.2) :=
  bb_ok (L := [.ref x0, .int x1]) (by decide) (Nat.le_of_ble_eq_true rfl) rfl (bb_fewer (L' := [.ref x0, .int x1]) (And.intro rfl (And.intro rfl trivial)) (j_X2_bestOn_0 _ _ _ hf))
abbrev rm_X2_isTurnedRound : Room := { frames := 0, cells := 0, slots := 0, locals := 0 }
set_option maxRecDepth 100000 in
set_option maxHeartbeats 4000000 in
theorem j_X2_isTurnedRound_33 {r : Int32 × bb_H} : ∀ (z0 : Int32) (h : bb_H), m_X2_isTurnedRound_33 z0 h = some r → bb_J RX2 cX2_isTurnedRound 1 (some .boolean) rm_X2_isTurnedRound (some (.int r.1), r.2) 33 [.null] [.int z0] h := by
  intro z0 h hf
  unfold m_X2_isTurnedRound_33 at hf
  obtain ⟨hn, rfl⟩ := bb_rz_spec hf
  exact bb_zret rfl hn rfl dX2_isTurnedRound_33
set_option maxRecDepth 100000 in
set_option maxHeartbeats 4000000 in
theorem j_X2_isTurnedRound_32 {r : Int32 × bb_H} : ∀ (h : bb_H), m_X2_isTurnedRound_32 h = some r → bb_J RX2 cX2_isTurnedRound 1 (some .boolean) rm_X2_isTurnedRound (some (.int r.1), r.2) 32 [.null] [] h := by
  intro h hf
  unfold m_X2_isTurnedRound_32 at hf
  refine bb_iconst (v := 0) dX2_isTurnedRound_32 (by decide) ?_
  refine bb_fewer (L' := [.null]) trivial ?_
  exact j_X2_isTurnedRound_33 _ _ hf
set_option maxRecDepth 100000 in
set_option maxHeartbeats 4000000 in
theorem j_X2_isTurnedRound_0 {r : Int32 × bb_H} : ∀ (x0 : Nat) (h : bb_H), m_X2_isTurnedRound x0 h = some r → bb_J RX2 cX2_isTurnedRound 1 (some .boolean) rm_X2_isTurnedRound (some (.int r.1), r.2) 0 [.ref x0] [] h := by
  intro x0 h hf
  unfold m_X2_isTurnedRound at hf
  refine bb_aload_n dX2_isTurnedRound_0 rfl ?_
  obtain ⟨t1, h1, hf⟩ := bb_bind hf
  refine bb_getI fl_X2_18 dX2_isTurnedRound_1 h1 ?_
  refine bb_iconst (v := 1) dX2_isTurnedRound_4 (by decide) ?_
  refine bb_icmp_le (tgt := 32) dX2_isTurnedRound_5 (by decide) (fun c5 => ?_) (fun c5 => ?_)
  · rw [if_pos c5] at hf
    refine bb_fewer (L' := [.null]) trivial ?_
    exact j_X2_isTurnedRound_32 _ hf
  rw [if_neg c5] at hf
  refine bb_aload_n dX2_isTurnedRound_8 rfl ?_
  obtain ⟨t9, h9, hf⟩ := bb_bind hf
  refine bb_getR fl_X2_9 dX2_isTurnedRound_9 h9 ?_
  refine bb_iconst (v := 0) dX2_isTurnedRound_12 (by decide) ?_
  obtain ⟨t13, h13, hf⟩ := bb_bind hf
  refine bb_iaload dX2_isTurnedRound_13 h13 ?_
  refine bb_aload_n dX2_isTurnedRound_14 rfl ?_
  obtain ⟨t15, h15, hf⟩ := bb_bind hf
  refine bb_getR fl_X2_9 dX2_isTurnedRound_15 h15 ?_
  refine bb_aload_n dX2_isTurnedRound_18 rfl ?_
  obtain ⟨t19, h19, hf⟩ := bb_bind hf
  refine bb_getI fl_X2_18 dX2_isTurnedRound_19 h19 ?_
  refine bb_iconst (v := 1) dX2_isTurnedRound_22 (by decide) ?_
  refine bb_isub dX2_isTurnedRound_23 ?_
  obtain ⟨t24, h24, hf⟩ := bb_bind hf
  refine bb_iaload dX2_isTurnedRound_24 h24 ?_
  refine bb_icmp_le (tgt := 32) dX2_isTurnedRound_25 (by decide) (fun c25 => ?_) (fun c25 => ?_)
  · rw [if_pos c25] at hf
    refine bb_fewer (L' := [.null]) trivial ?_
    exact j_X2_isTurnedRound_32 _ hf
  rw [if_neg c25] at hf
  refine bb_iconst (v := 1) dX2_isTurnedRound_28 (by decide) ?_
  refine bb_goto (tgt := 33) dX2_isTurnedRound_29 (by decide) ?_
  refine bb_fewer (L' := [.null]) trivial ?_
  exact j_X2_isTurnedRound_33 _ _ hf
theorem ok_X2_isTurnedRound {x0 : Nat} {h : bb_H} {r : Int32 × bb_H} (hf : m_X2_isTurnedRound x0 h = some r) : bb_Ok yX2_isTurnedRound cX2_isTurnedRound 1 (some .boolean) rm_X2_isTurnedRound [.ref x0] h (some (.int r.1), r.2) :=
  bb_ok (L := [.ref x0]) (by decide) (Nat.le_of_ble_eq_true rfl) rfl (bb_fewer (L' := [.ref x0]) (And.intro rfl trivial) (j_X2_isTurnedRound_0 _ _ hf))
abbrev rm_X2_swap : Room := { frames := 0, cells := 0, slots := 0, locals := 0 }
set_option maxRecDepth 100000 in
set_option maxHeartbeats 4000000 in
theorem j_X2_swap_0 {r : bb_H} : ∀ (x0 : Nat) (x1 : Int32) (x2 : Int32) (h : bb_H), m_X2_swap x0 x1 x2 h = some r → bb_J RX2 cX2_swap 4 none rm_X2_swap (none, r) 0 [.ref x0, .int x1, .int x2, .null] [] h := by
  intro x0 x1 x2 h hf
  unfold m_X2_swap at hf
  refine bb_aload_n dX2_swap_0 rfl ?_
  obtain ⟨t1, h1, hf⟩ := bb_bind hf
  refine bb_getR fl_X2_9 dX2_swap_1 h1 ?_
  refine bb_iload_n dX2_swap_4 rfl ?_
  obtain ⟨t5, h5, hf⟩ := bb_bind hf
  refine bb_iaload dX2_swap_5 h5 ?_
  refine bb_istore_n (L' := [.ref x0, .int x1, .int x2, .int t5]) dX2_swap_6 (by decide) rfl rfl ?_
  refine bb_aload_n dX2_swap_7 rfl ?_
  obtain ⟨t8, h8, hf⟩ := bb_bind hf
  refine bb_getR fl_X2_9 dX2_swap_8 h8 ?_
  refine bb_iload_n dX2_swap_11 rfl ?_
  refine bb_aload_n dX2_swap_12 rfl ?_
  obtain ⟨t13, h13, hf⟩ := bb_bind hf
  refine bb_getR fl_X2_9 dX2_swap_13 h13 ?_
  refine bb_iload_n dX2_swap_16 rfl ?_
  obtain ⟨t17, h17, hf⟩ := bb_bind hf
  refine bb_iaload dX2_swap_17 h17 ?_
  obtain ⟨g18, h18, hf⟩ := bb_bind hf
  refine bb_iastore dX2_swap_18 h18 ?_
  refine bb_aload_n dX2_swap_19 rfl ?_
  obtain ⟨t20, h20, hf⟩ := bb_bind hf
  refine bb_getR fl_X2_9 dX2_swap_20 h20 ?_
  refine bb_iload_n dX2_swap_23 rfl ?_
  refine bb_iload_n dX2_swap_24 rfl ?_
  obtain ⟨g25, h25, hf⟩ := bb_bind hf
  refine bb_iastore dX2_swap_25 h25 ?_
  obtain rfl := Option.some.inj hf
  exact bb_vret rfl rfl dX2_swap_26
theorem ok_X2_swap {x0 : Nat} {x1 : Int32} {x2 : Int32} {h : bb_H} {r : bb_H} (hf : m_X2_swap x0 x1 x2 h = some r) : bb_Ok yX2_swap cX2_swap 4 none rm_X2_swap [.ref x0, .int x1, .int x2] h (none, r) :=
  bb_ok (L := [.ref x0, .int x1, .int x2, .null]) (by decide) (Nat.le_of_ble_eq_true rfl) rfl (bb_fewer (L' := [.ref x0, .int x1, .int x2, .null]) (And.intro rfl (And.intro rfl (And.intro rfl trivial))) (j_X2_swap_0 _ _ _ _ hf))
abbrev rm_X2_advance : Room := { frames := 1, cells := 0, slots := 0, locals := 23 }
set_option maxRecDepth 100000 in
set_option maxHeartbeats 4000000 in
theorem j_X2_advance_93 {r : Int32 × bb_H} : ∀ (n : Nat) (x0 : Nat) (x3 : Int32) (x4 : Int32) (h : bb_H), m_X2_advance_93 n x0 x3 x4 h = some r → bb_J RX2 cX2_advance 5 (some .boolean) rm_X2_advance (some (.int r.1), r.2) 93 [.ref x0, .null, .null, .int x3, .int x4] [] h := by
  intro n
  induction n with
  | zero =>
    intro x0 x3 x4 h hf
    exact absurd hf (fun z => by cases z)
  | succ n ih =>
    intro x0 x3 x4 h hf
    unfold m_X2_advance_93 at hf
    refine bb_iload_n dX2_advance_93 rfl ?_
    refine bb_iload dX2_advance_94 rfl ?_
    refine bb_icmp_ge (tgt := 115) dX2_advance_96 (by decide) (fun c96 => ?_) (fun c96 => ?_)
    · rw [if_pos c96] at hf
      refine bb_iconst (v := 1) dX2_advance_115 (by decide) ?_
      obtain rfl := Option.some.inj hf
      exact bb_zret rfl (by decide) rfl dX2_advance_116
    rw [if_neg c96] at hf
    refine bb_aload_n dX2_advance_99 rfl ?_
    refine bb_iload_n dX2_advance_100 rfl ?_
    refine bb_iload dX2_advance_101 rfl ?_
    obtain ⟨g103, h103, hf⟩ := bb_bind hf
    obtain ⟨⟨v103, b103⟩, h103⟩ := bb_rcv_spec h103
    refine bb_invV (ci := 2) (as := [.int x3, .int x4]) iv_X2_39 (by unfold bb_rr; decide) rfl dX2_advance_103 rfl rfl b103 (Nat.le_of_ble_eq_true rfl) (ok_X2_swap h103) ?_
    refine bb_iinc (v := x3 + 1) (L' := [.ref x0, .null, .null, .int (x3 + 1), .int x4]) dX2_advance_106 rfl rfl (by decide) rfl rfl ?_
    refine bb_iinc (v := x4 + (-1)) (L' := [.ref x0, .null, .null, .int (x3 + 1), .int (x4 + (-1))]) dX2_advance_109 rfl rfl (by decide) rfl rfl ?_
    refine bb_goto (tgt := 93) dX2_advance_112 (by decide) ?_
    refine bb_fewer (L' := [.ref x0, .null, .null, .int (x3 + 1), .int (x4 + (-1))]) (And.intro rfl (And.intro rfl (And.intro rfl trivial))) ?_
    exact ih _ _ _ _ hf
set_option maxRecDepth 100000 in
set_option maxHeartbeats 4000000 in
theorem j_X2_advance_75 {r : Int32 × bb_H} : ∀ (x0 : Nat) (x1 : Int32) (x2 : Int32) (h : bb_H), m_X2_advance_75 x0 x1 x2 h = some r → bb_J RX2 cX2_advance 5 (some .boolean) rm_X2_advance (some (.int r.1), r.2) 75 [.ref x0, .int x1, .int x2, .null, .null] [] h := by
  intro x0 x1 x2 h hf
  unfold m_X2_advance_75 at hf
  refine bb_aload_n dX2_advance_75 rfl ?_
  refine bb_iload_n dX2_advance_76 rfl ?_
  refine bb_iload_n dX2_advance_77 rfl ?_
  obtain ⟨g78, h78, hf⟩ := bb_bind hf
  obtain ⟨⟨v78, b78⟩, h78⟩ := bb_rcv_spec h78
  refine bb_invV (ci := 2) (as := [.int x1, .int x2]) iv_X2_39 (by unfold bb_rr; decide) rfl dX2_advance_78 rfl rfl b78 (Nat.le_of_ble_eq_true rfl) (ok_X2_swap h78) ?_
  refine bb_iload_n dX2_advance_81 rfl ?_
  refine bb_iconst (v := 1) dX2_advance_82 (by decide) ?_
  refine bb_iadd dX2_advance_83 ?_
  refine bb_istore_n (L' := [.ref x0, .int x1, .int x2, .int (x1 + 1), .null]) dX2_advance_84 (by decide) rfl rfl ?_
  refine bb_aload_n dX2_advance_85 rfl ?_
  obtain ⟨t86, h86, hf⟩ := bb_bind hf
  refine bb_getI fl_X2_18 dX2_advance_86 h86 ?_
  refine bb_iconst (v := 1) dX2_advance_89 (by decide) ?_
  refine bb_isub dX2_advance_90 ?_
  refine bb_istore (L' := [.ref x0, .int x1, .int x2, .int (x1 + 1), .int (t86 - 1)]) dX2_advance_91 (by decide) rfl rfl ?_
  refine bb_fewer (L' := [.ref x0, .null, .null, .int (x1 + 1), .int (t86 - 1)]) (And.intro rfl (And.intro rfl (And.intro rfl trivial))) ?_
  exact j_X2_advance_93 _ _ _ _ _ hf
set_option maxRecDepth 100000 in
set_option maxHeartbeats 4000000 in
theorem j_X2_advance_47 {r : Int32 × bb_H} : ∀ (n : Nat) (x0 : Nat) (x1 : Int32) (x2 : Int32) (h : bb_H), m_X2_advance_47 n x0 x1 x2 h = some r → bb_J RX2 cX2_advance 5 (some .boolean) rm_X2_advance (some (.int r.1), r.2) 47 [.ref x0, .int x1, .int x2, .null, .null] [] h := by
  intro n
  induction n with
  | zero =>
    intro x0 x1 x2 h hf
    exact absurd hf (fun z => by cases z)
  | succ n ih =>
    intro x0 x1 x2 h hf
    unfold m_X2_advance_47 at hf
    refine bb_iload_n dX2_advance_47 rfl ?_
    refine bb_iload_n dX2_advance_48 rfl ?_
    refine bb_iconst (v := 1) dX2_advance_49 (by decide) ?_
    refine bb_iadd dX2_advance_50 ?_
    refine bb_icmp_le (tgt := 75) dX2_advance_51 (by decide) (fun c51 => ?_) (fun c51 => ?_)
    · rw [if_pos c51] at hf
      refine bb_fewer (L' := [.ref x0, .int x1, .int x2, .null, .null]) (And.intro rfl (And.intro rfl (And.intro rfl trivial))) ?_
      exact j_X2_advance_75 _ _ _ _ hf
    rw [if_neg c51] at hf
    refine bb_aload_n dX2_advance_54 rfl ?_
    obtain ⟨t55, h55, hf⟩ := bb_bind hf
    refine bb_getR fl_X2_9 dX2_advance_55 h55 ?_
    refine bb_iload_n dX2_advance_58 rfl ?_
    obtain ⟨t59, h59, hf⟩ := bb_bind hf
    refine bb_iaload dX2_advance_59 h59 ?_
    refine bb_aload_n dX2_advance_60 rfl ?_
    obtain ⟨t61, h61, hf⟩ := bb_bind hf
    refine bb_getR fl_X2_9 dX2_advance_61 h61 ?_
    refine bb_iload_n dX2_advance_64 rfl ?_
    obtain ⟨t65, h65, hf⟩ := bb_bind hf
    refine bb_iaload dX2_advance_65 h65 ?_
    refine bb_icmp_ge (tgt := 75) dX2_advance_66 (by decide) (fun c66 => ?_) (fun c66 => ?_)
    · rw [if_pos c66] at hf
      refine bb_fewer (L' := [.ref x0, .int x1, .int x2, .null, .null]) (And.intro rfl (And.intro rfl (And.intro rfl trivial))) ?_
      exact j_X2_advance_75 _ _ _ _ hf
    rw [if_neg c66] at hf
    refine bb_iinc (v := x2 + (-1)) (L' := [.ref x0, .int x1, .int (x2 + (-1)), .null, .null]) dX2_advance_69 rfl rfl (by decide) rfl rfl ?_
    refine bb_goto (tgt := 47) dX2_advance_72 (by decide) ?_
    refine bb_fewer (L' := [.ref x0, .int x1, .int (x2 + (-1)), .null, .null]) (And.intro rfl (And.intro rfl (And.intro rfl trivial))) ?_
    exact ih _ _ _ _ hf
set_option maxRecDepth 100000 in
set_option maxHeartbeats 4000000 in
theorem j_X2_advance_34 {r : Int32 × bb_H} : ∀ (x0 : Nat) (x1 : Int32) (h : bb_H), m_X2_advance_34 x0 x1 h = some r → bb_J RX2 cX2_advance 5 (some .boolean) rm_X2_advance (some (.int r.1), r.2) 34 [.ref x0, .int x1, .null, .null, .null] [] h := by
  intro x0 x1 h hf
  unfold m_X2_advance_34 at hf
  refine bb_iload_n dX2_advance_34 rfl ?_
  refine bb_if_ge (tgt := 40) dX2_advance_35 (by decide) (fun c35 => ?_) (fun c35 => ?_)
  · rw [if_pos c35] at hf
    refine bb_aload_n dX2_advance_40 rfl ?_
    obtain ⟨t41, h41, hf⟩ := bb_bind hf
    refine bb_getI fl_X2_18 dX2_advance_41 h41 ?_
    refine bb_iconst (v := 1) dX2_advance_44 (by decide) ?_
    refine bb_isub dX2_advance_45 ?_
    refine bb_istore_n (L' := [.ref x0, .int x1, .int (t41 - 1), .null, .null]) dX2_advance_46 (by decide) rfl rfl ?_
    refine bb_fewer (L' := [.ref x0, .int x1, .int (t41 - 1), .null, .null]) (And.intro rfl (And.intro rfl (And.intro rfl trivial))) ?_
    exact j_X2_advance_47 _ _ _ _ _ hf
  rw [if_neg c35] at hf
  refine bb_iconst (v := 0) dX2_advance_38 (by decide) ?_
  obtain rfl := Option.some.inj hf
  exact bb_zret rfl (by decide) rfl dX2_advance_39
set_option maxRecDepth 100000 in
set_option maxHeartbeats 4000000 in
theorem j_X2_advance_7 {r : Int32 × bb_H} : ∀ (n : Nat) (x0 : Nat) (x1 : Int32) (h : bb_H), m_X2_advance_7 n x0 x1 h = some r → bb_J RX2 cX2_advance 5 (some .boolean) rm_X2_advance (some (.int r.1), r.2) 7 [.ref x0, .int x1, .null, .null, .null] [] h := by
  intro n
  induction n with
  | zero =>
    intro x0 x1 h hf
    exact absurd hf (fun z => by cases z)
  | succ n ih =>
    intro x0 x1 h hf
    unfold m_X2_advance_7 at hf
    refine bb_iload_n dX2_advance_7 rfl ?_
    refine bb_if_lt (tgt := 34) dX2_advance_8 (by decide) (fun c8 => ?_) (fun c8 => ?_)
    · rw [if_pos c8] at hf
      refine bb_fewer (L' := [.ref x0, .int x1, .null, .null, .null]) (And.intro rfl (And.intro rfl trivial)) ?_
      exact j_X2_advance_34 _ _ _ hf
    rw [if_neg c8] at hf
    refine bb_aload_n dX2_advance_11 rfl ?_
    obtain ⟨t12, h12, hf⟩ := bb_bind hf
    refine bb_getR fl_X2_9 dX2_advance_12 h12 ?_
    refine bb_iload_n dX2_advance_15 rfl ?_
    obtain ⟨t16, h16, hf⟩ := bb_bind hf
    refine bb_iaload dX2_advance_16 h16 ?_
    refine bb_aload_n dX2_advance_17 rfl ?_
    obtain ⟨t18, h18, hf⟩ := bb_bind hf
    refine bb_getR fl_X2_9 dX2_advance_18 h18 ?_
    refine bb_iload_n dX2_advance_21 rfl ?_
    refine bb_iconst (v := 1) dX2_advance_22 (by decide) ?_
    refine bb_iadd dX2_advance_23 ?_
    obtain ⟨t24, h24, hf⟩ := bb_bind hf
    refine bb_iaload dX2_advance_24 h24 ?_
    refine bb_icmp_le (tgt := 34) dX2_advance_25 (by decide) (fun c25 => ?_) (fun c25 => ?_)
    · rw [if_pos c25] at hf
      refine bb_fewer (L' := [.ref x0, .int x1, .null, .null, .null]) (And.intro rfl (And.intro rfl trivial)) ?_
      exact j_X2_advance_34 _ _ _ hf
    rw [if_neg c25] at hf
    refine bb_iinc (v := x1 + (-1)) (L' := [.ref x0, .int (x1 + (-1)), .null, .null, .null]) dX2_advance_28 rfl rfl (by decide) rfl rfl ?_
    refine bb_goto (tgt := 7) dX2_advance_31 (by decide) ?_
    refine bb_fewer (L' := [.ref x0, .int (x1 + (-1)), .null, .null, .null]) (And.intro rfl (And.intro rfl trivial)) ?_
    exact ih _ _ _ hf
set_option maxRecDepth 100000 in
set_option maxHeartbeats 4000000 in
theorem j_X2_advance_0 {r : Int32 × bb_H} : ∀ (x0 : Nat) (h : bb_H), m_X2_advance x0 h = some r → bb_J RX2 cX2_advance 5 (some .boolean) rm_X2_advance (some (.int r.1), r.2) 0 [.ref x0, .null, .null, .null, .null] [] h := by
  intro x0 h hf
  unfold m_X2_advance at hf
  refine bb_aload_n dX2_advance_0 rfl ?_
  obtain ⟨t1, h1, hf⟩ := bb_bind hf
  refine bb_getI fl_X2_18 dX2_advance_1 h1 ?_
  refine bb_iconst (v := 2) dX2_advance_4 (by decide) ?_
  refine bb_isub dX2_advance_5 ?_
  refine bb_istore_n (L' := [.ref x0, .int (t1 - 2), .null, .null, .null]) dX2_advance_6 (by decide) rfl rfl ?_
  refine bb_fewer (L' := [.ref x0, .int (t1 - 2), .null, .null, .null]) (And.intro rfl (And.intro rfl trivial)) ?_
  exact j_X2_advance_7 _ _ _ _ hf
theorem ok_X2_advance {x0 : Nat} {h : bb_H} {r : Int32 × bb_H} (hf : m_X2_advance x0 h = some r) : bb_Ok yX2_advance cX2_advance 5 (some .boolean) rm_X2_advance [.ref x0] h (some (.int r.1), r.2) :=
  bb_ok (L := [.ref x0, .null, .null, .null, .null]) (by decide) (Nat.le_of_ble_eq_true rfl) rfl (bb_fewer (L' := [.ref x0, .null, .null, .null, .null]) (And.intro rfl trivial) (j_X2_advance_0 _ _ hf))
abbrev rm_X3_takeFrom : Room := { frames := 0, cells := 0, slots := 0, locals := 0 }
set_option maxRecDepth 100000 in
set_option maxHeartbeats 4000000 in
theorem j_X3_takeFrom_42 {r : bb_H} {k10 : Nat → Nat → Int32 → bb_H → Option bb_H} (hk10 : ∀ (x0 : Nat) (x1 : Nat) (x2 : Int32) (h : bb_H), k10 x0 x1 x2 h = some r → bb_J RX3 cX3_takeFrom 4 none rm_X3_takeFrom (none, r) 10 [.ref x0, .ref x1, .int x2, .null] [] h) : ∀ (n : Nat) (x0 : Nat) (x1 : Nat) (x2 : Int32) (x3 : Int32) (h : bb_H), m_X3_takeFrom_42 k10 n x0 x1 x2 x3 h = some r → bb_J RX3 cX3_takeFrom 4 none rm_X3_takeFrom (none, r) 42 [.ref x0, .ref x1, .int x2, .int x3] [] h := by
  intro n
  induction n with
  | zero =>
    intro x0 x1 x2 x3 h hf
    exact absurd hf (fun z => by cases z)
  | succ n ih =>
    intro x0 x1 x2 x3 h hf
    unfold m_X3_takeFrom_42 at hf
    refine bb_iload_n dX3_takeFrom_42 rfl ?_
    refine bb_iconst (v := 3) dX3_takeFrom_43 (by decide) ?_
    refine bb_icmp_ge (tgt := 69) dX3_takeFrom_44 (by decide) (fun c44 => ?_) (fun c44 => ?_)
    · rw [if_pos c44] at hf
      refine bb_iinc (v := x2 + 1) (L' := [.ref x0, .ref x1, .int (x2 + 1), .int x3]) dX3_takeFrom_69 rfl rfl (by decide) rfl rfl ?_
      refine bb_goto (tgt := 10) dX3_takeFrom_72 (by decide) ?_
      refine bb_fewer (L' := [.ref x0, .ref x1, .int (x2 + 1), .null]) (And.intro rfl (And.intro rfl (And.intro rfl trivial))) ?_
      exact hk10 _ _ _ _ hf
    rw [if_neg c44] at hf
    refine bb_aload_n dX3_takeFrom_47 rfl ?_
    obtain ⟨t48, h48, hf⟩ := bb_bind hf
    refine bb_getR fl_X3_21 dX3_takeFrom_48 h48 ?_
    refine bb_iload_n dX3_takeFrom_51 rfl ?_
    obtain ⟨t52, h52, hf⟩ := bb_bind hf
    refine bb_aaload (t0 := 5) (fun _ => rfl) rfl (fun _ _ => rfl) dX3_takeFrom_52 h52 ?_
    refine bb_iload_n dX3_takeFrom_53 rfl ?_
    refine bb_aload_n dX3_takeFrom_54 rfl ?_
    obtain ⟨t55, h55, hf⟩ := bb_bind hf
    refine bb_getR fl_X3_21 dX3_takeFrom_55 h55 ?_
    refine bb_iload_n dX3_takeFrom_58 rfl ?_
    obtain ⟨t59, h59, hf⟩ := bb_bind hf
    refine bb_aaload (t0 := 5) (fun _ => rfl) rfl (fun _ _ => rfl) dX3_takeFrom_59 h59 ?_
    refine bb_iload_n dX3_takeFrom_60 rfl ?_
    obtain ⟨t61, h61, hf⟩ := bb_bind hf
    refine bb_iaload dX3_takeFrom_61 h61 ?_
    obtain ⟨g62, h62, hf⟩ := bb_bind hf
    refine bb_iastore dX3_takeFrom_62 h62 ?_
    refine bb_iinc (v := x3 + 1) (L' := [.ref x0, .ref x1, .int x2, .int (x3 + 1)]) dX3_takeFrom_63 rfl rfl (by decide) rfl rfl ?_
    refine bb_goto (tgt := 42) dX3_takeFrom_66 (by decide) ?_
    refine bb_fewer (L' := [.ref x0, .ref x1, .int x2, .int (x3 + 1)]) (And.intro rfl (And.intro rfl (And.intro rfl (And.intro rfl trivial)))) ?_
    exact ih _ _ _ _ _ hf
set_option maxRecDepth 100000 in
set_option maxHeartbeats 4000000 in
theorem j_X3_takeFrom_10 {r : bb_H} : ∀ (n : Nat) (x0 : Nat) (x1 : Nat) (x2 : Int32) (h : bb_H), m_X3_takeFrom_10 n x0 x1 x2 h = some r → bb_J RX3 cX3_takeFrom 4 none rm_X3_takeFrom (none, r) 10 [.ref x0, .ref x1, .int x2, .null] [] h := by
  intro n
  induction n with
  | zero =>
    intro x0 x1 x2 h hf
    exact absurd hf (fun z => by cases z)
  | succ n ih =>
    intro x0 x1 x2 h hf
    unfold m_X3_takeFrom_10 at hf
    refine bb_iload_n dX3_takeFrom_10 rfl ?_
    refine bb_bipush (v := 6) dX3_takeFrom_11 (by decide) ?_
    refine bb_icmp_ge (tgt := 75) dX3_takeFrom_13 (by decide) (fun c13 => ?_) (fun c13 => ?_)
    · rw [if_pos c13] at hf
      obtain rfl := Option.some.inj hf
      exact bb_vret rfl rfl dX3_takeFrom_75
    rw [if_neg c13] at hf
    refine bb_aload_n dX3_takeFrom_16 rfl ?_
    obtain ⟨t17, h17, hf⟩ := bb_bind hf
    refine bb_getR fl_X3_15 dX3_takeFrom_17 h17 ?_
    refine bb_iload_n dX3_takeFrom_20 rfl ?_
    refine bb_aload_n dX3_takeFrom_21 rfl ?_
    obtain ⟨t22, h22, hf⟩ := bb_bind hf
    refine bb_getR fl_X3_15 dX3_takeFrom_22 h22 ?_
    refine bb_iload_n dX3_takeFrom_25 rfl ?_
    obtain ⟨t26, h26, hf⟩ := bb_bind hf
    refine bb_iaload dX3_takeFrom_26 h26 ?_
    obtain ⟨g27, h27, hf⟩ := bb_bind hf
    refine bb_iastore dX3_takeFrom_27 h27 ?_
    refine bb_aload_n dX3_takeFrom_28 rfl ?_
    obtain ⟨t29, h29, hf⟩ := bb_bind hf
    refine bb_getR fl_X3_24 dX3_takeFrom_29 h29 ?_
    refine bb_iload_n dX3_takeFrom_32 rfl ?_
    refine bb_aload_n dX3_takeFrom_33 rfl ?_
    obtain ⟨t34, h34, hf⟩ := bb_bind hf
    refine bb_getR fl_X3_24 dX3_takeFrom_34 h34 ?_
    refine bb_iload_n dX3_takeFrom_37 rfl ?_
    obtain ⟨t38, h38, hf⟩ := bb_bind hf
    refine bb_iaload dX3_takeFrom_38 h38 ?_
    obtain ⟨g39, h39, hf⟩ := bb_bind hf
    refine bb_iastore dX3_takeFrom_39 h39 ?_
    refine bb_iconst (v := 0) dX3_takeFrom_40 (by decide) ?_
    refine bb_istore_n (L' := [.ref x0, .ref x1, .int x2, .int 0]) dX3_takeFrom_41 (by decide) rfl rfl ?_
    refine bb_fewer (L' := [.ref x0, .ref x1, .int x2, .int 0]) (And.intro rfl (And.intro rfl (And.intro rfl (And.intro rfl trivial)))) ?_
    exact j_X3_takeFrom_42 ih _ _ _ _ _ _ hf
set_option maxRecDepth 100000 in
set_option maxHeartbeats 4000000 in
theorem j_X3_takeFrom_0 {r : bb_H} : ∀ (x0 : Nat) (x1 : Nat) (h : bb_H), m_X3_takeFrom x0 x1 h = some r → bb_J RX3 cX3_takeFrom 4 none rm_X3_takeFrom (none, r) 0 [.ref x0, .ref x1, .null, .null] [] h := by
  intro x0 x1 h hf
  unfold m_X3_takeFrom at hf
  refine bb_aload_n dX3_takeFrom_0 rfl ?_
  refine bb_aload_n dX3_takeFrom_1 rfl ?_
  obtain ⟨t2, h2, hf⟩ := bb_bind hf
  refine bb_getI fl_X3_9 dX3_takeFrom_2 h2 ?_
  obtain ⟨g5, h5, hf⟩ := bb_bind hf
  refine bb_putI fp_X3_9 dX3_takeFrom_5 h5 ?_
  refine bb_iconst (v := 0) dX3_takeFrom_8 (by decide) ?_
  refine bb_istore_n (L' := [.ref x0, .ref x1, .int 0, .null]) dX3_takeFrom_9 (by decide) rfl rfl ?_
  refine bb_fewer (L' := [.ref x0, .ref x1, .int 0, .null]) (And.intro rfl (And.intro rfl (And.intro rfl trivial))) ?_
  exact j_X3_takeFrom_10 _ _ _ _ _ hf
theorem ok_X3_takeFrom {x0 : Nat} {x1 : Nat} {h : bb_H} {r : bb_H} (hf : m_X3_takeFrom x0 x1 h = some r) : bb_Ok yX3_takeFrom cX3_takeFrom 4 none rm_X3_takeFrom [.ref x0, .ref x1] h (none, r) :=
  bb_ok (L := [.ref x0, .ref x1, .null, .null]) (by decide) (Nat.le_of_ble_eq_true rfl) rfl (bb_fewer (L' := [.ref x0, .ref x1, .null, .null]) (And.intro rfl (And.intro rfl trivial)) (j_X3_takeFrom_0 _ _ _ hf))
abbrev rm_X3_has : Room := { frames := 1, cells := 0, slots := 0, locals := 22 }
set_option maxRecDepth 100000 in
set_option maxHeartbeats 4000000 in
theorem j_X3_has_0 {r : Int32 × bb_H} : ∀ (x0 : Nat) (x1 : Int32) (h : bb_H), m_X3_has x0 x1 h = some r → bb_J RX3 cX3_has 2 (some .boolean) rm_X3_has (some (.int r.1), r.2) 0 [.ref x0, .int x1] [] h := by
  intro x0 x1 h hf
  unfold m_X3_has at hf
  refine bb_iload_n dX3_has_0 rfl ?_
  refine bb_iconst (v := 0) dX3_has_1 (by decide) ?_
  refine bb_aload_n dX3_has_2 rfl ?_
  obtain ⟨t3, h3, hf⟩ := bb_bind hf
  refine bb_getI fl_X3_9 dX3_has_3 h3 ?_
  refine bb_iconst (v := 1) dX3_has_6 (by decide) ?_
  refine bb_isub dX3_has_7 ?_
  obtain ⟨r8, h8, hf⟩ := bb_bind hf
  refine bb_invN (as := [.int x1, .int 0, .int (t3 - 1)]) in_X3_27 (by unfold bb_rr; decide) dX3_has_8 rfl rfl (Nat.le_of_ble_eq_true rfl) (ok_X7_within h8) ?_
  obtain ⟨hn, rfl⟩ := bb_rz_spec hf
  exact bb_zret rfl hn rfl dX3_has_11
theorem ok_X3_has {x0 : Nat} {x1 : Int32} {h : bb_H} {r : Int32 × bb_H} (hf : m_X3_has x0 x1 h = some r) : bb_Ok yX3_has cX3_has 2 (some .boolean) rm_X3_has [.ref x0, .int x1] h (some (.int r.1), r.2) :=
  bb_ok (L := [.ref x0, .int x1]) (by decide) (Nat.le_of_ble_eq_true rfl) rfl (bb_fewer (L' := [.ref x0, .int x1]) (And.intro rfl (And.intro rfl trivial)) (j_X3_has_0 _ _ _ hf))
abbrev rm_X3_isTaken : Room := { frames := 0, cells := 0, slots := 0, locals := 0 }
set_option maxRecDepth 100000 in
set_option maxHeartbeats 4000000 in
theorem j_X3_isTaken_2 {r : Int32 × bb_H} : ∀ (n : Nat) (x0 : Nat) (x1 : Int32) (x2 : Int32) (x3 : Int32) (h : bb_H), m_X3_isTaken_2 n x0 x1 x2 x3 h = some r → bb_J RX3 cX3_isTaken 4 (some .boolean) rm_X3_isTaken (some (.int r.1), r.2) 2 [.ref x0, .int x1, .int x2, .int x3] [] h := by
  intro n
  induction n with
  | zero =>
    intro x0 x1 x2 x3 h hf
    exact absurd hf (fun z => by cases z)
  | succ n ih =>
    intro x0 x1 x2 x3 h hf
    unfold m_X3_isTaken_2 at hf
    refine bb_iload_n dX3_isTaken_2 rfl ?_
    refine bb_aload_n dX3_isTaken_3 rfl ?_
    obtain ⟨t4, h4, hf⟩ := bb_bind hf
    refine bb_getI fl_X3_9 dX3_isTaken_4 h4 ?_
    refine bb_icmp_ge (tgt := 30) dX3_isTaken_7 (by decide) (fun c7 => ?_) (fun c7 => ?_)
    · rw [if_pos c7] at hf
      refine bb_iconst (v := 0) dX3_isTaken_30 (by decide) ?_
      obtain rfl := Option.some.inj hf
      exact bb_zret rfl (by decide) rfl dX3_isTaken_31
    rw [if_neg c7] at hf
    refine bb_aload_n dX3_isTaken_10 rfl ?_
    obtain ⟨t11, h11, hf⟩ := bb_bind hf
    refine bb_getR fl_X3_21 dX3_isTaken_11 h11 ?_
    refine bb_iload_n dX3_isTaken_14 rfl ?_
    obtain ⟨t15, h15, hf⟩ := bb_bind hf
    refine bb_aaload (t0 := 5) (fun _ => rfl) rfl (fun _ _ => rfl) dX3_isTaken_15 h15 ?_
    refine bb_iload_n dX3_isTaken_16 rfl ?_
    obtain ⟨t17, h17, hf⟩ := bb_bind hf
    refine bb_iaload dX3_isTaken_17 h17 ?_
    refine bb_iload_n dX3_isTaken_18 rfl ?_
    refine bb_icmp_ne (tgt := 24) dX3_isTaken_19 (by decide) (fun c19 => ?_) (fun c19 => ?_)
    · rw [if_neg c19] at hf
      refine bb_iinc (v := x3 + 1) (L' := [.ref x0, .int x1, .int x2, .int (x3 + 1)]) dX3_isTaken_24 rfl rfl (by decide) rfl rfl ?_
      refine bb_goto (tgt := 2) dX3_isTaken_27 (by decide) ?_
      refine bb_fewer (L' := [.ref x0, .int x1, .int x2, .int (x3 + 1)]) (And.intro rfl (And.intro rfl (And.intro rfl (And.intro rfl trivial)))) ?_
      exact ih _ _ _ _ _ hf
    rw [if_pos c19] at hf
    refine bb_iconst (v := 1) dX3_isTaken_22 (by decide) ?_
    obtain rfl := Option.some.inj hf
    exact bb_zret rfl (by decide) rfl dX3_isTaken_23
set_option maxRecDepth 100000 in
set_option maxHeartbeats 4000000 in
theorem j_X3_isTaken_0 {r : Int32 × bb_H} : ∀ (x0 : Nat) (x1 : Int32) (x2 : Int32) (h : bb_H), m_X3_isTaken x0 x1 x2 h = some r → bb_J RX3 cX3_isTaken 4 (some .boolean) rm_X3_isTaken (some (.int r.1), r.2) 0 [.ref x0, .int x1, .int x2, .null] [] h := by
  intro x0 x1 x2 h hf
  unfold m_X3_isTaken at hf
  refine bb_iconst (v := 0) dX3_isTaken_0 (by decide) ?_
  refine bb_istore_n (L' := [.ref x0, .int x1, .int x2, .int 0]) dX3_isTaken_1 (by decide) rfl rfl ?_
  refine bb_fewer (L' := [.ref x0, .int x1, .int x2, .int 0]) (And.intro rfl (And.intro rfl (And.intro rfl (And.intro rfl trivial)))) ?_
  exact j_X3_isTaken_2 _ _ _ _ _ _ hf
theorem ok_X3_isTaken {x0 : Nat} {x1 : Int32} {x2 : Int32} {h : bb_H} {r : Int32 × bb_H} (hf : m_X3_isTaken x0 x1 x2 h = some r) : bb_Ok yX3_isTaken cX3_isTaken 4 (some .boolean) rm_X3_isTaken [.ref x0, .int x1, .int x2] h (some (.int r.1), r.2) :=
  bb_ok (L := [.ref x0, .int x1, .int x2, .null]) (by decide) (Nat.le_of_ble_eq_true rfl) rfl (bb_fewer (L' := [.ref x0, .int x1, .int x2, .null]) (And.intro rfl (And.intro rfl (And.intro rfl trivial))) (j_X3_isTaken_0 _ _ _ _ hf))
abbrev rm_X3_isTakenAtAnyHour : Room := { frames := 1, cells := 0, slots := 0, locals := 23 }
set_option maxRecDepth 100000 in
set_option maxHeartbeats 4000000 in
theorem j_X3_isTakenAtAnyHour_2 {r : Int32 × bb_H} : ∀ (n : Nat) (x0 : Nat) (x1 : Int32) (x2 : Int32) (h : bb_H), m_X3_isTakenAtAnyHour_2 n x0 x1 x2 h = some r → bb_J RX3 cX3_isTakenAtAnyHour 3 (some .boolean) rm_X3_isTakenAtAnyHour (some (.int r.1), r.2) 2 [.ref x0, .int x1, .int x2] [] h := by
  intro n
  induction n with
  | zero =>
    intro x0 x1 x2 h hf
    exact absurd hf (fun z => by cases z)
  | succ n ih =>
    intro x0 x1 x2 h hf
    unfold m_X3_isTakenAtAnyHour_2 at hf
    refine bb_iload_n dX3_isTakenAtAnyHour_2 rfl ?_
    refine bb_iconst (v := 3) dX3_isTakenAtAnyHour_3 (by decide) ?_
    refine bb_icmp_ge (tgt := 24) dX3_isTakenAtAnyHour_4 (by decide) (fun c4 => ?_) (fun c4 => ?_)
    · rw [if_pos c4] at hf
      refine bb_iconst (v := 0) dX3_isTakenAtAnyHour_24 (by decide) ?_
      obtain rfl := Option.some.inj hf
      exact bb_zret rfl (by decide) rfl dX3_isTakenAtAnyHour_25
    rw [if_neg c4] at hf
    refine bb_aload_n dX3_isTakenAtAnyHour_7 rfl ?_
    refine bb_iload_n dX3_isTakenAtAnyHour_8 rfl ?_
    refine bb_iload_n dX3_isTakenAtAnyHour_9 rfl ?_
    obtain ⟨r10, h10, hf⟩ := bb_bind hf
    obtain ⟨⟨v10, b10⟩, h10⟩ := bb_rcv_spec h10
    refine bb_invV (ci := 3) (as := [.int x2, .int x1]) iv_X3_31 (by unfold bb_rr; decide) rfl dX3_isTakenAtAnyHour_10 rfl rfl b10 (Nat.le_of_ble_eq_true rfl) (ok_X3_isTaken h10) ?_
    refine bb_if_eq (tgt := 18) dX3_isTakenAtAnyHour_13 (by decide) (fun c13 => ?_) (fun c13 => ?_)
    · rw [if_pos c13] at hf
      refine bb_iinc (v := x2 + 1) (L' := [.ref x0, .int x1, .int (x2 + 1)]) dX3_isTakenAtAnyHour_18 rfl rfl (by decide) rfl rfl ?_
      refine bb_goto (tgt := 2) dX3_isTakenAtAnyHour_21 (by decide) ?_
      refine bb_fewer (L' := [.ref x0, .int x1, .int (x2 + 1)]) (And.intro rfl (And.intro rfl (And.intro rfl trivial))) ?_
      exact ih _ _ _ _ hf
    rw [if_neg c13] at hf
    refine bb_iconst (v := 1) dX3_isTakenAtAnyHour_16 (by decide) ?_
    obtain rfl := Option.some.inj hf
    exact bb_zret rfl (by decide) rfl dX3_isTakenAtAnyHour_17
set_option maxRecDepth 100000 in
set_option maxHeartbeats 4000000 in
theorem j_X3_isTakenAtAnyHour_0 {r : Int32 × bb_H} : ∀ (x0 : Nat) (x1 : Int32) (h : bb_H), m_X3_isTakenAtAnyHour x0 x1 h = some r → bb_J RX3 cX3_isTakenAtAnyHour 3 (some .boolean) rm_X3_isTakenAtAnyHour (some (.int r.1), r.2) 0 [.ref x0, .int x1, .null] [] h := by
  intro x0 x1 h hf
  unfold m_X3_isTakenAtAnyHour at hf
  refine bb_iconst (v := 0) dX3_isTakenAtAnyHour_0 (by decide) ?_
  refine bb_istore_n (L' := [.ref x0, .int x1, .int 0]) dX3_isTakenAtAnyHour_1 (by decide) rfl rfl ?_
  refine bb_fewer (L' := [.ref x0, .int x1, .int 0]) (And.intro rfl (And.intro rfl (And.intro rfl trivial))) ?_
  exact j_X3_isTakenAtAnyHour_2 _ _ _ _ _ hf
theorem ok_X3_isTakenAtAnyHour {x0 : Nat} {x1 : Int32} {h : bb_H} {r : Int32 × bb_H} (hf : m_X3_isTakenAtAnyHour x0 x1 h = some r) : bb_Ok yX3_isTakenAtAnyHour cX3_isTakenAtAnyHour 3 (some .boolean) rm_X3_isTakenAtAnyHour [.ref x0, .int x1] h (some (.int r.1), r.2) :=
  bb_ok (L := [.ref x0, .int x1, .null]) (by decide) (Nat.le_of_ble_eq_true rfl) rfl (bb_fewer (L' := [.ref x0, .int x1, .null]) (And.intro rfl (And.intro rfl trivial)) (j_X3_isTakenAtAnyHour_0 _ _ _ hf))
abbrev rm_X3_placeNext : Room := { frames := 0, cells := 0, slots := 0, locals := 0 }
set_option maxRecDepth 100000 in
set_option maxHeartbeats 4000000 in
theorem j_X3_placeNext_21 {r : bb_H} : ∀ (h : bb_H), m_X3_placeNext_21 h = some r → bb_J RX3 cX3_placeNext 3 none rm_X3_placeNext (none, r) 21 [.null, .null, .null] [] h := by
  intro h hf
  unfold m_X3_placeNext_21 at hf
  obtain rfl := Option.some.inj hf
  exact bb_vret rfl rfl dX3_placeNext_21
set_option maxRecDepth 100000 in
set_option maxHeartbeats 4000000 in
theorem j_X3_placeNext_0 {r : bb_H} : ∀ (x0 : Nat) (x1 : Int32) (x2 : Int32) (h : bb_H), m_X3_placeNext x0 x1 x2 h = some r → bb_J RX3 cX3_placeNext 3 none rm_X3_placeNext (none, r) 0 [.ref x0, .int x1, .int x2] [] h := by
  intro x0 x1 x2 h hf
  unfold m_X3_placeNext at hf
  refine bb_aload_n dX3_placeNext_0 rfl ?_
  obtain ⟨t1, h1, hf⟩ := bb_bind hf
  refine bb_getI fl_X3_9 dX3_placeNext_1 h1 ?_
  refine bb_bipush (v := 6) dX3_placeNext_4 (by decide) ?_
  refine bb_icmp_ge (tgt := 21) dX3_placeNext_6 (by decide) (fun c6 => ?_) (fun c6 => ?_)
  · rw [if_pos c6] at hf
    refine bb_fewer (L' := [.null, .null, .null]) trivial ?_
    exact j_X3_placeNext_21 _ hf
  rw [if_neg c6] at hf
  refine bb_aload_n dX3_placeNext_9 rfl ?_
  obtain ⟨t10, h10, hf⟩ := bb_bind hf
  refine bb_getR fl_X3_21 dX3_placeNext_10 h10 ?_
  refine bb_iload_n dX3_placeNext_13 rfl ?_
  obtain ⟨t14, h14, hf⟩ := bb_bind hf
  refine bb_aaload (t0 := 5) (fun _ => rfl) rfl (fun _ _ => rfl) dX3_placeNext_14 h14 ?_
  refine bb_aload_n dX3_placeNext_15 rfl ?_
  obtain ⟨t16, h16, hf⟩ := bb_bind hf
  refine bb_getI fl_X3_9 dX3_placeNext_16 h16 ?_
  refine bb_iload_n dX3_placeNext_19 rfl ?_
  obtain ⟨g20, h20, hf⟩ := bb_bind hf
  refine bb_iastore dX3_placeNext_20 h20 ?_
  refine bb_fewer (L' := [.null, .null, .null]) trivial ?_
  exact j_X3_placeNext_21 _ hf
theorem ok_X3_placeNext {x0 : Nat} {x1 : Int32} {x2 : Int32} {h : bb_H} {r : bb_H} (hf : m_X3_placeNext x0 x1 x2 h = some r) : bb_Ok yX3_placeNext cX3_placeNext 3 none rm_X3_placeNext [.ref x0, .int x1, .int x2] h (none, r) :=
  bb_ok (L := [.ref x0, .int x1, .int x2]) (by decide) (Nat.le_of_ble_eq_true rfl) rfl (bb_fewer (L' := [.ref x0, .int x1, .int x2]) (And.intro rfl (And.intro rfl (And.intro rfl trivial))) (j_X3_placeNext_0 _ _ _ _ hf))
abbrev rm_X3_placeNextByNumber : Room := { frames := 1, cells := 0, slots := 0, locals := 22 }
set_option maxRecDepth 100000 in
set_option maxHeartbeats 4000000 in
theorem j_X3_placeNextByNumber_2 {r : bb_H} : ∀ (n : Nat) (x0 : Nat) (x1 : Int32) (h : bb_H), m_X3_placeNextByNumber_2 n x0 x1 h = some r → bb_J RX3 cX3_placeNextByNumber 2 none rm_X3_placeNextByNumber (none, r) 2 [.ref x0, .int x1] [] h := by
  intro n
  induction n with
  | zero =>
    intro x0 x1 h hf
    exact absurd hf (fun z => by cases z)
  | succ n ih =>
    intro x0 x1 h hf
    unfold m_X3_placeNextByNumber_2 at hf
    refine bb_iload_n dX3_placeNextByNumber_2 rfl ?_
    refine bb_iconst (v := 3) dX3_placeNextByNumber_3 (by decide) ?_
    refine bb_icmp_ge (tgt := 22) dX3_placeNextByNumber_4 (by decide) (fun c4 => ?_) (fun c4 => ?_)
    · rw [if_pos c4] at hf
      obtain rfl := Option.some.inj hf
      exact bb_vret rfl rfl dX3_placeNextByNumber_22
    rw [if_neg c4] at hf
    refine bb_aload_n dX3_placeNextByNumber_7 rfl ?_
    refine bb_iload_n dX3_placeNextByNumber_8 rfl ?_
    refine bb_aload_n dX3_placeNextByNumber_9 rfl ?_
    obtain ⟨t10, h10, hf⟩ := bb_bind hf
    refine bb_getI fl_X3_9 dX3_placeNextByNumber_10 h10 ?_
    obtain ⟨g13, h13, hf⟩ := bb_bind hf
    obtain ⟨⟨v13, b13⟩, h13⟩ := bb_rcv_spec h13
    refine bb_invV (ci := 3) (as := [.int x1, .int t10]) iv_X3_35 (by unfold bb_rr; decide) rfl dX3_placeNextByNumber_13 rfl rfl b13 (Nat.le_of_ble_eq_true rfl) (ok_X3_placeNext h13) ?_
    refine bb_iinc (v := x1 + 1) (L' := [.ref x0, .int (x1 + 1)]) dX3_placeNextByNumber_16 rfl rfl (by decide) rfl rfl ?_
    refine bb_goto (tgt := 2) dX3_placeNextByNumber_19 (by decide) ?_
    refine bb_fewer (L' := [.ref x0, .int (x1 + 1)]) (And.intro rfl (And.intro rfl trivial)) ?_
    exact ih _ _ _ hf
set_option maxRecDepth 100000 in
set_option maxHeartbeats 4000000 in
theorem j_X3_placeNextByNumber_0 {r : bb_H} : ∀ (x0 : Nat) (h : bb_H), m_X3_placeNextByNumber x0 h = some r → bb_J RX3 cX3_placeNextByNumber 2 none rm_X3_placeNextByNumber (none, r) 0 [.ref x0, .null] [] h := by
  intro x0 h hf
  unfold m_X3_placeNextByNumber at hf
  refine bb_iconst (v := 0) dX3_placeNextByNumber_0 (by decide) ?_
  refine bb_istore_n (L' := [.ref x0, .int 0]) dX3_placeNextByNumber_1 (by decide) rfl rfl ?_
  refine bb_fewer (L' := [.ref x0, .int 0]) (And.intro rfl (And.intro rfl trivial)) ?_
  exact j_X3_placeNextByNumber_2 _ _ _ _ hf
theorem ok_X3_placeNextByNumber {x0 : Nat} {h : bb_H} {r : bb_H} (hf : m_X3_placeNextByNumber x0 h = some r) : bb_Ok yX3_placeNextByNumber cX3_placeNextByNumber 2 none rm_X3_placeNextByNumber [.ref x0] h (none, r) :=
  bb_ok (L := [.ref x0, .null]) (by decide) (Nat.le_of_ble_eq_true rfl) rfl (bb_fewer (L' := [.ref x0, .null]) (And.intro rfl trivial) (j_X3_placeNextByNumber_0 _ _ hf))
abbrev rm_X3_adm : Room := { frames := 0, cells := 0, slots := 0, locals := 0 }
set_option maxRecDepth 100000 in
set_option maxHeartbeats 4000000 in
theorem j_X3_adm_29 {r : bb_H} : ∀ (h : bb_H), m_X3_adm_29 h = some r → bb_J RX3 cX3_adm 2 none rm_X3_adm (none, r) 29 [.null, .null] [] h := by
  intro h hf
  unfold m_X3_adm_29 at hf
  obtain rfl := Option.some.inj hf
  exact bb_vret rfl rfl dX3_adm_29
set_option maxRecDepth 100000 in
set_option maxHeartbeats 4000000 in
theorem j_X3_adm_0 {r : bb_H} : ∀ (x0 : Nat) (x1 : Int32) (h : bb_H), m_X3_adm x0 x1 h = some r → bb_J RX3 cX3_adm 2 none rm_X3_adm (none, r) 0 [.ref x0, .int x1] [] h := by
  intro x0 x1 h hf
  unfold m_X3_adm at hf
  refine bb_aload_n dX3_adm_0 rfl ?_
  obtain ⟨t1, h1, hf⟩ := bb_bind hf
  refine bb_getI fl_X3_9 dX3_adm_1 h1 ?_
  refine bb_bipush (v := 6) dX3_adm_4 (by decide) ?_
  refine bb_icmp_ge (tgt := 29) dX3_adm_6 (by decide) (fun c6 => ?_) (fun c6 => ?_)
  · rw [if_pos c6] at hf
    refine bb_fewer (L' := [.null, .null]) trivial ?_
    exact j_X3_adm_29 _ hf
  rw [if_neg c6] at hf
  refine bb_aload_n dX3_adm_9 rfl ?_
  obtain ⟨t10, h10, hf⟩ := bb_bind hf
  refine bb_getR fl_X3_15 dX3_adm_10 h10 ?_
  refine bb_aload_n dX3_adm_13 rfl ?_
  obtain ⟨t14, h14, hf⟩ := bb_bind hf
  refine bb_getI fl_X3_9 dX3_adm_14 h14 ?_
  refine bb_iload_n dX3_adm_17 rfl ?_
  obtain ⟨g18, h18, hf⟩ := bb_bind hf
  refine bb_iastore dX3_adm_18 h18 ?_
  refine bb_aload_n dX3_adm_19 rfl ?_
  refine bb_dup dX3_adm_20 rfl ?_
  obtain ⟨t21, h21, hf⟩ := bb_bind hf
  refine bb_getI fl_X3_9 dX3_adm_21 h21 ?_
  refine bb_iconst (v := 1) dX3_adm_24 (by decide) ?_
  refine bb_iadd dX3_adm_25 ?_
  obtain ⟨g26, h26, hf⟩ := bb_bind hf
  refine bb_putI fp_X3_9 dX3_adm_26 h26 ?_
  refine bb_fewer (L' := [.null, .null]) trivial ?_
  exact j_X3_adm_29 _ hf
theorem ok_X3_adm {x0 : Nat} {x1 : Int32} {h : bb_H} {r : bb_H} (hf : m_X3_adm x0 x1 h = some r) : bb_Ok yX3_adm cX3_adm 2 none rm_X3_adm [.ref x0, .int x1] h (none, r) :=
  bb_ok (L := [.ref x0, .int x1]) (by decide) (Nat.le_of_ble_eq_true rfl) rfl (bb_fewer (L' := [.ref x0, .int x1]) (And.intro rfl (And.intro rfl trivial)) (j_X3_adm_0 _ _ _ hf))
abbrev rm_X3_isNobodyBetween : Room := { frames := 1, cells := 0, slots := 0, locals := 21 }
set_option maxRecDepth 100000 in
set_option maxHeartbeats 4000000 in
theorem j_X3_isNobodyBetween_46 {r : Int32 × bb_H} {k17 : Nat → Nat → Int32 → Int32 → Int32 → bb_H → Option (Int32 × bb_H)} (hk17 : ∀ (x0 : Nat) (x1 : Nat) (x4 : Int32) (x5 : Int32) (x6 : Int32) (h : bb_H), k17 x0 x1 x4 x5 x6 h = some r → bb_J RX3 cX3_isNobodyBetween 7 (some .boolean) rm_X3_isNobodyBetween (some (.int r.1), r.2) 17 [.ref x0, .ref x1, .null, .null, .int x4, .int x5, .int x6] [] h) : ∀ (x0 : Nat) (x1 : Nat) (x4 : Int32) (x5 : Int32) (x6 : Int32) (h : bb_H), m_X3_isNobodyBetween_46 k17 x0 x1 x4 x5 x6 h = some r → bb_J RX3 cX3_isNobodyBetween 7 (some .boolean) rm_X3_isNobodyBetween (some (.int r.1), r.2) 46 [.ref x0, .ref x1, .null, .null, .int x4, .int x5, .int x6] [] h := by
  intro x0 x1 x4 x5 x6 h hf
  unfold m_X3_isNobodyBetween_46 at hf
  refine bb_iinc (v := x6 + 1) (L' := [.ref x0, .ref x1, .null, .null, .int x4, .int x5, .int (x6 + 1)]) dX3_isNobodyBetween_46 rfl rfl (by decide) rfl rfl ?_
  refine bb_goto (tgt := 17) dX3_isNobodyBetween_49 (by decide) ?_
  refine bb_fewer (L' := [.ref x0, .ref x1, .null, .null, .int x4, .int x5, .int (x6 + 1)]) (And.intro rfl (And.intro rfl (And.intro rfl (And.intro rfl (And.intro rfl trivial))))) ?_
  exact hk17 _ _ _ _ _ _ hf
set_option maxRecDepth 100000 in
set_option maxHeartbeats 4000000 in
theorem j_X3_isNobodyBetween_17 {r : Int32 × bb_H} : ∀ (n : Nat) (x0 : Nat) (x1 : Nat) (x4 : Int32) (x5 : Int32) (x6 : Int32) (h : bb_H), m_X3_isNobodyBetween_17 n x0 x1 x4 x5 x6 h = some r → bb_J RX3 cX3_isNobodyBetween 7 (some .boolean) rm_X3_isNobodyBetween (some (.int r.1), r.2) 17 [.ref x0, .ref x1, .null, .null, .int x4, .int x5, .int x6] [] h := by
  intro n
  induction n with
  | zero =>
    intro x0 x1 x4 x5 x6 h hf
    exact absurd hf (fun z => by cases z)
  | succ n ih =>
    intro x0 x1 x4 x5 x6 h hf
    unfold m_X3_isNobodyBetween_17 at hf
    refine bb_iload dX3_isNobodyBetween_17 rfl ?_
    refine bb_aload_n dX3_isNobodyBetween_19 rfl ?_
    obtain ⟨t20, h20, hf⟩ := bb_bind hf
    refine bb_getI fl_X3_9 dX3_isNobodyBetween_20 h20 ?_
    refine bb_icmp_ge (tgt := 52) dX3_isNobodyBetween_23 (by decide) (fun c23 => ?_) (fun c23 => ?_)
    · rw [if_pos c23] at hf
      refine bb_iconst (v := 1) dX3_isNobodyBetween_52 (by decide) ?_
      obtain rfl := Option.some.inj hf
      exact bb_zret rfl (by decide) rfl dX3_isNobodyBetween_53
    rw [if_neg c23] at hf
    refine bb_aload_n dX3_isNobodyBetween_26 rfl ?_
    refine bb_iload dX3_isNobodyBetween_27 rfl ?_
    obtain ⟨t29, h29, hf⟩ := bb_bind hf
    refine bb_iaload dX3_isNobodyBetween_29 h29 ?_
    refine bb_iload dX3_isNobodyBetween_30 rfl ?_
    refine bb_icmp_le (tgt := 46) dX3_isNobodyBetween_32 (by decide) (fun c32 => ?_) (fun c32 => ?_)
    · rw [if_pos c32] at hf
      refine bb_fewer (L' := [.ref x0, .ref x1, .null, .null, .int x4, .int x5, .int x6]) (And.intro rfl (And.intro rfl (And.intro rfl (And.intro rfl (And.intro rfl trivial))))) ?_
      exact j_X3_isNobodyBetween_46 ih _ _ _ _ _ _ hf
    rw [if_neg c32] at hf
    refine bb_aload_n dX3_isNobodyBetween_35 rfl ?_
    refine bb_iload dX3_isNobodyBetween_36 rfl ?_
    obtain ⟨t38, h38, hf⟩ := bb_bind hf
    refine bb_iaload dX3_isNobodyBetween_38 h38 ?_
    refine bb_iload dX3_isNobodyBetween_39 rfl ?_
    refine bb_icmp_ge (tgt := 46) dX3_isNobodyBetween_41 (by decide) (fun c41 => ?_) (fun c41 => ?_)
    · rw [if_pos c41] at hf
      refine bb_fewer (L' := [.ref x0, .ref x1, .null, .null, .int x4, .int x5, .int x6]) (And.intro rfl (And.intro rfl (And.intro rfl (And.intro rfl (And.intro rfl trivial))))) ?_
      exact j_X3_isNobodyBetween_46 ih _ _ _ _ _ _ hf
    rw [if_neg c41] at hf
    refine bb_iconst (v := 0) dX3_isNobodyBetween_44 (by decide) ?_
    obtain rfl := Option.some.inj hf
    exact bb_zret rfl (by decide) rfl dX3_isNobodyBetween_45
set_option maxRecDepth 100000 in
set_option maxHeartbeats 4000000 in
theorem j_X3_isNobodyBetween_0 {r : Int32 × bb_H} : ∀ (x0 : Nat) (x1 : Nat) (x2 : Int32) (x3 : Int32) (h : bb_H), m_X3_isNobodyBetween x0 x1 x2 x3 h = some r → bb_J RX3 cX3_isNobodyBetween 7 (some .boolean) rm_X3_isNobodyBetween (some (.int r.1), r.2) 0 [.ref x0, .ref x1, .int x2, .int x3, .null, .null, .null] [] h := by
  intro x0 x1 x2 x3 h hf
  unfold m_X3_isNobodyBetween at hf
  refine bb_iload_n dX3_isNobodyBetween_0 rfl ?_
  refine bb_iload_n dX3_isNobodyBetween_1 rfl ?_
  refine bb_mmin imin_X3_46 (by decide) (by decide) (Nat.le_of_ble_eq_true rfl) dX3_isNobodyBetween_2 ?_
  refine bb_istore (L' := [.ref x0, .ref x1, .int x2, .int x3, .int (bb_min x2 x3), .null, .null]) dX3_isNobodyBetween_5 (by decide) rfl rfl ?_
  refine bb_iload_n dX3_isNobodyBetween_7 rfl ?_
  refine bb_iload_n dX3_isNobodyBetween_8 rfl ?_
  refine bb_mmax imax_X3_52 (by decide) (by decide) (Nat.le_of_ble_eq_true rfl) dX3_isNobodyBetween_9 ?_
  refine bb_istore (L' := [.ref x0, .ref x1, .int x2, .int x3, .int (bb_min x2 x3), .int (bb_max x2 x3), .null]) dX3_isNobodyBetween_12 (by decide) rfl rfl ?_
  refine bb_iconst (v := 0) dX3_isNobodyBetween_14 (by decide) ?_
  refine bb_istore (L' := [.ref x0, .ref x1, .int x2, .int x3, .int (bb_min x2 x3), .int (bb_max x2 x3), .int 0]) dX3_isNobodyBetween_15 (by decide) rfl rfl ?_
  refine bb_fewer (L' := [.ref x0, .ref x1, .null, .null, .int (bb_min x2 x3), .int (bb_max x2 x3), .int 0]) (And.intro rfl (And.intro rfl (And.intro rfl (And.intro rfl (And.intro rfl trivial))))) ?_
  exact j_X3_isNobodyBetween_17 _ _ _ _ _ _ _ hf
theorem ok_X3_isNobodyBetween {x0 : Nat} {x1 : Nat} {x2 : Int32} {x3 : Int32} {h : bb_H} {r : Int32 × bb_H} (hf : m_X3_isNobodyBetween x0 x1 x2 x3 h = some r) : bb_Ok yX3_isNobodyBetween cX3_isNobodyBetween 7 (some .boolean) rm_X3_isNobodyBetween [.ref x0, .ref x1, .int x2, .int x3] h (some (.int r.1), r.2) :=
  bb_ok (L := [.ref x0, .ref x1, .int x2, .int x3, .null, .null, .null]) (by decide) (Nat.le_of_ble_eq_true rfl) rfl (bb_fewer (L' := [.ref x0, .ref x1, .int x2, .int x3, .null, .null, .null]) (And.intro rfl (And.intro rfl (And.intro rfl (And.intro rfl trivial)))) (j_X3_isNobodyBetween_0 _ _ _ _ _ hf))
abbrev rm_X3_wereTogether : Room := { frames := 2, cells := 0, slots := 0, locals := 47 }
set_option maxRecDepth 100000 in
set_option maxHeartbeats 4000000 in
theorem j_X3_wereTogether_2 {r : Int32 × bb_H} : ∀ (n : Nat) (x0 : Nat) (x1 : Int32) (x2 : Int32) (x3 : Int32) (h : bb_H), m_X3_wereTogether_2 n x0 x1 x2 x3 h = some r → bb_J RX3 cX3_wereTogether 4 (some .boolean) rm_X3_wereTogether (some (.int r.1), r.2) 2 [.ref x0, .int x1, .int x2, .int x3] [] h := by
  intro n
  induction n with
  | zero =>
    intro x0 x1 x2 x3 h hf
    exact absurd hf (fun z => by cases z)
  | succ n ih =>
    intro x0 x1 x2 x3 h hf
    unfold m_X3_wereTogether_2 at hf
    refine bb_iload_n dX3_wereTogether_2 rfl ?_
    refine bb_iconst (v := 3) dX3_wereTogether_3 (by decide) ?_
    refine bb_icmp_ge (tgt := 44) dX3_wereTogether_4 (by decide) (fun c4 => ?_) (fun c4 => ?_)
    · rw [if_pos c4] at hf
      refine bb_iconst (v := 0) dX3_wereTogether_44 (by decide) ?_
      obtain rfl := Option.some.inj hf
      exact bb_zret rfl (by decide) rfl dX3_wereTogether_45
    rw [if_neg c4] at hf
    refine bb_aload_n dX3_wereTogether_7 rfl ?_
    refine bb_aload_n dX3_wereTogether_8 rfl ?_
    obtain ⟨t9, h9, hf⟩ := bb_bind hf
    refine bb_getR fl_X3_21 dX3_wereTogether_9 h9 ?_
    refine bb_iload_n dX3_wereTogether_12 rfl ?_
    obtain ⟨t13, h13, hf⟩ := bb_bind hf
    refine bb_aaload (t0 := 5) (fun _ => rfl) rfl (fun _ _ => rfl) dX3_wereTogether_13 h13 ?_
    refine bb_aload_n dX3_wereTogether_14 rfl ?_
    obtain ⟨t15, h15, hf⟩ := bb_bind hf
    refine bb_getR fl_X3_21 dX3_wereTogether_15 h15 ?_
    refine bb_iload_n dX3_wereTogether_18 rfl ?_
    obtain ⟨t19, h19, hf⟩ := bb_bind hf
    refine bb_aaload (t0 := 5) (fun _ => rfl) rfl (fun _ _ => rfl) dX3_wereTogether_19 h19 ?_
    refine bb_iload_n dX3_wereTogether_20 rfl ?_
    obtain ⟨t21, h21, hf⟩ := bb_bind hf
    refine bb_iaload dX3_wereTogether_21 h21 ?_
    refine bb_aload_n dX3_wereTogether_22 rfl ?_
    obtain ⟨t23, h23, hf⟩ := bb_bind hf
    refine bb_getR fl_X3_21 dX3_wereTogether_23 h23 ?_
    refine bb_iload_n dX3_wereTogether_26 rfl ?_
    obtain ⟨t27, h27, hf⟩ := bb_bind hf
    refine bb_aaload (t0 := 5) (fun _ => rfl) rfl (fun _ _ => rfl) dX3_wereTogether_27 h27 ?_
    refine bb_iload_n dX3_wereTogether_28 rfl ?_
    obtain ⟨t29, h29, hf⟩ := bb_bind hf
    refine bb_iaload dX3_wereTogether_29 h29 ?_
    obtain ⟨r30, h30, hf⟩ := bb_bind hf
    obtain ⟨⟨v30, b30⟩, h30⟩ := bb_rcv_spec h30
    refine bb_invV (ci := 3) (as := [.ref t13, .int t21, .int t29]) iv_X3_42 (by unfold bb_rr; decide) rfl dX3_wereTogether_30 rfl rfl b30 (Nat.le_of_ble_eq_true rfl) (ok_X3_isNobodyBetween h30) ?_
    refine bb_if_eq (tgt := 38) dX3_wereTogether_33 (by decide) (fun c33 => ?_) (fun c33 => ?_)
    · rw [if_pos c33] at hf
      refine bb_iinc (v := x3 + 1) (L' := [.ref x0, .int x1, .int x2, .int (x3 + 1)]) dX3_wereTogether_38 rfl rfl (by decide) rfl rfl ?_
      refine bb_goto (tgt := 2) dX3_wereTogether_41 (by decide) ?_
      refine bb_fewer (L' := [.ref x0, .int x1, .int x2, .int (x3 + 1)]) (And.intro rfl (And.intro rfl (And.intro rfl (And.intro rfl trivial)))) ?_
      exact ih _ _ _ _ _ hf
    rw [if_neg c33] at hf
    refine bb_iconst (v := 1) dX3_wereTogether_36 (by decide) ?_
    obtain rfl := Option.some.inj hf
    exact bb_zret rfl (by decide) rfl dX3_wereTogether_37
set_option maxRecDepth 100000 in
set_option maxHeartbeats 4000000 in
theorem j_X3_wereTogether_0 {r : Int32 × bb_H} : ∀ (x0 : Nat) (x1 : Int32) (x2 : Int32) (h : bb_H), m_X3_wereTogether x0 x1 x2 h = some r → bb_J RX3 cX3_wereTogether 4 (some .boolean) rm_X3_wereTogether (some (.int r.1), r.2) 0 [.ref x0, .int x1, .int x2, .null] [] h := by
  intro x0 x1 x2 h hf
  unfold m_X3_wereTogether at hf
  refine bb_iconst (v := 0) dX3_wereTogether_0 (by decide) ?_
  refine bb_istore_n (L' := [.ref x0, .int x1, .int x2, .int 0]) dX3_wereTogether_1 (by decide) rfl rfl ?_
  refine bb_fewer (L' := [.ref x0, .int x1, .int x2, .int 0]) (And.intro rfl (And.intro rfl (And.intro rfl (And.intro rfl trivial)))) ?_
  exact j_X3_wereTogether_2 _ _ _ _ _ _ hf
theorem ok_X3_wereTogether {x0 : Nat} {x1 : Int32} {x2 : Int32} {h : bb_H} {r : Int32 × bb_H} (hf : m_X3_wereTogether x0 x1 x2 h = some r) : bb_Ok yX3_wereTogether cX3_wereTogether 4 (some .boolean) rm_X3_wereTogether [.ref x0, .int x1, .int x2] h (some (.int r.1), r.2) :=
  bb_ok (L := [.ref x0, .int x1, .int x2, .null]) (by decide) (Nat.le_of_ble_eq_true rfl) rfl (bb_fewer (L' := [.ref x0, .int x1, .int x2, .null]) (And.intro rfl (And.intro rfl (And.intro rfl trivial))) (j_X3_wereTogether_0 _ _ _ _ hf))
abbrev rm_X3_findWhoStoodBy : Room := { frames := 3, cells := 0, slots := 0, locals := 70 }
set_option maxRecDepth 100000 in
set_option maxHeartbeats 4000000 in
theorem j_X3_findWhoStoodBy_53 {r : bb_H} {k2 : Nat → Int32 → bb_H → Option bb_H} {k19 : Nat → Int32 → Int32 → bb_H → Option bb_H} (hk2 : ∀ (x0 : Nat) (x1 : Int32) (h : bb_H), k2 x0 x1 h = some r → bb_J RX3 cX3_findWhoStoodBy 3 none rm_X3_findWhoStoodBy (none, r) 2 [.ref x0, .int x1, .null] [] h) (hk19 : ∀ (x0 : Nat) (x1 : Int32) (x2 : Int32) (h : bb_H), k19 x0 x1 x2 h = some r → bb_J RX3 cX3_findWhoStoodBy 3 none rm_X3_findWhoStoodBy (none, r) 19 [.ref x0, .int x1, .int x2] [] h) : ∀ (x0 : Nat) (x1 : Int32) (x2 : Int32) (h : bb_H), m_X3_findWhoStoodBy_53 k2 k19 x0 x1 x2 h = some r → bb_J RX3 cX3_findWhoStoodBy 3 none rm_X3_findWhoStoodBy (none, r) 53 [.ref x0, .int x1, .int x2] [] h := by
  intro x0 x1 x2 h hf
  unfold m_X3_findWhoStoodBy_53 at hf
  refine bb_iinc (v := x2 + 1) (L' := [.ref x0, .int x1, .int (x2 + 1)]) dX3_findWhoStoodBy_53 rfl rfl (by decide) rfl rfl ?_
  refine bb_goto (tgt := 19) dX3_findWhoStoodBy_56 (by decide) ?_
  refine bb_fewer (L' := [.ref x0, .int x1, .int (x2 + 1)]) (And.intro rfl (And.intro rfl (And.intro rfl trivial))) ?_
  exact hk19 _ _ _ _ hf
set_option maxRecDepth 100000 in
set_option maxHeartbeats 4000000 in
theorem j_X3_findWhoStoodBy_19 {r : bb_H} {k2 : Nat → Int32 → bb_H → Option bb_H} (hk2 : ∀ (x0 : Nat) (x1 : Int32) (h : bb_H), k2 x0 x1 h = some r → bb_J RX3 cX3_findWhoStoodBy 3 none rm_X3_findWhoStoodBy (none, r) 2 [.ref x0, .int x1, .null] [] h) : ∀ (n : Nat) (x0 : Nat) (x1 : Int32) (x2 : Int32) (h : bb_H), m_X3_findWhoStoodBy_19 k2 n x0 x1 x2 h = some r → bb_J RX3 cX3_findWhoStoodBy 3 none rm_X3_findWhoStoodBy (none, r) 19 [.ref x0, .int x1, .int x2] [] h := by
  intro n
  induction n with
  | zero =>
    intro x0 x1 x2 h hf
    exact absurd hf (fun z => by cases z)
  | succ n ih =>
    intro x0 x1 x2 h hf
    unfold m_X3_findWhoStoodBy_19 at hf
    refine bb_iload_n dX3_findWhoStoodBy_19 rfl ?_
    refine bb_aload_n dX3_findWhoStoodBy_20 rfl ?_
    obtain ⟨t21, h21, hf⟩ := bb_bind hf
    refine bb_getI fl_X3_9 dX3_findWhoStoodBy_21 h21 ?_
    refine bb_icmp_ge (tgt := 59) dX3_findWhoStoodBy_24 (by decide) (fun c24 => ?_) (fun c24 => ?_)
    · rw [if_pos c24] at hf
      refine bb_iinc (v := x1 + 1) (L' := [.ref x0, .int (x1 + 1), .int x2]) dX3_findWhoStoodBy_59 rfl rfl (by decide) rfl rfl ?_
      refine bb_goto (tgt := 2) dX3_findWhoStoodBy_62 (by decide) ?_
      refine bb_fewer (L' := [.ref x0, .int (x1 + 1), .null]) (And.intro rfl (And.intro rfl trivial)) ?_
      exact hk2 _ _ _ hf
    rw [if_neg c24] at hf
    refine bb_iload_n dX3_findWhoStoodBy_27 rfl ?_
    refine bb_iload_n dX3_findWhoStoodBy_28 rfl ?_
    refine bb_icmp_eq (tgt := 53) dX3_findWhoStoodBy_29 (by decide) (fun c29 => ?_) (fun c29 => ?_)
    · rw [if_pos c29] at hf
      refine bb_fewer (L' := [.ref x0, .int x1, .int x2]) (And.intro rfl (And.intro rfl (And.intro rfl trivial))) ?_
      exact j_X3_findWhoStoodBy_53 hk2 ih _ _ _ _ hf
    rw [if_neg c29] at hf
    refine bb_aload_n dX3_findWhoStoodBy_32 rfl ?_
    refine bb_iload_n dX3_findWhoStoodBy_33 rfl ?_
    refine bb_iload_n dX3_findWhoStoodBy_34 rfl ?_
    obtain ⟨r35, h35, hf⟩ := bb_bind hf
    obtain ⟨⟨v35, b35⟩, h35⟩ := bb_rcv_spec h35
    refine bb_invV (ci := 3) (as := [.int x1, .int x2]) iv_X3_39 (by unfold bb_rr; decide) rfl dX3_findWhoStoodBy_35 rfl rfl b35 (Nat.le_of_ble_eq_true rfl) (ok_X3_wereTogether h35) ?_
    refine bb_if_eq (tgt := 53) dX3_findWhoStoodBy_38 (by decide) (fun c38 => ?_) (fun c38 => ?_)
    · rw [if_pos c38] at hf
      refine bb_fewer (L' := [.ref x0, .int x1, .int x2]) (And.intro rfl (And.intro rfl (And.intro rfl trivial))) ?_
      exact j_X3_findWhoStoodBy_53 hk2 ih _ _ _ _ hf
    rw [if_neg c38] at hf
    refine bb_aload_n dX3_findWhoStoodBy_41 rfl ?_
    obtain ⟨t42, h42, hf⟩ := bb_bind hf
    refine bb_getR fl_X3_24 dX3_findWhoStoodBy_42 h42 ?_
    refine bb_iload_n dX3_findWhoStoodBy_45 rfl ?_
    refine bb_dup2 dX3_findWhoStoodBy_46 rfl rfl ?_
    obtain ⟨t47, h47, hf⟩ := bb_bind hf
    refine bb_iaload dX3_findWhoStoodBy_47 h47 ?_
    refine bb_iconst (v := 1) dX3_findWhoStoodBy_48 (by decide) ?_
    refine bb_iload_n dX3_findWhoStoodBy_49 rfl ?_
    refine bb_ishl dX3_findWhoStoodBy_50 ?_
    refine bb_ior dX3_findWhoStoodBy_51 ?_
    obtain ⟨g52, h52, hf⟩ := bb_bind hf
    refine bb_iastore dX3_findWhoStoodBy_52 h52 ?_
    refine bb_fewer (L' := [.ref x0, .int x1, .int x2]) (And.intro rfl (And.intro rfl (And.intro rfl trivial))) ?_
    exact j_X3_findWhoStoodBy_53 hk2 ih _ _ _ _ hf
set_option maxRecDepth 100000 in
set_option maxHeartbeats 4000000 in
theorem j_X3_findWhoStoodBy_2 {r : bb_H} : ∀ (n : Nat) (x0 : Nat) (x1 : Int32) (h : bb_H), m_X3_findWhoStoodBy_2 n x0 x1 h = some r → bb_J RX3 cX3_findWhoStoodBy 3 none rm_X3_findWhoStoodBy (none, r) 2 [.ref x0, .int x1, .null] [] h := by
  intro n
  induction n with
  | zero =>
    intro x0 x1 h hf
    exact absurd hf (fun z => by cases z)
  | succ n ih =>
    intro x0 x1 h hf
    unfold m_X3_findWhoStoodBy_2 at hf
    refine bb_iload_n dX3_findWhoStoodBy_2 rfl ?_
    refine bb_aload_n dX3_findWhoStoodBy_3 rfl ?_
    obtain ⟨t4, h4, hf⟩ := bb_bind hf
    refine bb_getI fl_X3_9 dX3_findWhoStoodBy_4 h4 ?_
    refine bb_icmp_ge (tgt := 65) dX3_findWhoStoodBy_7 (by decide) (fun c7 => ?_) (fun c7 => ?_)
    · rw [if_pos c7] at hf
      obtain rfl := Option.some.inj hf
      exact bb_vret rfl rfl dX3_findWhoStoodBy_65
    rw [if_neg c7] at hf
    refine bb_aload_n dX3_findWhoStoodBy_10 rfl ?_
    obtain ⟨t11, h11, hf⟩ := bb_bind hf
    refine bb_getR fl_X3_24 dX3_findWhoStoodBy_11 h11 ?_
    refine bb_iload_n dX3_findWhoStoodBy_14 rfl ?_
    refine bb_iconst (v := 0) dX3_findWhoStoodBy_15 (by decide) ?_
    obtain ⟨g16, h16, hf⟩ := bb_bind hf
    refine bb_iastore dX3_findWhoStoodBy_16 h16 ?_
    refine bb_iconst (v := 0) dX3_findWhoStoodBy_17 (by decide) ?_
    refine bb_istore_n (L' := [.ref x0, .int x1, .int 0]) dX3_findWhoStoodBy_18 (by decide) rfl rfl ?_
    refine bb_fewer (L' := [.ref x0, .int x1, .int 0]) (And.intro rfl (And.intro rfl (And.intro rfl trivial))) ?_
    exact j_X3_findWhoStoodBy_19 ih _ _ _ _ _ hf
set_option maxRecDepth 100000 in
set_option maxHeartbeats 4000000 in
theorem j_X3_findWhoStoodBy_0 {r : bb_H} : ∀ (x0 : Nat) (h : bb_H), m_X3_findWhoStoodBy x0 h = some r → bb_J RX3 cX3_findWhoStoodBy 3 none rm_X3_findWhoStoodBy (none, r) 0 [.ref x0, .null, .null] [] h := by
  intro x0 h hf
  unfold m_X3_findWhoStoodBy at hf
  refine bb_iconst (v := 0) dX3_findWhoStoodBy_0 (by decide) ?_
  refine bb_istore_n (L' := [.ref x0, .int 0, .null]) dX3_findWhoStoodBy_1 (by decide) rfl rfl ?_
  refine bb_fewer (L' := [.ref x0, .int 0, .null]) (And.intro rfl (And.intro rfl trivial)) ?_
  exact j_X3_findWhoStoodBy_2 _ _ _ _ hf
theorem ok_X3_findWhoStoodBy {x0 : Nat} {h : bb_H} {r : bb_H} (hf : m_X3_findWhoStoodBy x0 h = some r) : bb_Ok yX3_findWhoStoodBy cX3_findWhoStoodBy 3 none rm_X3_findWhoStoodBy [.ref x0] h (none, r) :=
  bb_ok (L := [.ref x0, .null, .null]) (by decide) (Nat.le_of_ble_eq_true rfl) rfl (bb_fewer (L' := [.ref x0, .null, .null]) (And.intro rfl trivial) (j_X3_findWhoStoodBy_0 _ _ hf))
abbrev rm_X3_wrongPairs : Room := { frames := 1, cells := 0, slots := 0, locals := 21 }
set_option maxRecDepth 100000 in
set_option maxHeartbeats 4000000 in
theorem j_X3_wrongPairs_35 {r : Int32 × bb_H} {k5 : Nat → Nat → Int32 → Int32 → Int32 → bb_H → Option (Int32 × bb_H)} (hk5 : ∀ (x0 : Nat) (x1 : Nat) (x2 : Int32) (x3 : Int32) (x4 : Int32) (h : bb_H), k5 x0 x1 x2 x3 x4 h = some r → bb_J RX3 cX3_wrongPairs 5 (some .int) rm_X3_wrongPairs (some (.int r.1), r.2) 5 [.ref x0, .ref x1, .int x2, .int x3, .int x4] [] h) : ∀ (x0 : Nat) (x1 : Nat) (x2 : Int32) (x3 : Int32) (x4 : Int32) (h : bb_H), m_X3_wrongPairs_35 k5 x0 x1 x2 x3 x4 h = some r → bb_J RX3 cX3_wrongPairs 5 (some .int) rm_X3_wrongPairs (some (.int r.1), r.2) 35 [.ref x0, .ref x1, .int x2, .int x3, .int x4] [] h := by
  intro x0 x1 x2 x3 x4 h hf
  unfold m_X3_wrongPairs_35 at hf
  refine bb_iinc (v := x4 + 1) (L' := [.ref x0, .ref x1, .int x2, .int x3, .int (x4 + 1)]) dX3_wrongPairs_35 rfl rfl (by decide) rfl rfl ?_
  refine bb_goto (tgt := 5) dX3_wrongPairs_38 (by decide) ?_
  refine bb_fewer (L' := [.ref x0, .ref x1, .int x2, .int x3, .int (x4 + 1)]) (And.intro rfl (And.intro rfl (And.intro rfl (And.intro rfl (And.intro rfl trivial))))) ?_
  exact hk5 _ _ _ _ _ _ hf
set_option maxRecDepth 100000 in
set_option maxHeartbeats 4000000 in
theorem j_X3_wrongPairs_5 {r : Int32 × bb_H} : ∀ (n : Nat) (x0 : Nat) (x1 : Nat) (x2 : Int32) (x3 : Int32) (x4 : Int32) (h : bb_H), m_X3_wrongPairs_5 n x0 x1 x2 x3 x4 h = some r → bb_J RX3 cX3_wrongPairs 5 (some .int) rm_X3_wrongPairs (some (.int r.1), r.2) 5 [.ref x0, .ref x1, .int x2, .int x3, .int x4] [] h := by
  intro n
  induction n with
  | zero =>
    intro x0 x1 x2 x3 x4 h hf
    exact absurd hf (fun z => by cases z)
  | succ n ih =>
    intro x0 x1 x2 x3 x4 h hf
    unfold m_X3_wrongPairs_5 at hf
    refine bb_iload dX3_wrongPairs_5 rfl ?_
    refine bb_iload_n dX3_wrongPairs_7 rfl ?_
    refine bb_icmp_ge (tgt := 41) dX3_wrongPairs_8 (by decide) (fun c8 => ?_) (fun c8 => ?_)
    · rw [if_pos c8] at hf
      refine bb_iload_n dX3_wrongPairs_41 rfl ?_
      obtain rfl := Option.some.inj hf
      exact bb_iret rfl rfl dX3_wrongPairs_42
    rw [if_neg c8] at hf
    refine bb_aload_n dX3_wrongPairs_11 rfl ?_
    obtain ⟨t12, h12, hf⟩ := bb_bind hf
    refine bb_getR fl_X3_24 dX3_wrongPairs_12 h12 ?_
    refine bb_aload_n dX3_wrongPairs_15 rfl ?_
    refine bb_iload dX3_wrongPairs_16 rfl ?_
    refine bb_iconst (v := 1) dX3_wrongPairs_18 (by decide) ?_
    refine bb_isub dX3_wrongPairs_19 ?_
    obtain ⟨t20, h20, hf⟩ := bb_bind hf
    refine bb_iaload dX3_wrongPairs_20 h20 ?_
    obtain ⟨t21, h21, hf⟩ := bb_bind hf
    refine bb_iaload dX3_wrongPairs_21 h21 ?_
    refine bb_aload_n dX3_wrongPairs_22 rfl ?_
    refine bb_iload dX3_wrongPairs_23 rfl ?_
    obtain ⟨t25, h25, hf⟩ := bb_bind hf
    refine bb_iaload dX3_wrongPairs_25 h25 ?_
    obtain ⟨r26, h26, hf⟩ := bb_bind hf
    refine bb_invN (as := [.int t21, .int t25]) in_X3_55 (by unfold bb_rr; decide) dX3_wrongPairs_26 rfl rfl (Nat.le_of_ble_eq_true rfl) (ok_X7_holds h26) ?_
    refine bb_if_ne (tgt := 35) dX3_wrongPairs_29 (by decide) (fun c29 => ?_) (fun c29 => ?_)
    · rw [if_neg c29] at hf
      refine bb_fewer (L' := [.ref x0, .ref x1, .int x2, .int x3, .int x4]) (And.intro rfl (And.intro rfl (And.intro rfl (And.intro rfl (And.intro rfl trivial))))) ?_
      exact j_X3_wrongPairs_35 ih _ _ _ _ _ _ hf
    rw [if_pos c29] at hf
    refine bb_iinc (v := x3 + 1) (L' := [.ref x0, .ref x1, .int x2, .int (x3 + 1), .int x4]) dX3_wrongPairs_32 rfl rfl (by decide) rfl rfl ?_
    refine bb_fewer (L' := [.ref x0, .ref x1, .int x2, .int (x3 + 1), .int x4]) (And.intro rfl (And.intro rfl (And.intro rfl (And.intro rfl (And.intro rfl trivial))))) ?_
    exact j_X3_wrongPairs_35 ih _ _ _ _ _ _ hf
set_option maxRecDepth 100000 in
set_option maxHeartbeats 4000000 in
theorem j_X3_wrongPairs_0 {r : Int32 × bb_H} : ∀ (x0 : Nat) (x1 : Nat) (x2 : Int32) (h : bb_H), m_X3_wrongPairs x0 x1 x2 h = some r → bb_J RX3 cX3_wrongPairs 5 (some .int) rm_X3_wrongPairs (some (.int r.1), r.2) 0 [.ref x0, .ref x1, .int x2, .null, .null] [] h := by
  intro x0 x1 x2 h hf
  unfold m_X3_wrongPairs at hf
  refine bb_iconst (v := 0) dX3_wrongPairs_0 (by decide) ?_
  refine bb_istore_n (L' := [.ref x0, .ref x1, .int x2, .int 0, .null]) dX3_wrongPairs_1 (by decide) rfl rfl ?_
  refine bb_iconst (v := 1) dX3_wrongPairs_2 (by decide) ?_
  refine bb_istore (L' := [.ref x0, .ref x1, .int x2, .int 0, .int 1]) dX3_wrongPairs_3 (by decide) rfl rfl ?_
  refine bb_fewer (L' := [.ref x0, .ref x1, .int x2, .int 0, .int 1]) (And.intro rfl (And.intro rfl (And.intro rfl (And.intro rfl (And.intro rfl trivial))))) ?_
  exact j_X3_wrongPairs_5 _ _ _ _ _ _ _ hf
theorem ok_X3_wrongPairs {x0 : Nat} {x1 : Nat} {x2 : Int32} {h : bb_H} {r : Int32 × bb_H} (hf : m_X3_wrongPairs x0 x1 x2 h = some r) : bb_Ok yX3_wrongPairs cX3_wrongPairs 5 (some .int) rm_X3_wrongPairs [.ref x0, .ref x1, .int x2] h (some (.int r.1), r.2) :=
  bb_ok (L := [.ref x0, .ref x1, .int x2, .null, .null]) (by decide) (Nat.le_of_ble_eq_true rfl) rfl (bb_fewer (L' := [.ref x0, .ref x1, .int x2, .null, .null]) (And.intro rfl (And.intro rfl (And.intro rfl trivial))) (j_X3_wrongPairs_0 _ _ _ _ hf))
abbrev rm_X4_renew : Room := { frames := 0, cells := 0, slots := 0, locals := 0 }
set_option maxRecDepth 100000 in
set_option maxHeartbeats 4000000 in
theorem j_X4_renew_17 {r : bb_H} : ∀ (n : Nat) (x0 : Nat) (x3 : Int32) (h : bb_H), m_X4_renew_17 n x0 x3 h = some r → bb_J RX4 cX4_renew 4 none rm_X4_renew (none, r) 17 [.ref x0, .null, .null, .int x3] [] h := by
  intro n
  induction n with
  | zero =>
    intro x0 x3 h hf
    exact absurd hf (fun z => by cases z)
  | succ n ih =>
    intro x0 x3 h hf
    unfold m_X4_renew_17 at hf
    refine bb_iload_n dX4_renew_17 rfl ?_
    refine bb_bipush (v := 24) dX4_renew_18 (by decide) ?_
    refine bb_icmp_ge (tgt := 36) dX4_renew_20 (by decide) (fun c20 => ?_) (fun c20 => ?_)
    · rw [if_pos c20] at hf
      obtain rfl := Option.some.inj hf
      exact bb_vret rfl rfl dX4_renew_36
    rw [if_neg c20] at hf
    refine bb_aload_n dX4_renew_23 rfl ?_
    obtain ⟨t24, h24, hf⟩ := bb_bind hf
    refine bb_getR fl_X4_22 dX4_renew_24 h24 ?_
    refine bb_iload_n dX4_renew_27 rfl ?_
    refine bb_lconst (v := 0) dX4_renew_28 (by decide) ?_
    obtain ⟨g29, h29, hf⟩ := bb_bind hf
    refine bb_lastore dX4_renew_29 h29 ?_
    refine bb_iinc (v := x3 + 1) (L' := [.ref x0, .null, .null, .int (x3 + 1)]) dX4_renew_30 rfl rfl (by decide) rfl rfl ?_
    refine bb_goto (tgt := 17) dX4_renew_33 (by decide) ?_
    refine bb_fewer (L' := [.ref x0, .null, .null, .int (x3 + 1)]) (And.intro rfl (And.intro rfl trivial)) ?_
    exact ih _ _ _ hf
set_option maxRecDepth 100000 in
set_option maxHeartbeats 4000000 in
theorem j_X4_renew_0 {r : bb_H} : ∀ (x0 : Nat) (x1 : Int32) (x2 : Int32) (h : bb_H), m_X4_renew x0 x1 x2 h = some r → bb_J RX4 cX4_renew 4 none rm_X4_renew (none, r) 0 [.ref x0, .int x1, .int x2, .null] [] h := by
  intro x0 x1 x2 h hf
  unfold m_X4_renew at hf
  refine bb_aload_n dX4_renew_0 rfl ?_
  refine bb_iconst (v := 1) dX4_renew_1 (by decide) ?_
  obtain ⟨g2, h2, hf⟩ := bb_bind hf
  refine bb_putZ fp_X4_9 dX4_renew_2 h2 ?_
  refine bb_aload_n dX4_renew_5 rfl ?_
  refine bb_iload_n dX4_renew_6 rfl ?_
  obtain ⟨g7, h7, hf⟩ := bb_bind hf
  refine bb_putI fp_X4_15 dX4_renew_7 h7 ?_
  refine bb_aload_n dX4_renew_10 rfl ?_
  refine bb_iload_n dX4_renew_11 rfl ?_
  obtain ⟨g12, h12, hf⟩ := bb_bind hf
  refine bb_putI fp_X4_19 dX4_renew_12 h12 ?_
  refine bb_iconst (v := 0) dX4_renew_15 (by decide) ?_
  refine bb_istore_n (L' := [.ref x0, .int x1, .int x2, .int 0]) dX4_renew_16 (by decide) rfl rfl ?_
  refine bb_fewer (L' := [.ref x0, .null, .null, .int 0]) (And.intro rfl (And.intro rfl trivial)) ?_
  exact j_X4_renew_17 _ _ _ _ hf
theorem ok_X4_renew {x0 : Nat} {x1 : Int32} {x2 : Int32} {h : bb_H} {r : bb_H} (hf : m_X4_renew x0 x1 x2 h = some r) : bb_Ok yX4_renew cX4_renew 4 none rm_X4_renew [.ref x0, .int x1, .int x2] h (none, r) :=
  bb_ok (L := [.ref x0, .int x1, .int x2, .null]) (by decide) (Nat.le_of_ble_eq_true rfl) rfl (bb_fewer (L' := [.ref x0, .int x1, .int x2, .null]) (And.intro rfl (And.intro rfl (And.intro rfl trivial))) (j_X4_renew_0 _ _ _ _ hf))
abbrev rm_X4_spans : Room := { frames := 0, cells := 0, slots := 0, locals := 0 }
set_option maxRecDepth 100000 in
set_option maxHeartbeats 4000000 in
theorem j_X4_spans_23 {r : Int32 × bb_H} : ∀ (z0 : Int32) (h : bb_H), m_X4_spans_23 z0 h = some r → bb_J RX4 cX4_spans 3 (some .boolean) rm_X4_spans (some (.int r.1), r.2) 23 [.null, .null, .null] [.int z0] h := by
  intro z0 h hf
  unfold m_X4_spans_23 at hf
  obtain ⟨hn, rfl⟩ := bb_rz_spec hf
  exact bb_zret rfl hn rfl dX4_spans_23
set_option maxRecDepth 100000 in
set_option maxHeartbeats 4000000 in
theorem j_X4_spans_22 {r : Int32 × bb_H} : ∀ (h : bb_H), m_X4_spans_22 h = some r → bb_J RX4 cX4_spans 3 (some .boolean) rm_X4_spans (some (.int r.1), r.2) 22 [.null, .null, .null] [] h := by
  intro h hf
  unfold m_X4_spans_22 at hf
  refine bb_iconst (v := 0) dX4_spans_22 (by decide) ?_
  refine bb_fewer (L' := [.null, .null, .null]) trivial ?_
  exact j_X4_spans_23 _ _ hf
set_option maxRecDepth 100000 in
set_option maxHeartbeats 4000000 in
theorem j_X4_spans_0 {r : Int32 × bb_H} : ∀ (x0 : Nat) (x1 : Int32) (x2 : Int32) (h : bb_H), m_X4_spans x0 x1 x2 h = some r → bb_J RX4 cX4_spans 3 (some .boolean) rm_X4_spans (some (.int r.1), r.2) 0 [.ref x0, .int x1, .int x2] [] h := by
  intro x0 x1 x2 h hf
  unfold m_X4_spans at hf
  refine bb_iload_n dX4_spans_0 rfl ?_
  refine bb_if_lt (tgt := 22) dX4_spans_1 (by decide) (fun c1 => ?_) (fun c1 => ?_)
  · rw [if_pos c1] at hf
    refine bb_fewer (L' := [.null, .null, .null]) trivial ?_
    exact j_X4_spans_22 _ hf
  rw [if_neg c1] at hf
  refine bb_iload_n dX4_spans_4 rfl ?_
  refine bb_if_lt (tgt := 22) dX4_spans_5 (by decide) (fun c5 => ?_) (fun c5 => ?_)
  · rw [if_pos c5] at hf
    refine bb_fewer (L' := [.null, .null, .null]) trivial ?_
    exact j_X4_spans_22 _ hf
  rw [if_neg c5] at hf
  refine bb_iload_n dX4_spans_8 rfl ?_
  refine bb_aload_n dX4_spans_9 rfl ?_
  obtain ⟨t10, h10, hf⟩ := bb_bind hf
  refine bb_getI fl_X4_19 dX4_spans_10 h10 ?_
  refine bb_iload_n dX4_spans_13 rfl ?_
  refine bb_isub dX4_spans_14 ?_
  refine bb_icmp_gt (tgt := 22) dX4_spans_15 (by decide) (fun c15 => ?_) (fun c15 => ?_)
  · rw [if_pos c15] at hf
    refine bb_fewer (L' := [.null, .null, .null]) trivial ?_
    exact j_X4_spans_22 _ hf
  rw [if_neg c15] at hf
  refine bb_iconst (v := 1) dX4_spans_18 (by decide) ?_
  refine bb_goto (tgt := 23) dX4_spans_19 (by decide) ?_
  refine bb_fewer (L' := [.null, .null, .null]) trivial ?_
  exact j_X4_spans_23 _ _ hf
theorem ok_X4_spans {x0 : Nat} {x1 : Int32} {x2 : Int32} {h : bb_H} {r : Int32 × bb_H} (hf : m_X4_spans x0 x1 x2 h = some r) : bb_Ok yX4_spans cX4_spans 3 (some .boolean) rm_X4_spans [.ref x0, .int x1, .int x2] h (some (.int r.1), r.2) :=
  bb_ok (L := [.ref x0, .int x1, .int x2]) (by decide) (Nat.le_of_ble_eq_true rfl) rfl (bb_fewer (L' := [.ref x0, .int x1, .int x2]) (And.intro rfl (And.intro rfl (And.intro rfl trivial))) (j_X4_spans_0 _ _ _ _ hf))
abbrev rm_X4_refusalOf : Room := { frames := 1, cells := 0, slots := 0, locals := 22 }
set_option maxRecDepth 100000 in
set_option maxHeartbeats 4000000 in
theorem j_X4_refusalOf_36 {r : Int32 × bb_H} : ∀ (z0 : Int32) (h : bb_H), m_X4_refusalOf_36 z0 h = some r → bb_J RX4 cX4_refusalOf 4 (some .int) rm_X4_refusalOf (some (.int r.1), r.2) 36 [.null, .null, .null, .null] [.int z0] h := by
  intro z0 h hf
  unfold m_X4_refusalOf_36 at hf
  obtain rfl := Option.some.inj hf
  exact bb_iret rfl rfl dX4_refusalOf_36
set_option maxRecDepth 100000 in
set_option maxHeartbeats 4000000 in
theorem j_X4_refusalOf_0 {r : Int32 × bb_H} : ∀ (x0 : Nat) (x1 : Int32) (x2 : Int32) (x3 : Int32) (h : bb_H), m_X4_refusalOf x0 x1 x2 x3 h = some r → bb_J RX4 cX4_refusalOf 4 (some .int) rm_X4_refusalOf (some (.int r.1), r.2) 0 [.ref x0, .int x1, .int x2, .int x3] [] h := by
  intro x0 x1 x2 x3 h hf
  unfold m_X4_refusalOf at hf
  refine bb_aload_n dX4_refusalOf_0 rfl ?_
  obtain ⟨t1, h1, hf⟩ := bb_bind hf
  refine bb_getI fl_X4_9 dX4_refusalOf_1 h1 ?_
  refine bb_if_ne (tgt := 10) dX4_refusalOf_4 (by decide) (fun c4 => ?_) (fun c4 => ?_)
  · rw [if_neg c4] at hf
    refine bb_aload_n dX4_refusalOf_10 rfl ?_
    obtain ⟨t11, h11, hf⟩ := bb_bind hf
    refine bb_getI fl_X4_15 dX4_refusalOf_11 h11 ?_
    refine bb_iload_n dX4_refusalOf_14 rfl ?_
    refine bb_icmp_eq (tgt := 21) dX4_refusalOf_15 (by decide) (fun c15 => ?_) (fun c15 => ?_)
    · rw [if_pos c15] at hf
      refine bb_aload_n dX4_refusalOf_21 rfl ?_
      refine bb_iload_n dX4_refusalOf_22 rfl ?_
      refine bb_iload_n dX4_refusalOf_23 rfl ?_
      obtain ⟨r24, h24, hf⟩ := bb_bind hf
      obtain ⟨⟨v24, b24⟩, h24⟩ := bb_rcv_spec h24
      refine bb_invV (ci := 4) (as := [.int x2, .int x3]) iv_X4_26 (by unfold bb_rr; decide) rfl dX4_refusalOf_24 rfl rfl b24 (Nat.le_of_ble_eq_true rfl) (ok_X4_spans h24) ?_
      refine bb_if_eq (tgt := 34) dX4_refusalOf_27 (by decide) (fun c27 => ?_) (fun c27 => ?_)
      · rw [if_pos c27] at hf
        refine bb_bipush (v := (-13)) dX4_refusalOf_34 (by decide) ?_
        refine bb_fewer (L' := [.null, .null, .null, .null]) trivial ?_
        exact j_X4_refusalOf_36 _ _ hf
      rw [if_neg c27] at hf
      refine bb_iconst (v := 0) dX4_refusalOf_30 (by decide) ?_
      refine bb_goto (tgt := 36) dX4_refusalOf_31 (by decide) ?_
      refine bb_fewer (L' := [.null, .null, .null, .null]) trivial ?_
      exact j_X4_refusalOf_36 _ _ hf
    rw [if_neg c15] at hf
    refine bb_bipush (v := (-12)) dX4_refusalOf_18 (by decide) ?_
    obtain rfl := Option.some.inj hf
    exact bb_iret rfl rfl dX4_refusalOf_20
  rw [if_pos c4] at hf
  refine bb_bipush (v := (-11)) dX4_refusalOf_7 (by decide) ?_
  obtain rfl := Option.some.inj hf
  exact bb_iret rfl rfl dX4_refusalOf_9
theorem ok_X4_refusalOf {x0 : Nat} {x1 : Int32} {x2 : Int32} {x3 : Int32} {h : bb_H} {r : Int32 × bb_H} (hf : m_X4_refusalOf x0 x1 x2 x3 h = some r) : bb_Ok yX4_refusalOf cX4_refusalOf 4 (some .int) rm_X4_refusalOf [.ref x0, .int x1, .int x2, .int x3] h (some (.int r.1), r.2) :=
  bb_ok (L := [.ref x0, .int x1, .int x2, .int x3]) (by decide) (Nat.le_of_ble_eq_true rfl) rfl (bb_fewer (L' := [.ref x0, .int x1, .int x2, .int x3]) (And.intro rfl (And.intro rfl (And.intro rfl (And.intro rfl trivial)))) (j_X4_refusalOf_0 _ _ _ _ _ hf))
abbrev rm_X4_cut : Room := { frames := 0, cells := 0, slots := 0, locals := 0 }
set_option maxRecDepth 100000 in
set_option maxHeartbeats 4000000 in
theorem j_X4_cut_0 {r : Int64 × bb_H} : ∀ (x0 : Nat) (x1 : Int64) (h : bb_H), m_X4_cut x0 x1 h = some r → bb_J RX4 cX4_cut 3 (some .long) rm_X4_cut (some (.long r.1), r.2) 0 [.ref x0, .long x1, .null] [] h := by
  intro x0 x1 h hf
  unfold m_X4_cut at hf
  refine bb_aload_n dX4_cut_0 rfl ?_
  obtain ⟨t1, h1, hf⟩ := bb_bind hf
  refine bb_getI fl_X4_15 dX4_cut_1 h1 ?_
  by_cases c4_0 : t1 = 0
  · rw [if_pos c4_0] at hf
    refine bb_tableIn (tgt := 32) dX4_cut_4 (by rw [c4_0]; decide) (by rw [c4_0]; decide) (off := 28) (by rw [c4_0]; decide) (by decide) ?_
    refine bb_lload_n dX4_cut_32 rfl ?_
    refine bb_l2i dX4_cut_33 ?_
    refine bb_i2b dX4_cut_34 ?_
    refine bb_i2l dX4_cut_35 ?_
    obtain rfl := Option.some.inj hf
    exact bb_lret rfl rfl dX4_cut_36
  rw [if_neg c4_0] at hf
  by_cases c4_1 : t1 = 1
  · rw [if_pos c4_1] at hf
    refine bb_tableIn (tgt := 37) dX4_cut_4 (by rw [c4_1]; decide) (by rw [c4_1]; decide) (off := 33) (by rw [c4_1]; decide) (by decide) ?_
    refine bb_lload_n dX4_cut_37 rfl ?_
    refine bb_l2i dX4_cut_38 ?_
    refine bb_i2s dX4_cut_39 ?_
    refine bb_i2l dX4_cut_40 ?_
    obtain rfl := Option.some.inj hf
    exact bb_lret rfl rfl dX4_cut_41
  rw [if_neg c4_1] at hf
  by_cases c4_2 : t1 = 2
  · rw [if_pos c4_2] at hf
    refine bb_tableIn (tgt := 42) dX4_cut_4 (by rw [c4_2]; decide) (by rw [c4_2]; decide) (off := 38) (by rw [c4_2]; decide) (by decide) ?_
    refine bb_lload_n dX4_cut_42 rfl ?_
    refine bb_l2i dX4_cut_43 ?_
    refine bb_i2l dX4_cut_44 ?_
    obtain rfl := Option.some.inj hf
    exact bb_lret rfl rfl dX4_cut_45
  rw [if_neg c4_2] at hf
  refine bb_tableOut (tgt := 46) dX4_cut_4 (bb_swout t1 0 2 (by decide) (fun n q1 q2 => by rcases (show n = 0 ∨ n = 1 ∨ n = 2 by omega) with rfl | rfl | rfl <;> assumption)) (by decide) ?_
  refine bb_lload_n dX4_cut_46 rfl ?_
  obtain rfl := Option.some.inj hf
  exact bb_lret rfl rfl dX4_cut_47
theorem ok_X4_cut {x0 : Nat} {x1 : Int64} {h : bb_H} {r : Int64 × bb_H} (hf : m_X4_cut x0 x1 h = some r) : bb_Ok yX4_cut cX4_cut 3 (some .long) rm_X4_cut [.ref x0, .long x1] h (some (.long r.1), r.2) :=
  bb_ok (L := [.ref x0, .long x1, .null]) (by decide) (Nat.le_of_ble_eq_true rfl) rfl (bb_fewer (L' := [.ref x0, .long x1, .null]) (And.intro rfl (And.intro rfl trivial)) (j_X4_cut_0 _ _ _ hf))
abbrev rm_X4_put : Room := { frames := 1, cells := 0, slots := 0, locals := 22 }
set_option maxRecDepth 100000 in
set_option maxHeartbeats 4000000 in
theorem j_X4_put_25 {r : bb_H} : ∀ (h : bb_H), m_X4_put_25 h = some r → bb_J RX4 cX4_put 4 none rm_X4_put (none, r) 25 [.null, .null, .null, .null] [] h := by
  intro h hf
  unfold m_X4_put_25 at hf
  obtain rfl := Option.some.inj hf
  exact bb_vret rfl rfl dX4_put_25
set_option maxRecDepth 100000 in
set_option maxHeartbeats 4000000 in
theorem j_X4_put_0 {r : bb_H} : ∀ (x0 : Nat) (x1 : Int32) (x2 : Int64) (h : bb_H), m_X4_put x0 x1 x2 h = some r → bb_J RX4 cX4_put 4 none rm_X4_put (none, r) 0 [.ref x0, .int x1, .long x2, .null] [] h := by
  intro x0 x1 x2 h hf
  unfold m_X4_put at hf
  refine bb_iload_n dX4_put_0 rfl ?_
  refine bb_iconst (v := 0) dX4_put_1 (by decide) ?_
  refine bb_aload_n dX4_put_2 rfl ?_
  obtain ⟨t3, h3, hf⟩ := bb_bind hf
  refine bb_getI fl_X4_19 dX4_put_3 h3 ?_
  refine bb_iconst (v := 1) dX4_put_6 (by decide) ?_
  refine bb_isub dX4_put_7 ?_
  obtain ⟨r8, h8, hf⟩ := bb_bind hf
  refine bb_invN (as := [.int x1, .int 0, .int (t3 - 1)]) in_X4_30 (by unfold bb_rr; decide) dX4_put_8 rfl rfl (Nat.le_of_ble_eq_true rfl) (ok_X7_within h8) ?_
  refine bb_if_eq (tgt := 25) dX4_put_11 (by decide) (fun c11 => ?_) (fun c11 => ?_)
  · rw [if_pos c11] at hf
    refine bb_fewer (L' := [.null, .null, .null, .null]) trivial ?_
    exact j_X4_put_25 _ hf
  rw [if_neg c11] at hf
  refine bb_aload_n dX4_put_14 rfl ?_
  obtain ⟨t15, h15, hf⟩ := bb_bind hf
  refine bb_getR fl_X4_22 dX4_put_15 h15 ?_
  refine bb_iload_n dX4_put_18 rfl ?_
  refine bb_aload_n dX4_put_19 rfl ?_
  refine bb_lload_n dX4_put_20 rfl ?_
  obtain ⟨r21, h21, hf⟩ := bb_bind hf
  obtain ⟨⟨v21, b21⟩, h21⟩ := bb_rcv_spec h21
  refine bb_invV (ci := 4) (as := [.long x2]) iv_X4_34 (by unfold bb_rr; decide) rfl dX4_put_21 rfl rfl b21 (Nat.le_of_ble_eq_true rfl) (ok_X4_cut h21) ?_
  obtain ⟨g24, h24, hf⟩ := bb_bind hf
  refine bb_lastore dX4_put_24 h24 ?_
  refine bb_fewer (L' := [.null, .null, .null, .null]) trivial ?_
  exact j_X4_put_25 _ hf
theorem ok_X4_put {x0 : Nat} {x1 : Int32} {x2 : Int64} {h : bb_H} {r : bb_H} (hf : m_X4_put x0 x1 x2 h = some r) : bb_Ok yX4_put cX4_put 4 none rm_X4_put [.ref x0, .int x1, .long x2] h (none, r) :=
  bb_ok (L := [.ref x0, .int x1, .long x2, .null]) (by decide) (Nat.le_of_ble_eq_true rfl) rfl (bb_fewer (L' := [.ref x0, .int x1, .long x2, .null]) (And.intro rfl (And.intro rfl (And.intro rfl trivial))) (j_X4_put_0 _ _ _ _ hf))
abbrev rm_X5_takeFrom : Room := { frames := 2, cells := 0, slots := 0, locals := 44 }
set_option maxRecDepth 100000 in
set_option maxHeartbeats 4000000 in
theorem j_X5_takeFrom_0 {r : bb_H} : ∀ (x0 : Nat) (x1 : Nat) (h : bb_H), m_X5_takeFrom x0 x1 h = some r → bb_J RX5 cX5_takeFrom 2 none rm_X5_takeFrom (none, r) 0 [.ref x0, .ref x1] [] h := by
  intro x0 x1 h hf
  unfold m_X5_takeFrom at hf
  refine bb_aload_n dX5_takeFrom_0 rfl ?_
  obtain ⟨t1, h1, hf⟩ := bb_bind hf
  refine bb_getR fl_X5_10 dX5_takeFrom_1 h1 ?_
  refine bb_aload_n dX5_takeFrom_4 rfl ?_
  obtain ⟨t5, h5, hf⟩ := bb_bind hf
  refine bb_getR fl_X5_10 dX5_takeFrom_5 h5 ?_
  obtain ⟨g8, h8, hf⟩ := bb_bind hf
  obtain ⟨⟨v8, b8⟩, h8⟩ := bb_rcv_spec h8
  refine bb_invV (ci := 3) (as := [.ref t5]) iv_X5_30 (by unfold bb_rr; decide) rfl dX5_takeFrom_8 rfl rfl b8 (Nat.le_of_ble_eq_true rfl) (ok_X3_takeFrom h8) ?_
  refine bb_aload_n dX5_takeFrom_11 rfl ?_
  obtain ⟨t12, h12, hf⟩ := bb_bind hf
  refine bb_getR fl_X5_19 dX5_takeFrom_12 h12 ?_
  refine bb_aload_n dX5_takeFrom_15 rfl ?_
  obtain ⟨t16, h16, hf⟩ := bb_bind hf
  refine bb_getR fl_X5_19 dX5_takeFrom_16 h16 ?_
  obtain ⟨g19, h19, hf⟩ := bb_bind hf
  obtain ⟨⟨v19, b19⟩, h19⟩ := bb_rcv_spec h19
  refine bb_invV (ci := 0) (as := [.ref t16]) iv_X5_34 (by unfold bb_rr; decide) rfl dX5_takeFrom_19 rfl rfl b19 (Nat.le_of_ble_eq_true rfl) (ok_X0_takeFrom h19) ?_
  refine bb_aload_n dX5_takeFrom_22 rfl ?_
  obtain ⟨t23, h23, hf⟩ := bb_bind hf
  refine bb_getR fl_X5_26 dX5_takeFrom_23 h23 ?_
  refine bb_aload_n dX5_takeFrom_26 rfl ?_
  obtain ⟨t27, h27, hf⟩ := bb_bind hf
  refine bb_getR fl_X5_26 dX5_takeFrom_27 h27 ?_
  obtain ⟨g30, h30, hf⟩ := bb_bind hf
  obtain ⟨⟨v30, b30⟩, h30⟩ := bb_rcv_spec h30
  refine bb_invV (ci := 1) (as := [.ref t27]) iv_X5_37 (by unfold bb_rr; decide) rfl dX5_takeFrom_30 rfl rfl b30 (Nat.le_of_ble_eq_true rfl) (ok_X1_takeFrom h30) ?_
  obtain rfl := Option.some.inj hf
  exact bb_vret rfl rfl dX5_takeFrom_33
theorem ok_X5_takeFrom {x0 : Nat} {x1 : Nat} {h : bb_H} {r : bb_H} (hf : m_X5_takeFrom x0 x1 h = some r) : bb_Ok yX5_takeFrom cX5_takeFrom 2 none rm_X5_takeFrom [.ref x0, .ref x1] h (none, r) :=
  bb_ok (L := [.ref x0, .ref x1]) (by decide) (Nat.le_of_ble_eq_true rfl) rfl (bb_fewer (L' := [.ref x0, .ref x1]) (And.intro rfl (And.intro rfl trivial)) (j_X5_takeFrom_0 _ _ _ hf))
