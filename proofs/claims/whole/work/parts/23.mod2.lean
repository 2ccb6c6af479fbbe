theorem fl_X8_7 : bb_fl RX8 7 8 0 := ⟨RX8, TX8, 14, rfl, by decide, bb_u8, by decide +kernel⟩
theorem is_X8_44 : bb_is_ RX8 44 yX8_in cX8_in 3 (some .boolean) 3 := by unfold bb_is_; decide +kernel
theorem iv_X8_48 : bb_iv RX8 48 RX8 yX8_isTaken cX8_isTaken 5 (some .boolean) 2 := by unfold bb_iv; decide +kernel
theorem iv_X8_52 : bb_iv RX8 52 RX8 yX8_isMan cX8_isMan 2 (some .boolean) 1 := by unfold bb_iv; decide +kernel
theorem iv_X8_56 : bb_iv RX8 56 RX8 yX8_stoodBy cX8_stoodBy 10 (some .boolean) 2 := by unfold bb_iv; decide +kernel
theorem iv_X8_59 : bb_iv RX8 59 RX8 yX8_seatOf cX8_seatOf 4 (some .int) 1 := by unfold bb_iv; decide +kernel
theorem iv_X8_63 : bb_iv RX8 63 RX8 yX8_onSeat cX8_onSeat 2 (some .int) 1 := by unfold bb_iv; decide +kernel
theorem iv_X8_66 : bb_iv RX8 66 RX8 yX8_allSitBy cX8_allSitBy 5 (some .int) 1 := by unfold bb_iv; decide +kernel
theorem iv_X8_69 : bb_iv RX8 69 RX8 yX8_allStoodBy cX8_allStoodBy 4 (some .int) 1 := by unfold bb_iv; decide +kernel
theorem is_X8_72 : bb_is_ RX8 72 yX8_ones cX8_ones 3 (some .int) 1 := by unfold bb_is_; decide +kernel
theorem fl_X8_35 : bb_fl RX8 35 8 11 := ⟨RX8, TX8, 14, rfl, by decide, bb_u8, by decide +kernel⟩
theorem iv_X8_75 : bb_iv RX8 75 RX8 yX8_bench cX8_bench 3 (some .int) 0 := by unfold bb_iv; decide +kernel
theorem is_X8_79 : bb_is_ RX8 79 yX8_has cX8_has 2 (some .boolean) 2 := by unfold bb_is_; decide +kernel
theorem iv_X8_82 : bb_iv RX8 82 RX8 yX8_fails cX8_fails 4 (some .int) 1 := by unfold bb_iv; decide +kernel
theorem fl_X8_85 : bb_fl RX8 85 8 4 := ⟨RX8, TX8, 14, rfl, by decide, bb_u8, by decide +kernel⟩
theorem fl_X8_16 : bb_fl RX8 16 8 3 := ⟨RX8, TX8, 14, rfl, by decide, bb_u8, by decide +kernel⟩
theorem fp_X8_85 : bb_fp RX8 85 8 4 .int := ⟨RX8, TX8, 14, tyX8, rfl, by decide, bb_u8, by decide +kernel, tyX8_ok, nmX8, rfl, rfl⟩
theorem fl_X8_89 : bb_fl RX8 89 8 6 := ⟨RX8, TX8, 14, rfl, by decide, bb_u8, by decide +kernel⟩
theorem iv_X8_92 : bb_iv RX8 92 RX8 yX8_letterAt cX8_letterAt 2 (some .int) 1 := by unfold bb_iv; decide +kernel
theorem fp_X8_89 : bb_fp RX8 89 8 6 .int := ⟨RX8, TX8, 14, tyX8, rfl, by decide, bb_u8, by decide +kernel, tyX8_ok, nmX8, rfl, rfl⟩
theorem fl_X8_19 : bb_fl RX8 19 8 5 := ⟨RX8, TX8, 14, rfl, by decide, bb_u8, by decide +kernel⟩
theorem iv_X8_104 : bb_iv RX8 104 RX8 yX8_isTold cX8_isTold 6 (some .boolean) 3 := by unfold bb_iv; decide +kernel
theorem iv_X8_95 : bb_iv RX8 95 RX8 yX8_skips cX8_skips 1 (some .int) 0 := by unfold bb_iv; decide +kernel
theorem is_X8_101 : bb_is_ RX8 101 yX8_isDigit cX8_isDigit 1 (some .boolean) 1 := by unfold bb_is_; decide +kernel
theorem is_X8_98 : bb_is_ RX8 98 yX8_kindBy cX8_kindBy 1 (some .int) 1 := by unfold bb_is_; decide +kernel
theorem iv_X8_107 : bb_iv RX8 107 RX8 yX8_readsMan cX8_readsMan 8 (some .boolean) 1 := by unfold bb_iv; decide +kernel
theorem iv_X8_110 : bb_iv RX8 110 RX8 yX8_readsAll cX8_readsAll 3 (some .int) 0 := by unfold bb_iv; decide +kernel
theorem iv_X8_113 : bb_iv RX8 113 RX8 yX8_lives cX8_lives 3 (some .int) 0 := by unfold bb_iv; decide +kernel
theorem iv_X8_116 : bb_iv RX8 116 RX8 yX8_wrong cX8_wrong 3 (some .int) 0 := by unfold bb_iv; decide +kernel
theorem iv_X8_119 : bb_iv RX8 119 RX8 yX8_keeps cX8_keeps 2 none 0 := by unfold bb_iv; decide +kernel
theorem iv_X8_122 : bb_iv RX8 122 RX8 yX8_passes cX8_passes 4 none 0 := by unfold bb_iv; decide +kernel
theorem iv_X8_125 : bb_iv RX8 125 RX8 yX8_changes cX8_changes 3 none 1 := by unfold bb_iv; decide +kernel
theorem co_X8_129 : Cond.constant RX8 129 1103515245 ∈ bb_good := by decide +kernel
theorem co_X8_130 : Cond.constant RX8 130 2147483647 ∈ bb_good := by decide +kernel
theorem co_X8_131 : Cond.constant RX8 131 65536 ∈ bb_good := by decide +kernel
theorem fl_X8_38 : bb_fl RX8 38 8 12 := ⟨RX8, TX8, 14, rfl, by decide, bb_u8, by decide +kernel⟩
theorem iv_X8_135 : bb_iv RX8 135 RX8 yX8_lets cX8_lets 2 none 0 := by unfold bb_iv; decide +kernel
theorem iv_X8_132 : bb_iv RX8 132 RX8 yX8_holds cX8_holds 2 none 0 := by unfold bb_iv; decide +kernel
theorem iv_X8_138 : bb_iv RX8 138 RX8 yX8_placeOn cX8_placeOn 3 (some .int) 2 := by unfold bb_iv; decide +kernel
theorem iv_X8_145 : bb_iv RX8 145 RX8 yX8_isOrder cX8_isOrder 6 (some .boolean) 2 := by unfold bb_iv; decide +kernel
theorem is_X8_142 : bb_is_ RX8 142 yX8_isAhead cX8_isAhead 3 (some .boolean) 2 := by unfold bb_is_; decide +kernel
theorem iv_X8_151 : bb_iv RX8 151 RX8 yX8_nextOrder cX8_nextOrder 6 (some .boolean) 0 := by unfold bb_iv; decide +kernel
theorem iv_X8_148 : bb_iv RX8 148 RX8 yX8_firstOrder cX8_firstOrder 4 none 0 := by unfold bb_iv; decide +kernel
theorem fl_X8_41 : bb_fl RX8 41 8 13 := ⟨RX8, TX8, 14, rfl, by decide, bb_u8, by decide +kernel⟩
theorem fl_X8_155 : bb_fl RX8 155 8 2 := ⟨RX8, TX8, 14, rfl, by decide, bb_u8, by decide +kernel⟩
theorem fp_X8_155 : bb_fp RX8 155 8 2 .boolean := ⟨RX8, TX8, 14, tyX8, rfl, by decide, bb_u8, by decide +kernel, tyX8_ok, nmX8, rfl, rfl⟩
theorem fl_X8_13 : bb_fl RX8 13 8 1 := ⟨RX8, TX8, 14, rfl, by decide, bb_u8, by decide +kernel⟩
theorem fl_X8_29 : bb_fl RX8 29 8 9 := ⟨RX8, TX8, 14, rfl, by decide, bb_u8, by decide +kernel⟩
theorem fl_X8_32 : bb_fl RX8 32 8 10 := ⟨RX8, TX8, 14, rfl, by decide, bb_u8, by decide +kernel⟩
theorem fl_X8_22 : bb_fl RX8 22 8 7 := ⟨RX8, TX8, 14, rfl, by decide, bb_u8, by decide +kernel⟩
theorem iv_X8_166 : bb_iv RX8 166 RX8 yX8_isSo cX8_isSo 6 (some .boolean) 3 := by unfold bb_iv; decide +kernel
theorem is_X8_159 : bb_is_ RX8 159 yX8_isSheet cX8_isSheet 1 (some .boolean) 1 := by unfold bb_is_; decide +kernel
theorem iv_X8_162 : bb_iv RX8 162 RX8 yX8_barred cX8_barred 5 (some .int) 4 := by unfold bb_iv; decide +kernel
theorem is_X8_169 : bb_is_ RX8 169 yX8_cut cX8_cut 3 (some .long) 2 := by unfold bb_is_; decide +kernel
theorem fl_X8_26 : bb_fl RX8 26 8 8 := ⟨RX8, TX8, 14, rfl, by decide, bb_u8, by decide +kernel⟩
abbrev rm_X8_in : Room := { frames := 0, cells := 0, slots := 0, locals := 0 }
set_option maxRecDepth 100000 in
set_option maxHeartbeats 4000000 in
theorem j_X8_in_15 {r : Int32 × bb_H} : ∀ (z0 : Int32) (h : bb_H), m_X8_in_15 z0 h = some r → bb_J RX8 cX8_in 3 (some .boolean) rm_X8_in (some (.int r.1), r.2) 15 [.null, .null, .null] [.int z0] h := by
  intro z0 h hf
  unfold m_X8_in_15 at hf
  obtain ⟨hn, rfl⟩ := bb_rz_spec hf
  exact bb_zret rfl hn rfl dX8_in_15
set_option maxRecDepth 100000 in
set_option maxHeartbeats 4000000 in
theorem j_X8_in_14 {r : Int32 × bb_H} : ∀ (h : bb_H), m_X8_in_14 h = some r → bb_J RX8 cX8_in 3 (some .boolean) rm_X8_in (some (.int r.1), r.2) 14 [.null, .null, .null] [] h := by
  intro h hf
  unfold m_X8_in_14 at hf
  refine bb_iconst (v := 0) dX8_in_14 (by decide) ?_
  refine bb_fewer (L' := [.null, .null, .null]) trivial ?_
  exact j_X8_in_15 _ _ hf
set_option maxRecDepth 100000 in
set_option maxHeartbeats 4000000 in
theorem j_X8_in_0 {r : Int32 × bb_H} : ∀ (x0 : Int32) (x1 : Int32) (x2 : Int32) (h : bb_H), m_X8_in x0 x1 x2 h = some r → bb_J RX8 cX8_in 3 (some .boolean) rm_X8_in (some (.int r.1), r.2) 0 [.int x0, .int x1, .int x2] [] h := by
  intro x0 x1 x2 h hf
  unfold m_X8_in at hf
  refine bb_iload_n dX8_in_0 rfl ?_
  refine bb_iload_n dX8_in_1 rfl ?_
  refine bb_icmp_lt (tgt := 14) dX8_in_2 (by decide) (fun c2 => ?_) (fun c2 => ?_)
  · rw [if_pos c2] at hf
    refine bb_fewer (L' := [.null, .null, .null]) trivial ?_
    exact j_X8_in_14 _ hf
  rw [if_neg c2] at hf
  refine bb_iload_n dX8_in_5 rfl ?_
  refine bb_iload_n dX8_in_6 rfl ?_
  refine bb_icmp_gt (tgt := 14) dX8_in_7 (by decide) (fun c7 => ?_) (fun c7 => ?_)
  · rw [if_pos c7] at hf
    refine bb_fewer (L' := [.null, .null, .null]) trivial ?_
    exact j_X8_in_14 _ hf
  rw [if_neg c7] at hf
  refine bb_iconst (v := 1) dX8_in_10 (by decide) ?_
  refine bb_goto (tgt := 15) dX8_in_11 (by decide) ?_
  refine bb_fewer (L' := [.null, .null, .null]) trivial ?_
  exact j_X8_in_15 _ _ hf
theorem ok_X8_in {x0 : Int32} {x1 : Int32} {x2 : Int32} {h : bb_H} {r : Int32 × bb_H} (hf : m_X8_in x0 x1 x2 h = some r) : bb_Ok yX8_in cX8_in 3 (some .boolean) rm_X8_in [.int x0, .int x1, .int x2] h (some (.int r.1), r.2) :=
  bb_ok (L := [.int x0, .int x1, .int x2]) (by decide) (Nat.le_of_ble_eq_true rfl) rfl (bb_fewer (L' := [.int x0, .int x1, .int x2]) (And.intro rfl (And.intro rfl (And.intro rfl trivial))) (j_X8_in_0 _ _ _ _ hf))
abbrev rm_X8_has : Room := { frames := 0, cells := 0, slots := 0, locals := 0 }
set_option maxRecDepth 100000 in
set_option maxHeartbeats 4000000 in
theorem j_X8_has_14 {r : Int32 × bb_H} : ∀ (z0 : Int32) (h : bb_H), m_X8_has_14 z0 h = some r → bb_J RX8 cX8_has 2 (some .boolean) rm_X8_has (some (.int r.1), r.2) 14 [.null, .null] [.int z0] h := by
  intro z0 h hf
  unfold m_X8_has_14 at hf
  obtain ⟨hn, rfl⟩ := bb_rz_spec hf
  exact bb_zret rfl hn rfl dX8_has_14
set_option maxRecDepth 100000 in
set_option maxHeartbeats 4000000 in
theorem j_X8_has_0 {r : Int32 × bb_H} : ∀ (x0 : Int32) (x1 : Int32) (h : bb_H), m_X8_has x0 x1 h = some r → bb_J RX8 cX8_has 2 (some .boolean) rm_X8_has (some (.int r.1), r.2) 0 [.int x0, .int x1] [] h := by
  intro x0 x1 h hf
  unfold m_X8_has at hf
  refine bb_iload_n dX8_has_0 rfl ?_
  refine bb_iload_n dX8_has_1 rfl ?_
  refine bb_ishr dX8_has_2 ?_
  refine bb_iconst (v := 1) dX8_has_3 (by decide) ?_
  refine bb_iand dX8_has_4 ?_
  refine bb_iconst (v := 1) dX8_has_5 (by decide) ?_
  refine bb_icmp_ne (tgt := 13) dX8_has_6 (by decide) (fun c6 => ?_) (fun c6 => ?_)
  · rw [if_neg c6] at hf
    refine bb_iconst (v := 0) dX8_has_13 (by decide) ?_
    refine bb_fewer (L' := [.null, .null]) trivial ?_
    exact j_X8_has_14 _ _ hf
  rw [if_pos c6] at hf
  refine bb_iconst (v := 1) dX8_has_9 (by decide) ?_
  refine bb_goto (tgt := 14) dX8_has_10 (by decide) ?_
  refine bb_fewer (L' := [.null, .null]) trivial ?_
  exact j_X8_has_14 _ _ hf
theorem ok_X8_has {x0 : Int32} {x1 : Int32} {h : bb_H} {r : Int32 × bb_H} (hf : m_X8_has x0 x1 h = some r) : bb_Ok yX8_has cX8_has 2 (some .boolean) rm_X8_has [.int x0, .int x1] h (some (.int r.1), r.2) :=
  bb_ok (L := [.int x0, .int x1]) (by decide) (Nat.le_of_ble_eq_true rfl) rfl (bb_fewer (L' := [.int x0, .int x1]) (And.intro rfl (And.intro rfl trivial)) (j_X8_has_0 _ _ _ hf))
abbrev rm_X8_isMan : Room := { frames := 1, cells := 0, slots := 0, locals := 22 }
set_option maxRecDepth 100000 in
set_option maxHeartbeats 4000000 in
theorem j_X8_isMan_0 {r : Int32 × bb_H} : ∀ (x0 : Nat) (x1 : Int32) (h : bb_H), m_X8_isMan x0 x1 h = some r → bb_J RX8 cX8_isMan 2 (some .boolean) rm_X8_isMan (some (.int r.1), r.2) 0 [.ref x0, .int x1] [] h := by
  intro x0 x1 h hf
  unfold m_X8_isMan at hf
  refine bb_iload_n dX8_isMan_0 rfl ?_
  refine bb_iconst (v := 0) dX8_isMan_1 (by decide) ?_
  refine bb_aload_n dX8_isMan_2 rfl ?_
  obtain ⟨t3, h3, hf⟩ := bb_bind hf
  refine bb_getR fl_X8_7 dX8_isMan_3 h3 ?_
  refine bb_iconst (v := 0) dX8_isMan_6 (by decide) ?_
  obtain ⟨t7, h7, hf⟩ := bb_bind hf
  refine bb_iaload dX8_isMan_7 h7 ?_
  refine bb_iconst (v := 1) dX8_isMan_8 (by decide) ?_
  refine bb_isub dX8_isMan_9 ?_
  obtain ⟨r10, h10, hf⟩ := bb_bind hf
  refine bb_invS (as := [.int x1, .int 0, .int (t7 - 1)]) is_X8_44 (by unfold bb_rr; decide) dX8_isMan_10 rfl rfl (Nat.le_of_ble_eq_true rfl) (ok_X8_in h10) ?_
  obtain ⟨hn, rfl⟩ := bb_rz_spec hf
  exact bb_zret rfl hn rfl dX8_isMan_13
theorem ok_X8_isMan {x0 : Nat} {x1 : Int32} {h : bb_H} {r : Int32 × bb_H} (hf : m_X8_isMan x0 x1 h = some r) : bb_Ok yX8_isMan cX8_isMan 2 (some .boolean) rm_X8_isMan [.ref x0, .int x1] h (some (.int r.1), r.2) :=
  bb_ok (L := [.ref x0, .int x1]) (by decide) (Nat.le_of_ble_eq_true rfl) rfl (bb_fewer (L' := [.ref x0, .int x1]) (And.intro rfl (And.intro rfl trivial)) (j_X8_isMan_0 _ _ _ hf))
abbrev rm_X8_seatOf : Room := { frames := 0, cells := 0, slots := 0, locals := 0 }
set_option maxRecDepth 100000 in
set_option maxHeartbeats 4000000 in
theorem j_X8_seatOf_33 {r : Int32 × bb_H} {k5 : Nat → Int32 → Int32 → Int32 → bb_H → Option (Int32 × bb_H)} (hk5 : ∀ (x0 : Nat) (x1 : Int32) (x2 : Int32) (x3 : Int32) (h : bb_H), k5 x0 x1 x2 x3 h = some r → bb_J RX8 cX8_seatOf 4 (some .int) rm_X8_seatOf (some (.int r.1), r.2) 5 [.ref x0, .int x1, .int x2, .int x3] [] h) : ∀ (x0 : Nat) (x1 : Int32) (x3 : Int32) (z0 : Int32) (h : bb_H), m_X8_seatOf_33 k5 x0 x1 x3 z0 h = some r → bb_J RX8 cX8_seatOf 4 (some .int) rm_X8_seatOf (some (.int r.1), r.2) 33 [.ref x0, .int x1, .null, .int x3] [.int z0] h := by
  intro x0 x1 x3 z0 h hf
  unfold m_X8_seatOf_33 at hf
  refine bb_istore_n (L' := [.ref x0, .int x1, .int z0, .int x3]) dX8_seatOf_33 (by decide) rfl rfl ?_
  refine bb_iinc (v := x3 + 1) (L' := [.ref x0, .int x1, .int z0, .int (x3 + 1)]) dX8_seatOf_34 rfl rfl (by decide) rfl rfl ?_
  refine bb_goto (tgt := 5) dX8_seatOf_37 (by decide) ?_
  refine bb_fewer (L' := [.ref x0, .int x1, .int z0, .int (x3 + 1)]) (And.intro rfl (And.intro rfl (And.intro rfl (And.intro rfl trivial)))) ?_
  exact hk5 _ _ _ _ _ hf
set_option maxRecDepth 100000 in
set_option maxHeartbeats 4000000 in
theorem j_X8_seatOf_5 {r : Int32 × bb_H} : ∀ (n : Nat) (x0 : Nat) (x1 : Int32) (x2 : Int32) (x3 : Int32) (h : bb_H), m_X8_seatOf_5 n x0 x1 x2 x3 h = some r → bb_J RX8 cX8_seatOf 4 (some .int) rm_X8_seatOf (some (.int r.1), r.2) 5 [.ref x0, .int x1, .int x2, .int x3] [] h := by
  intro n
  induction n with
  | zero =>
    intro x0 x1 x2 x3 h hf
    exact absurd hf (fun z => by cases z)
  | succ n ih =>
    intro x0 x1 x2 x3 h hf
    unfold m_X8_seatOf_5 at hf
    refine bb_iload_n dX8_seatOf_5 rfl ?_
    refine bb_aload_n dX8_seatOf_6 rfl ?_
    obtain ⟨t7, h7, hf⟩ := bb_bind hf
    refine bb_getR fl_X8_7 dX8_seatOf_7 h7 ?_
    refine bb_iconst (v := 1) dX8_seatOf_10 (by decide) ?_
    obtain ⟨t11, h11, hf⟩ := bb_bind hf
    refine bb_iaload dX8_seatOf_11 h11 ?_
    refine bb_icmp_ge (tgt := 40) dX8_seatOf_12 (by decide) (fun c12 => ?_) (fun c12 => ?_)
    · rw [if_pos c12] at hf
      refine bb_iload_n dX8_seatOf_40 rfl ?_
      obtain rfl := Option.some.inj hf
      exact bb_iret rfl rfl dX8_seatOf_41
    rw [if_neg c12] at hf
    refine bb_aload_n dX8_seatOf_15 rfl ?_
    obtain ⟨t16, h16, hf⟩ := bb_bind hf
    refine bb_getR fl_X8_7 dX8_seatOf_16 h16 ?_
    refine bb_bipush (v := 10) dX8_seatOf_19 (by decide) ?_
    refine bb_iload_n dX8_seatOf_21 rfl ?_
    refine bb_iadd dX8_seatOf_22 ?_
    obtain ⟨t23, h23, hf⟩ := bb_bind hf
    refine bb_iaload dX8_seatOf_23 h23 ?_
    refine bb_iload_n dX8_seatOf_24 rfl ?_
    refine bb_icmp_ne (tgt := 32) dX8_seatOf_25 (by decide) (fun c25 => ?_) (fun c25 => ?_)
    · rw [if_neg c25] at hf
      refine bb_iload_n dX8_seatOf_32 rfl ?_
      refine bb_fewer (L' := [.ref x0, .int x1, .null, .int x3]) (And.intro rfl (And.intro rfl (And.intro rfl trivial))) ?_
      exact j_X8_seatOf_33 ih _ _ _ _ _ hf
    rw [if_pos c25] at hf
    refine bb_iload_n dX8_seatOf_28 rfl ?_
    refine bb_goto (tgt := 33) dX8_seatOf_29 (by decide) ?_
    refine bb_fewer (L' := [.ref x0, .int x1, .null, .int x3]) (And.intro rfl (And.intro rfl (And.intro rfl trivial))) ?_
    exact j_X8_seatOf_33 ih _ _ _ _ _ hf
set_option maxRecDepth 100000 in
set_option maxHeartbeats 4000000 in
theorem j_X8_seatOf_0 {r : Int32 × bb_H} : ∀ (x0 : Nat) (x1 : Int32) (h : bb_H), m_X8_seatOf x0 x1 h = some r → bb_J RX8 cX8_seatOf 4 (some .int) rm_X8_seatOf (some (.int r.1), r.2) 0 [.ref x0, .int x1, .null, .null] [] h := by
  intro x0 x1 h hf
  unfold m_X8_seatOf at hf
  refine bb_bipush (v := (-4)) dX8_seatOf_0 (by decide) ?_
  refine bb_istore_n (L' := [.ref x0, .int x1, .int (-4), .null]) dX8_seatOf_2 (by decide) rfl rfl ?_
  refine bb_iconst (v := 0) dX8_seatOf_3 (by decide) ?_
  refine bb_istore_n (L' := [.ref x0, .int x1, .int (-4), .int 0]) dX8_seatOf_4 (by decide) rfl rfl ?_
  refine bb_fewer (L' := [.ref x0, .int x1, .int (-4), .int 0]) (And.intro rfl (And.intro rfl (And.intro rfl (And.intro rfl trivial)))) ?_
  exact j_X8_seatOf_5 _ _ _ _ _ _ hf
theorem ok_X8_seatOf {x0 : Nat} {x1 : Int32} {h : bb_H} {r : Int32 × bb_H} (hf : m_X8_seatOf x0 x1 h = some r) : bb_Ok yX8_seatOf cX8_seatOf 4 (some .int) rm_X8_seatOf [.ref x0, .int x1] h (some (.int r.1), r.2) :=
  bb_ok (L := [.ref x0, .int x1, .null, .null]) (by decide) (Nat.le_of_ble_eq_true rfl) rfl (bb_fewer (L' := [.ref x0, .int x1, .null, .null]) (And.intro rfl (And.intro rfl trivial)) (j_X8_seatOf_0 _ _ _ hf))
abbrev rm_X8_onSeat : Room := { frames := 1, cells := 0, slots := 0, locals := 22 }
set_option maxRecDepth 100000 in
set_option maxHeartbeats 4000000 in
theorem j_X8_onSeat_30 {r : Int32 × bb_H} : ∀ (z0 : Int32) (h : bb_H), m_X8_onSeat_30 z0 h = some r → bb_J RX8 cX8_onSeat 2 (some .int) rm_X8_onSeat (some (.int r.1), r.2) 30 [.null, .null] [.int z0] h := by
  intro z0 h hf
  unfold m_X8_onSeat_30 at hf
  obtain rfl := Option.some.inj hf
  exact bb_iret rfl rfl dX8_onSeat_30
set_option maxRecDepth 100000 in
set_option maxHeartbeats 4000000 in
theorem j_X8_onSeat_0 {r : Int32 × bb_H} : ∀ (x0 : Nat) (x1 : Int32) (h : bb_H), m_X8_onSeat x0 x1 h = some r → bb_J RX8 cX8_onSeat 2 (some .int) rm_X8_onSeat (some (.int r.1), r.2) 0 [.ref x0, .int x1] [] h := by
  intro x0 x1 h hf
  unfold m_X8_onSeat at hf
  refine bb_iload_n dX8_onSeat_0 rfl ?_
  refine bb_iconst (v := 0) dX8_onSeat_1 (by decide) ?_
  refine bb_aload_n dX8_onSeat_2 rfl ?_
  obtain ⟨t3, h3, hf⟩ := bb_bind hf
  refine bb_getR fl_X8_7 dX8_onSeat_3 h3 ?_
  refine bb_iconst (v := 1) dX8_onSeat_6 (by decide) ?_
  obtain ⟨t7, h7, hf⟩ := bb_bind hf
  refine bb_iaload dX8_onSeat_7 h7 ?_
  refine bb_iconst (v := 1) dX8_onSeat_8 (by decide) ?_
  refine bb_isub dX8_onSeat_9 ?_
  obtain ⟨r10, h10, hf⟩ := bb_bind hf
  refine bb_invS (as := [.int x1, .int 0, .int (t7 - 1)]) is_X8_44 (by unfold bb_rr; decide) dX8_onSeat_10 rfl rfl (Nat.le_of_ble_eq_true rfl) (ok_X8_in h10) ?_
  refine bb_if_eq (tgt := 28) dX8_onSeat_13 (by decide) (fun c13 => ?_) (fun c13 => ?_)
  · rw [if_pos c13] at hf
    refine bb_bipush (v := (-4)) dX8_onSeat_28 (by decide) ?_
    refine bb_fewer (L' := [.null, .null]) trivial ?_
    exact j_X8_onSeat_30 _ _ hf
  rw [if_neg c13] at hf
  refine bb_aload_n dX8_onSeat_16 rfl ?_
  obtain ⟨t17, h17, hf⟩ := bb_bind hf
  refine bb_getR fl_X8_7 dX8_onSeat_17 h17 ?_
  refine bb_bipush (v := 10) dX8_onSeat_20 (by decide) ?_
  refine bb_iload_n dX8_onSeat_22 rfl ?_
  refine bb_iadd dX8_onSeat_23 ?_
  obtain ⟨t24, h24, hf⟩ := bb_bind hf
  refine bb_iaload dX8_onSeat_24 h24 ?_
  refine bb_goto (tgt := 30) dX8_onSeat_25 (by decide) ?_
  refine bb_fewer (L' := [.null, .null]) trivial ?_
  exact j_X8_onSeat_30 _ _ hf
theorem ok_X8_onSeat {x0 : Nat} {x1 : Int32} {h : bb_H} {r : Int32 × bb_H} (hf : m_X8_onSeat x0 x1 h = some r) : bb_Ok yX8_onSeat cX8_onSeat 2 (some .int) rm_X8_onSeat [.ref x0, .int x1] h (some (.int r.1), r.2) :=
  bb_ok (L := [.ref x0, .int x1]) (by decide) (Nat.le_of_ble_eq_true rfl) rfl (bb_fewer (L' := [.ref x0, .int x1]) (And.intro rfl (And.intro rfl trivial)) (j_X8_onSeat_0 _ _ _ hf))
abbrev rm_X8_bench : Room := { frames := 0, cells := 0, slots := 0, locals := 0 }
set_option maxRecDepth 100000 in
set_option maxHeartbeats 4000000 in
theorem j_X8_bench_4 {r : Int32 × bb_H} : ∀ (n : Nat) (x0 : Nat) (x1 : Int32) (x2 : Int32) (h : bb_H), m_X8_bench_4 n x0 x1 x2 h = some r → bb_J RX8 cX8_bench 3 (some .int) rm_X8_bench (some (.int r.1), r.2) 4 [.ref x0, .int x1, .int x2] [] h := by
  intro n
  induction n with
  | zero =>
    intro x0 x1 x2 h hf
    exact absurd hf (fun z => by cases z)
  | succ n ih =>
    intro x0 x1 x2 h hf
    unfold m_X8_bench_4 at hf
    refine bb_iload_n dX8_bench_4 rfl ?_
    refine bb_aload_n dX8_bench_5 rfl ?_
    obtain ⟨t6, h6, hf⟩ := bb_bind hf
    refine bb_getR fl_X8_7 dX8_bench_6 h6 ?_
    refine bb_iconst (v := 1) dX8_bench_9 (by decide) ?_
    obtain ⟨t10, h10, hf⟩ := bb_bind hf
    refine bb_iaload dX8_bench_10 h10 ?_
    refine bb_icmp_ge (tgt := 34) dX8_bench_11 (by decide) (fun c11 => ?_) (fun c11 => ?_)
    · rw [if_pos c11] at hf
      refine bb_iload_n dX8_bench_34 rfl ?_
      obtain rfl := Option.some.inj hf
      exact bb_iret rfl rfl dX8_bench_35
    rw [if_neg c11] at hf
    refine bb_iload_n dX8_bench_14 rfl ?_
    refine bb_iconst (v := 1) dX8_bench_15 (by decide) ?_
    refine bb_aload_n dX8_bench_16 rfl ?_
    obtain ⟨t17, h17, hf⟩ := bb_bind hf
    refine bb_getR fl_X8_7 dX8_bench_17 h17 ?_
    refine bb_bipush (v := 10) dX8_bench_20 (by decide) ?_
    refine bb_iload_n dX8_bench_22 rfl ?_
    refine bb_iadd dX8_bench_23 ?_
    obtain ⟨t24, h24, hf⟩ := bb_bind hf
    refine bb_iaload dX8_bench_24 h24 ?_
    refine bb_ishl dX8_bench_25 ?_
    refine bb_ior dX8_bench_26 ?_
    refine bb_istore_n (L' := [.ref x0, .int (x1 ||| (1 <<< (t24 &&& 31))), .int x2]) dX8_bench_27 (by decide) rfl rfl ?_
    refine bb_iinc (v := x2 + 1) (L' := [.ref x0, .int (x1 ||| (1 <<< (t24 &&& 31))), .int (x2 + 1)]) dX8_bench_28 rfl rfl (by decide) rfl rfl ?_
    refine bb_goto (tgt := 4) dX8_bench_31 (by decide) ?_
    refine bb_fewer (L' := [.ref x0, .int (x1 ||| (1 <<< (t24 &&& 31))), .int (x2 + 1)]) (And.intro rfl (And.intro rfl (And.intro rfl trivial))) ?_
    exact ih _ _ _ _ hf
set_option maxRecDepth 100000 in
set_option maxHeartbeats 4000000 in
theorem j_X8_bench_0 {r : Int32 × bb_H} : ∀ (x0 : Nat) (h : bb_H), m_X8_bench x0 h = some r → bb_J RX8 cX8_bench 3 (some .int) rm_X8_bench (some (.int r.1), r.2) 0 [.ref x0, .null, .null] [] h := by
  intro x0 h hf
  unfold m_X8_bench at hf
  refine bb_iconst (v := 0) dX8_bench_0 (by decide) ?_
  refine bb_istore_n (L' := [.ref x0, .int 0, .null]) dX8_bench_1 (by decide) rfl rfl ?_
  refine bb_iconst (v := 0) dX8_bench_2 (by decide) ?_
  refine bb_istore_n (L' := [.ref x0, .int 0, .int 0]) dX8_bench_3 (by decide) rfl rfl ?_
  refine bb_fewer (L' := [.ref x0, .int 0, .int 0]) (And.intro rfl (And.intro rfl (And.intro rfl trivial))) ?_
  exact j_X8_bench_4 _ _ _ _ _ hf
theorem ok_X8_bench {x0 : Nat} {h : bb_H} {r : Int32 × bb_H} (hf : m_X8_bench x0 h = some r) : bb_Ok yX8_bench cX8_bench 3 (some .int) rm_X8_bench [.ref x0] h (some (.int r.1), r.2) :=
  bb_ok (L := [.ref x0, .null, .null]) (by decide) (Nat.le_of_ble_eq_true rfl) rfl (bb_fewer (L' := [.ref x0, .null, .null]) (And.intro rfl trivial) (j_X8_bench_0 _ _ hf))
abbrev rm_X8_isTaken : Room := { frames := 0, cells := 0, slots := 0, locals := 0 }
set_option maxRecDepth 100000 in
set_option maxHeartbeats 4000000 in
theorem j_X8_isTaken_43 {r : Int32 × bb_H} {k5 : Nat → Int32 → Int32 → Int32 → Int32 → bb_H → Option (Int32 × bb_H)} (hk5 : ∀ (x0 : Nat) (x1 : Int32) (x2 : Int32) (x3 : Int32) (x4 : Int32) (h : bb_H), k5 x0 x1 x2 x3 x4 h = some r → bb_J RX8 cX8_isTaken 5 (some .boolean) rm_X8_isTaken (some (.int r.1), r.2) 5 [.ref x0, .int x1, .int x2, .int x3, .int x4] [] h) : ∀ (x0 : Nat) (x1 : Int32) (x2 : Int32) (x4 : Int32) (z0 : Int32) (h : bb_H), m_X8_isTaken_43 k5 x0 x1 x2 x4 z0 h = some r → bb_J RX8 cX8_isTaken 5 (some .boolean) rm_X8_isTaken (some (.int r.1), r.2) 43 [.ref x0, .int x1, .int x2, .null, .int x4] [.int z0] h := by
  intro x0 x1 x2 x4 z0 h hf
  unfold m_X8_isTaken_43 at hf
  refine bb_istore_n (L' := [.ref x0, .int x1, .int x2, .int z0, .int x4]) dX8_isTaken_43 (by decide) rfl rfl ?_
  refine bb_iinc (v := x4 + 1) (L' := [.ref x0, .int x1, .int x2, .int z0, .int (x4 + 1)]) dX8_isTaken_44 rfl rfl (by decide) rfl rfl ?_
  refine bb_goto (tgt := 5) dX8_isTaken_47 (by decide) ?_
  refine bb_fewer (L' := [.ref x0, .int x1, .int x2, .int z0, .int (x4 + 1)]) (And.intro rfl (And.intro rfl (And.intro rfl (And.intro rfl (And.intro rfl trivial))))) ?_
  exact hk5 _ _ _ _ _ _ hf
set_option maxRecDepth 100000 in
set_option maxHeartbeats 4000000 in
theorem j_X8_isTaken_38 {r : Int32 × bb_H} {k5 : Nat → Int32 → Int32 → Int32 → Int32 → bb_H → Option (Int32 × bb_H)} (hk5 : ∀ (x0 : Nat) (x1 : Int32) (x2 : Int32) (x3 : Int32) (x4 : Int32) (h : bb_H), k5 x0 x1 x2 x3 x4 h = some r → bb_J RX8 cX8_isTaken 5 (some .boolean) rm_X8_isTaken (some (.int r.1), r.2) 5 [.ref x0, .int x1, .int x2, .int x3, .int x4] [] h) : ∀ (x0 : Nat) (x1 : Int32) (x2 : Int32) (x4 : Int32) (h : bb_H), m_X8_isTaken_38 k5 x0 x1 x2 x4 h = some r → bb_J RX8 cX8_isTaken 5 (some .boolean) rm_X8_isTaken (some (.int r.1), r.2) 38 [.ref x0, .int x1, .int x2, .null, .int x4] [] h := by
  intro x0 x1 x2 x4 h hf
  unfold m_X8_isTaken_38 at hf
  refine bb_iconst (v := 1) dX8_isTaken_38 (by decide) ?_
  refine bb_goto (tgt := 43) dX8_isTaken_39 (by decide) ?_
  refine bb_fewer (L' := [.ref x0, .int x1, .int x2, .null, .int x4]) (And.intro rfl (And.intro rfl (And.intro rfl (And.intro rfl trivial)))) ?_
  exact j_X8_isTaken_43 hk5 _ _ _ _ _ _ hf
set_option maxRecDepth 100000 in
set_option maxHeartbeats 4000000 in
theorem j_X8_isTaken_5 {r : Int32 × bb_H} : ∀ (n : Nat) (x0 : Nat) (x1 : Int32) (x2 : Int32) (x3 : Int32) (x4 : Int32) (h : bb_H), m_X8_isTaken_5 n x0 x1 x2 x3 x4 h = some r → bb_J RX8 cX8_isTaken 5 (some .boolean) rm_X8_isTaken (some (.int r.1), r.2) 5 [.ref x0, .int x1, .int x2, .int x3, .int x4] [] h := by
  intro n
  induction n with
  | zero =>
    intro x0 x1 x2 x3 x4 h hf
    exact absurd hf (fun z => by cases z)
  | succ n ih =>
    intro x0 x1 x2 x3 x4 h hf
    unfold m_X8_isTaken_5 at hf
    refine bb_iload dX8_isTaken_5 rfl ?_
    refine bb_aload_n dX8_isTaken_7 rfl ?_
    obtain ⟨t8, h8, hf⟩ := bb_bind hf
    refine bb_getR fl_X8_7 dX8_isTaken_8 h8 ?_
    refine bb_iconst (v := 0) dX8_isTaken_11 (by decide) ?_
    obtain ⟨t12, h12, hf⟩ := bb_bind hf
    refine bb_iaload dX8_isTaken_12 h12 ?_
    refine bb_icmp_ge (tgt := 50) dX8_isTaken_13 (by decide) (fun c13 => ?_) (fun c13 => ?_)
    · rw [if_pos c13] at hf
      refine bb_iload_n dX8_isTaken_50 rfl ?_
      obtain ⟨hn, rfl⟩ := bb_rz_spec hf
      exact bb_zret rfl hn rfl dX8_isTaken_51
    rw [if_neg c13] at hf
    refine bb_iload_n dX8_isTaken_16 rfl ?_
    refine bb_if_ne (tgt := 38) dX8_isTaken_17 (by decide) (fun c17 => ?_) (fun c17 => ?_)
    · rw [if_neg c17] at hf
      refine bb_fewer (L' := [.ref x0, .int x1, .int x2, .null, .int x4]) (And.intro rfl (And.intro rfl (And.intro rfl (And.intro rfl trivial)))) ?_
      exact j_X8_isTaken_38 ih _ _ _ _ _ hf
    rw [if_pos c17] at hf
    refine bb_aload_n dX8_isTaken_20 rfl ?_
    obtain ⟨t21, h21, hf⟩ := bb_bind hf
    refine bb_getR fl_X8_7 dX8_isTaken_21 h21 ?_
    refine bb_bipush (v := 22) dX8_isTaken_24 (by decide) ?_
    refine bb_iconst (v := 3) dX8_isTaken_26 (by decide) ?_
    refine bb_iload dX8_isTaken_27 rfl ?_
    refine bb_imul dX8_isTaken_29 ?_
    refine bb_iadd dX8_isTaken_30 ?_
    refine bb_iload_n dX8_isTaken_31 rfl ?_
    refine bb_iadd dX8_isTaken_32 ?_
    obtain ⟨t33, h33, hf⟩ := bb_bind hf
    refine bb_iaload dX8_isTaken_33 h33 ?_
    refine bb_iload_n dX8_isTaken_34 rfl ?_
    refine bb_icmp_ne (tgt := 42) dX8_isTaken_35 (by decide) (fun c35 => ?_) (fun c35 => ?_)
    · rw [if_neg c35] at hf
      refine bb_iconst (v := 0) dX8_isTaken_42 (by decide) ?_
      refine bb_fewer (L' := [.ref x0, .int x1, .int x2, .null, .int x4]) (And.intro rfl (And.intro rfl (And.intro rfl (And.intro rfl trivial)))) ?_
      exact j_X8_isTaken_43 ih _ _ _ _ _ _ hf
    rw [if_pos c35] at hf
    refine bb_fewer (L' := [.ref x0, .int x1, .int x2, .null, .int x4]) (And.intro rfl (And.intro rfl (And.intro rfl (And.intro rfl trivial)))) ?_
    exact j_X8_isTaken_38 ih _ _ _ _ _ hf
set_option maxRecDepth 100000 in
set_option maxHeartbeats 4000000 in
theorem j_X8_isTaken_0 {r : Int32 × bb_H} : ∀ (x0 : Nat) (x1 : Int32) (x2 : Int32) (h : bb_H), m_X8_isTaken x0 x1 x2 h = some r → bb_J RX8 cX8_isTaken 5 (some .boolean) rm_X8_isTaken (some (.int r.1), r.2) 0 [.ref x0, .int x1, .int x2, .null, .null] [] h := by
  intro x0 x1 x2 h hf
  unfold m_X8_isTaken at hf
  refine bb_iconst (v := 0) dX8_isTaken_0 (by decide) ?_
  refine bb_istore_n (L' := [.ref x0, .int x1, .int x2, .int 0, .null]) dX8_isTaken_1 (by decide) rfl rfl ?_
  refine bb_iconst (v := 0) dX8_isTaken_2 (by decide) ?_
  refine bb_istore (L' := [.ref x0, .int x1, .int x2, .int 0, .int 0]) dX8_isTaken_3 (by decide) rfl rfl ?_
  refine bb_fewer (L' := [.ref x0, .int x1, .int x2, .int 0, .int 0]) (And.intro rfl (And.intro rfl (And.intro rfl (And.intro rfl (And.intro rfl trivial))))) ?_
  exact j_X8_isTaken_5 _ _ _ _ _ _ _ hf
theorem ok_X8_isTaken {x0 : Nat} {x1 : Int32} {x2 : Int32} {h : bb_H} {r : Int32 × bb_H} (hf : m_X8_isTaken x0 x1 x2 h = some r) : bb_Ok yX8_isTaken cX8_isTaken 5 (some .boolean) rm_X8_isTaken [.ref x0, .int x1, .int x2] h (some (.int r.1), r.2) :=
  bb_ok (L := [.ref x0, .int x1, .int x2, .null, .null]) (by decide) (Nat.le_of_ble_eq_true rfl) rfl (bb_fewer (L' := [.ref x0, .int x1, .int x2, .null, .null]) (And.intro rfl (And.intro rfl (And.intro rfl trivial))) (j_X8_isTaken_0 _ _ _ _ hf))
abbrev rm_X8_man : Room := { frames := 1, cells := 0, slots := 0, locals := 24 }
set_option maxRecDepth 100000 in
set_option maxHeartbeats 4000000 in
theorem j_X8_man_19 {r : Int32 × bb_H} : ∀ (h : bb_H), m_X8_man_19 h = some r → bb_J RX8 cX8_man 5 (some .int) rm_X8_man (some (.int r.1), r.2) 19 [.null, .null, .null, .null, .null] [] h := by
  intro h hf
  unfold m_X8_man_19 at hf
  refine bb_iconst (v := (-1)) dX8_man_19 (by decide) ?_
  obtain rfl := Option.some.inj hf
  exact bb_iret rfl rfl dX8_man_20
set_option maxRecDepth 100000 in
set_option maxHeartbeats 4000000 in
theorem j_X8_man_64 {r : Int32 × bb_H} : ∀ (h : bb_H), m_X8_man_64 h = some r → bb_J RX8 cX8_man 5 (some .int) rm_X8_man (some (.int r.1), r.2) 64 [.null, .null, .null, .null, .null] [] h := by
  intro h hf
  unfold m_X8_man_64 at hf
  refine bb_bipush (v := (-2)) dX8_man_64 (by decide) ?_
  obtain rfl := Option.some.inj hf
  exact bb_iret rfl rfl dX8_man_66
set_option maxRecDepth 100000 in
set_option maxHeartbeats 4000000 in
theorem j_X8_man_89 {r : Int32 × bb_H} : ∀ (n : Nat) (x0 : Nat) (x3 : Int32) (x4 : Int32) (h : bb_H), m_X8_man_89 n x0 x3 x4 h = some r → bb_J RX8 cX8_man 5 (some .int) rm_X8_man (some (.int r.1), r.2) 89 [.ref x0, .null, .null, .int x3, .int x4] [] h := by
  intro n
  induction n with
  | zero =>
    intro x0 x3 x4 h hf
    exact absurd hf (fun z => by cases z)
  | succ n ih =>
    intro x0 x3 x4 h hf
    unfold m_X8_man_89 at hf
    refine bb_iload dX8_man_89 rfl ?_
    refine bb_iconst (v := 3) dX8_man_91 (by decide) ?_
    refine bb_icmp_ge (tgt := 116) dX8_man_92 (by decide) (fun c92 => ?_) (fun c92 => ?_)
    · rw [if_pos c92] at hf
      refine bb_aload_n dX8_man_116 rfl ?_
      obtain ⟨t117, h117, hf⟩ := bb_bind hf
      refine bb_getR fl_X8_7 dX8_man_117 h117 ?_
      refine bb_bipush (v := 10) dX8_man_120 (by decide) ?_
      refine bb_aload_n dX8_man_122 rfl ?_
      obtain ⟨t123, h123, hf⟩ := bb_bind hf
      refine bb_getR fl_X8_7 dX8_man_123 h123 ?_
      refine bb_iconst (v := 1) dX8_man_126 (by decide) ?_
      obtain ⟨t127, h127, hf⟩ := bb_bind hf
      refine bb_iaload dX8_man_127 h127 ?_
      refine bb_iadd dX8_man_128 ?_
      refine bb_iload_n dX8_man_129 rfl ?_
      obtain ⟨g130, h130, hf⟩ := bb_bind hf
      refine bb_iastore dX8_man_130 h130 ?_
      refine bb_aload_n dX8_man_131 rfl ?_
      obtain ⟨t132, h132, hf⟩ := bb_bind hf
      refine bb_getR fl_X8_7 dX8_man_132 h132 ?_
      refine bb_iconst (v := 1) dX8_man_135 (by decide) ?_
      refine bb_dup2 dX8_man_136 rfl rfl ?_
      obtain ⟨t137, h137, hf⟩ := bb_bind hf
      refine bb_iaload dX8_man_137 h137 ?_
      refine bb_iconst (v := 1) dX8_man_138 (by decide) ?_
      refine bb_iadd dX8_man_139 ?_
      obtain ⟨g140, h140, hf⟩ := bb_bind hf
      refine bb_iastore dX8_man_140 h140 ?_
      refine bb_aload_n dX8_man_141 rfl ?_
      obtain ⟨t142, h142, hf⟩ := bb_bind hf
      refine bb_getR fl_X8_7 dX8_man_142 h142 ?_
      refine bb_iconst (v := 0) dX8_man_145 (by decide) ?_
      refine bb_dup2 dX8_man_146 rfl rfl ?_
      obtain ⟨t147, h147, hf⟩ := bb_bind hf
      refine bb_iaload dX8_man_147 h147 ?_
      refine bb_iconst (v := 1) dX8_man_148 (by decide) ?_
      refine bb_iadd dX8_man_149 ?_
      obtain ⟨g150, h150, hf⟩ := bb_bind hf
      refine bb_iastore dX8_man_150 h150 ?_
      refine bb_aload_n dX8_man_151 rfl ?_
      obtain ⟨t152, h152, hf⟩ := bb_bind hf
      refine bb_getR fl_X8_7 dX8_man_152 h152 ?_
      refine bb_bipush (v := 40) dX8_man_155 (by decide) ?_
      refine bb_iconst (v := 0) dX8_man_157 (by decide) ?_
      obtain ⟨g158, h158, hf⟩ := bb_bind hf
      refine bb_iastore dX8_man_158 h158 ?_
      refine bb_iload_n dX8_man_159 rfl ?_
      obtain rfl := Option.some.inj hf
      exact bb_iret rfl rfl dX8_man_160
    rw [if_neg c92] at hf
    refine bb_aload_n dX8_man_95 rfl ?_
    obtain ⟨t96, h96, hf⟩ := bb_bind hf
    refine bb_getR fl_X8_7 dX8_man_96 h96 ?_
    refine bb_bipush (v := 22) dX8_man_99 (by decide) ?_
    refine bb_iconst (v := 3) dX8_man_101 (by decide) ?_
    refine bb_iload_n dX8_man_102 rfl ?_
    refine bb_imul dX8_man_103 ?_
    refine bb_iadd dX8_man_104 ?_
    refine bb_iload dX8_man_105 rfl ?_
    refine bb_iadd dX8_man_107 ?_
    refine bb_iload_n dX8_man_108 rfl ?_
    obtain ⟨g109, h109, hf⟩ := bb_bind hf
    refine bb_iastore dX8_man_109 h109 ?_
    refine bb_iinc (v := x4 + 1) (L' := [.ref x0, .null, .null, .int x3, .int (x4 + 1)]) dX8_man_110 rfl rfl (by decide) rfl rfl ?_
    refine bb_goto (tgt := 89) dX8_man_113 (by decide) ?_
    refine bb_fewer (L' := [.ref x0, .null, .null, .int x3, .int (x4 + 1)]) (And.intro rfl (And.intro rfl (And.intro rfl trivial))) ?_
    exact ih _ _ _ _ hf
set_option maxRecDepth 100000 in
set_option maxHeartbeats 4000000 in
theorem j_X8_man_0 {r : Int32 × bb_H} : ∀ (x0 : Nat) (x1 : Int32) (x2 : Int32) (h : bb_H), m_X8_man x0 x1 x2 h = some r → bb_J RX8 cX8_man 5 (some .int) rm_X8_man (some (.int r.1), r.2) 0 [.ref x0, .int x1, .int x2, .null, .null] [] h := by
  intro x0 x1 x2 h hf
  unfold m_X8_man at hf
  refine bb_iload_n dX8_man_0 rfl ?_
  refine bb_iconst (v := 0) dX8_man_1 (by decide) ?_
  refine bb_iconst (v := 4) dX8_man_2 (by decide) ?_
  obtain ⟨r3, h3, hf⟩ := bb_bind hf
  refine bb_invS (as := [.int x1, .int 0, .int 4]) is_X8_44 (by unfold bb_rr; decide) dX8_man_3 rfl rfl (Nat.le_of_ble_eq_true rfl) (ok_X8_in h3) ?_
  refine bb_if_eq (tgt := 19) dX8_man_6 (by decide) (fun c6 => ?_) (fun c6 => ?_)
  · rw [if_pos c6] at hf
    refine bb_fewer (L' := [.null, .null, .null, .null, .null]) trivial ?_
    exact j_X8_man_19 _ hf
  rw [if_neg c6] at hf
  refine bb_iload_n dX8_man_9 rfl ?_
  refine bb_iconst (v := 1) dX8_man_10 (by decide) ?_
  refine bb_bipush (v := 60) dX8_man_11 (by decide) ?_
  obtain ⟨r13, h13, hf⟩ := bb_bind hf
  refine bb_invS (as := [.int x2, .int 1, .int 60]) is_X8_44 (by unfold bb_rr; decide) dX8_man_13 rfl rfl (Nat.le_of_ble_eq_true rfl) (ok_X8_in h13) ?_
  refine bb_if_ne (tgt := 21) dX8_man_16 (by decide) (fun c16 => ?_) (fun c16 => ?_)
  · rw [if_neg c16] at hf
    refine bb_aload_n dX8_man_21 rfl ?_
    obtain ⟨t22, h22, hf⟩ := bb_bind hf
    refine bb_getR fl_X8_7 dX8_man_22 h22 ?_
    refine bb_iconst (v := 0) dX8_man_25 (by decide) ?_
    obtain ⟨t26, h26, hf⟩ := bb_bind hf
    refine bb_iaload dX8_man_26 h26 ?_
    refine bb_istore_n (L' := [.ref x0, .int x1, .int x2, .int t26, .null]) dX8_man_27 (by decide) rfl rfl ?_
    refine bb_iload_n dX8_man_28 rfl ?_
    refine bb_bipush (v := 6) dX8_man_29 (by decide) ?_
    refine bb_icmp_ne (tgt := 37) dX8_man_31 (by decide) (fun c31 => ?_) (fun c31 => ?_)
    · rw [if_neg c31] at hf
      refine bb_aload_n dX8_man_37 rfl ?_
      refine bb_iconst (v := 0) dX8_man_38 (by decide) ?_
      refine bb_iload_n dX8_man_39 rfl ?_
      obtain ⟨r40, h40, hf⟩ := bb_bind hf
      obtain ⟨⟨v40, b40⟩, h40⟩ := bb_rcv_spec h40
      refine bb_invV (ci := 8) (as := [.int 0, .int t26]) iv_X8_48 (by unfold bb_rr; decide) rfl dX8_man_40 rfl rfl b40 (Nat.le_of_ble_eq_true rfl) (ok_X8_isTaken h40) ?_
      refine bb_if_ne (tgt := 64) dX8_man_43 (by decide) (fun c43 => ?_) (fun c43 => ?_)
      · rw [if_neg c43] at hf
        refine bb_fewer (L' := [.null, .null, .null, .null, .null]) trivial ?_
        exact j_X8_man_64 _ hf
      rw [if_pos c43] at hf
      refine bb_aload_n dX8_man_46 rfl ?_
      refine bb_iconst (v := 1) dX8_man_47 (by decide) ?_
      refine bb_iload_n dX8_man_48 rfl ?_
      obtain ⟨r49, h49, hf⟩ := bb_bind hf
      obtain ⟨⟨v49, b49⟩, h49⟩ := bb_rcv_spec h49
      refine bb_invV (ci := 8) (as := [.int 1, .int t26]) iv_X8_48 (by unfold bb_rr; decide) rfl dX8_man_49 rfl rfl b49 (Nat.le_of_ble_eq_true rfl) (ok_X8_isTaken h49) ?_
      refine bb_if_ne (tgt := 64) dX8_man_52 (by decide) (fun c52 => ?_) (fun c52 => ?_)
      · rw [if_neg c52] at hf
        refine bb_fewer (L' := [.null, .null, .null, .null, .null]) trivial ?_
        exact j_X8_man_64 _ hf
      rw [if_pos c52] at hf
      refine bb_aload_n dX8_man_55 rfl ?_
      refine bb_iconst (v := 2) dX8_man_56 (by decide) ?_
      refine bb_iload_n dX8_man_57 rfl ?_
      obtain ⟨r58, h58, hf⟩ := bb_bind hf
      obtain ⟨⟨v58, b58⟩, h58⟩ := bb_rcv_spec h58
      refine bb_invV (ci := 8) (as := [.int 2, .int t26]) iv_X8_48 (by unfold bb_rr; decide) rfl dX8_man_58 rfl rfl b58 (Nat.le_of_ble_eq_true rfl) (ok_X8_isTaken h58) ?_
      refine bb_if_eq (tgt := 67) dX8_man_61 (by decide) (fun c61 => ?_) (fun c61 => ?_)
      · rw [if_pos c61] at hf
        refine bb_aload_n dX8_man_67 rfl ?_
        obtain ⟨t68, h68, hf⟩ := bb_bind hf
        refine bb_getR fl_X8_7 dX8_man_68 h68 ?_
        refine bb_bipush (v := 16) dX8_man_71 (by decide) ?_
        refine bb_iload_n dX8_man_73 rfl ?_
        refine bb_iadd dX8_man_74 ?_
        refine bb_iload_n dX8_man_75 rfl ?_
        obtain ⟨g76, h76, hf⟩ := bb_bind hf
        refine bb_iastore dX8_man_76 h76 ?_
        refine bb_aload_n dX8_man_77 rfl ?_
        obtain ⟨t78, h78, hf⟩ := bb_bind hf
        refine bb_getR fl_X8_7 dX8_man_78 h78 ?_
        refine bb_iconst (v := 4) dX8_man_81 (by decide) ?_
        refine bb_iload_n dX8_man_82 rfl ?_
        refine bb_iadd dX8_man_83 ?_
        refine bb_iload_n dX8_man_84 rfl ?_
        obtain ⟨g85, h85, hf⟩ := bb_bind hf
        refine bb_iastore dX8_man_85 h85 ?_
        refine bb_iconst (v := 0) dX8_man_86 (by decide) ?_
        refine bb_istore (L' := [.ref x0, .int x1, .int x2, .int t26, .int 0]) dX8_man_87 (by decide) rfl rfl ?_
        refine bb_fewer (L' := [.ref x0, .null, .null, .int t26, .int 0]) (And.intro rfl (And.intro rfl (And.intro rfl trivial))) ?_
        exact j_X8_man_89 _ _ _ _ _ hf
      rw [if_neg c61] at hf
      refine bb_fewer (L' := [.null, .null, .null, .null, .null]) trivial ?_
      exact j_X8_man_64 _ hf
    rw [if_pos c31] at hf
    refine bb_bipush (v := (-3)) dX8_man_34 (by decide) ?_
    obtain rfl := Option.some.inj hf
    exact bb_iret rfl rfl dX8_man_36
  rw [if_pos c16] at hf
  refine bb_fewer (L' := [.null, .null, .null, .null, .null]) trivial ?_
  exact j_X8_man_19 _ hf
theorem ok_X8_man {x0 : Nat} {x1 : Int32} {x2 : Int32} {h : bb_H} {r : Int32 × bb_H} (hf : m_X8_man x0 x1 x2 h = some r) : bb_Ok yX8_man cX8_man 5 (some .int) rm_X8_man [.ref x0, .int x1, .int x2] h (some (.int r.1), r.2) :=
  bb_ok (L := [.ref x0, .int x1, .int x2, .null, .null]) (by decide) (Nat.le_of_ble_eq_true rfl) rfl (bb_fewer (L' := [.ref x0, .int x1, .int x2, .null, .null]) (And.intro rfl (And.intro rfl (And.intro rfl trivial))) (j_X8_man_0 _ _ _ _ hf))
abbrev rm_X8_stood : Room := { frames := 2, cells := 0, slots := 0, locals := 43 }
set_option maxRecDepth 100000 in
set_option maxHeartbeats 4000000 in
theorem j_X8_stood_27 {r : Int32 × bb_H} : ∀ (h : bb_H), m_X8_stood_27 h = some r → bb_J RX8 cX8_stood 5 (some .int) rm_X8_stood (some (.int r.1), r.2) 27 [.null, .null, .null, .null, .null] [] h := by
  intro h hf
  unfold m_X8_stood_27 at hf
  refine bb_iconst (v := (-1)) dX8_stood_27 (by decide) ?_
  obtain rfl := Option.some.inj hf
  exact bb_iret rfl rfl dX8_stood_28
set_option maxRecDepth 100000 in
set_option maxHeartbeats 4000000 in
theorem j_X8_stood_0 {r : Int32 × bb_H} : ∀ (x0 : Nat) (x1 : Int32) (x2 : Int32) (x3 : Int32) (h : bb_H), m_X8_stood x0 x1 x2 x3 h = some r → bb_J RX8 cX8_stood 5 (some .int) rm_X8_stood (some (.int r.1), r.2) 0 [.ref x0, .int x1, .int x2, .int x3, .null] [] h := by
  intro x0 x1 x2 x3 h hf
  unfold m_X8_stood at hf
  refine bb_aload_n dX8_stood_0 rfl ?_
  refine bb_iload_n dX8_stood_1 rfl ?_
  obtain ⟨r2, h2, hf⟩ := bb_bind hf
  obtain ⟨⟨v2, b2⟩, h2⟩ := bb_rcv_spec h2
  refine bb_invV (ci := 8) (as := [.int x1]) iv_X8_52 (by unfold bb_rr; decide) rfl dX8_stood_2 rfl rfl b2 (Nat.le_of_ble_eq_true rfl) (ok_X8_isMan h2) ?_
  refine bb_if_eq (tgt := 27) dX8_stood_5 (by decide) (fun c5 => ?_) (fun c5 => ?_)
  · rw [if_pos c5] at hf
    refine bb_fewer (L' := [.null, .null, .null, .null, .null]) trivial ?_
    exact j_X8_stood_27 _ hf
  rw [if_neg c5] at hf
  refine bb_iload_n dX8_stood_8 rfl ?_
  refine bb_iconst (v := 0) dX8_stood_9 (by decide) ?_
  refine bb_iconst (v := 2) dX8_stood_10 (by decide) ?_
  obtain ⟨r11, h11, hf⟩ := bb_bind hf
  refine bb_invS (as := [.int x2, .int 0, .int 2]) is_X8_44 (by unfold bb_rr; decide) dX8_stood_11 rfl rfl (Nat.le_of_ble_eq_true rfl) (ok_X8_in h11) ?_
  refine bb_if_eq (tgt := 27) dX8_stood_14 (by decide) (fun c14 => ?_) (fun c14 => ?_)
  · rw [if_pos c14] at hf
    refine bb_fewer (L' := [.null, .null, .null, .null, .null]) trivial ?_
    exact j_X8_stood_27 _ hf
  rw [if_neg c14] at hf
  refine bb_iload_n dX8_stood_17 rfl ?_
  refine bb_iconst (v := 0) dX8_stood_18 (by decide) ?_
  refine bb_bipush (v := 9) dX8_stood_19 (by decide) ?_
  obtain ⟨r21, h21, hf⟩ := bb_bind hf
  refine bb_invS (as := [.int x3, .int 0, .int 9]) is_X8_44 (by unfold bb_rr; decide) dX8_stood_21 rfl rfl (Nat.le_of_ble_eq_true rfl) (ok_X8_in h21) ?_
  refine bb_if_ne (tgt := 29) dX8_stood_24 (by decide) (fun c24 => ?_) (fun c24 => ?_)
  · rw [if_neg c24] at hf
    refine bb_aload_n dX8_stood_29 rfl ?_
    refine bb_iload_n dX8_stood_30 rfl ?_
    refine bb_iload_n dX8_stood_31 rfl ?_
    obtain ⟨r32, h32, hf⟩ := bb_bind hf
    obtain ⟨⟨v32, b32⟩, h32⟩ := bb_rcv_spec h32
    refine bb_invV (ci := 8) (as := [.int x2, .int x3]) iv_X8_48 (by unfold bb_rr; decide) rfl dX8_stood_32 rfl rfl b32 (Nat.le_of_ble_eq_true rfl) (ok_X8_isTaken h32) ?_
    refine bb_if_eq (tgt := 41) dX8_stood_35 (by decide) (fun c35 => ?_) (fun c35 => ?_)
    · rw [if_pos c35] at hf
      refine bb_aload_n dX8_stood_41 rfl ?_
      obtain ⟨t42, h42, hf⟩ := bb_bind hf
      refine bb_getR fl_X8_7 dX8_stood_42 h42 ?_
      refine bb_bipush (v := 22) dX8_stood_45 (by decide) ?_
      refine bb_iconst (v := 3) dX8_stood_47 (by decide) ?_
      refine bb_iload_n dX8_stood_48 rfl ?_
      refine bb_imul dX8_stood_49 ?_
      refine bb_iadd dX8_stood_50 ?_
      refine bb_iload_n dX8_stood_51 rfl ?_
      refine bb_iadd dX8_stood_52 ?_
      obtain ⟨t53, h53, hf⟩ := bb_bind hf
      refine bb_iaload dX8_stood_53 h53 ?_
      refine bb_istore (L' := [.ref x0, .int x1, .int x2, .int x3, .int t53]) dX8_stood_54 (by decide) rfl rfl ?_
      refine bb_aload_n dX8_stood_56 rfl ?_
      obtain ⟨t57, h57, hf⟩ := bb_bind hf
      refine bb_getR fl_X8_7 dX8_stood_57 h57 ?_
      refine bb_bipush (v := 22) dX8_stood_60 (by decide) ?_
      refine bb_iconst (v := 3) dX8_stood_62 (by decide) ?_
      refine bb_iload_n dX8_stood_63 rfl ?_
      refine bb_imul dX8_stood_64 ?_
      refine bb_iadd dX8_stood_65 ?_
      refine bb_iload_n dX8_stood_66 rfl ?_
      refine bb_iadd dX8_stood_67 ?_
      refine bb_iload_n dX8_stood_68 rfl ?_
      obtain ⟨g69, h69, hf⟩ := bb_bind hf
      refine bb_iastore dX8_stood_69 h69 ?_
      refine bb_iload dX8_stood_70 rfl ?_
      obtain rfl := Option.some.inj hf
      exact bb_iret rfl rfl dX8_stood_72
    rw [if_neg c35] at hf
    refine bb_bipush (v := (-2)) dX8_stood_38 (by decide) ?_
    obtain rfl := Option.some.inj hf
    exact bb_iret rfl rfl dX8_stood_40
  rw [if_pos c24] at hf
  refine bb_fewer (L' := [.null, .null, .null, .null, .null]) trivial ?_
  exact j_X8_stood_27 _ hf
theorem ok_X8_stood {x0 : Nat} {x1 : Int32} {x2 : Int32} {x3 : Int32} {h : bb_H} {r : Int32 × bb_H} (hf : m_X8_stood x0 x1 x2 x3 h = some r) : bb_Ok yX8_stood cX8_stood 5 (some .int) rm_X8_stood [.ref x0, .int x1, .int x2, .int x3] h (some (.int r.1), r.2) :=
  bb_ok (L := [.ref x0, .int x1, .int x2, .int x3, .null]) (by decide) (Nat.le_of_ble_eq_true rfl) rfl (bb_fewer (L' := [.ref x0, .int x1, .int x2, .int x3, .null]) (And.intro rfl (And.intro rfl (And.intro rfl (And.intro rfl trivial)))) (j_X8_stood_0 _ _ _ _ _ hf))
abbrev rm_X8_stoodBy : Room := { frames := 0, cells := 0, slots := 0, locals := 0 }
set_option maxRecDepth 100000 in
set_option maxHeartbeats 4000000 in
theorem j_X8_stoodBy_115 {r : Int32 × bb_H} {k5 : Nat → Int32 → Int32 → Int32 → Int32 → bb_H → Option (Int32 × bb_H)} {k49 : Nat → Int32 → Int32 → Int32 → Int32 → Int32 → Int32 → Int32 → Int32 → bb_H → Option (Int32 × bb_H)} (hk5 : ∀ (x0 : Nat) (x1 : Int32) (x2 : Int32) (x3 : Int32) (x4 : Int32) (h : bb_H), k5 x0 x1 x2 x3 x4 h = some r → bb_J RX8 cX8_stoodBy 10 (some .boolean) rm_X8_stoodBy (some (.int r.1), r.2) 5 [.ref x0, .int x1, .int x2, .int x3, .int x4, .null, .null, .null, .null, .null] [] h) (hk49 : ∀ (x0 : Nat) (x1 : Int32) (x2 : Int32) (x3 : Int32) (x4 : Int32) (x5 : Int32) (x6 : Int32) (x7 : Int32) (x8 : Int32) (h : bb_H), k49 x0 x1 x2 x3 x4 x5 x6 x7 x8 h = some r → bb_J RX8 cX8_stoodBy 10 (some .boolean) rm_X8_stoodBy (some (.int r.1), r.2) 49 [.ref x0, .int x1, .int x2, .int x3, .int x4, .int x5, .int x6, .int x7, .int x8, .null] [] h) : ∀ (x0 : Nat) (x1 : Int32) (x2 : Int32) (x3 : Int32) (x4 : Int32) (x5 : Int32) (x6 : Int32) (x8 : Int32) (z0 : Int32) (h : bb_H), m_X8_stoodBy_115 k5 k49 x0 x1 x2 x3 x4 x5 x6 x8 z0 h = some r → bb_J RX8 cX8_stoodBy 10 (some .boolean) rm_X8_stoodBy (some (.int r.1), r.2) 115 [.ref x0, .int x1, .int x2, .int x3, .int x4, .int x5, .int x6, .null, .int x8, .null] [.int z0] h := by
  intro x0 x1 x2 x3 x4 x5 x6 x8 z0 h hf
  unfold m_X8_stoodBy_115 at hf
  refine bb_istore (L' := [.ref x0, .int x1, .int x2, .int x3, .int x4, .int x5, .int x6, .int z0, .int x8, .null]) dX8_stoodBy_115 (by decide) rfl rfl ?_
  refine bb_iinc (v := x8 + 1) (L' := [.ref x0, .int x1, .int x2, .int x3, .int x4, .int x5, .int x6, .int z0, .int (x8 + 1), .null]) dX8_stoodBy_117 rfl rfl (by decide) rfl rfl ?_
  refine bb_goto (tgt := 49) dX8_stoodBy_120 (by decide) ?_
  refine bb_fewer (L' := [.ref x0, .int x1, .int x2, .int x3, .int x4, .int x5, .int x6, .int z0, .int (x8 + 1), .null]) (And.intro rfl (And.intro rfl (And.intro rfl (And.intro rfl (And.intro rfl (And.intro rfl (And.intro rfl (And.intro rfl (And.intro rfl trivial))))))))) ?_
  exact hk49 _ _ _ _ _ _ _ _ _ _ hf
set_option maxRecDepth 100000 in
set_option maxHeartbeats 4000000 in
theorem j_X8_stoodBy_110 {r : Int32 × bb_H} {k5 : Nat → Int32 → Int32 → Int32 → Int32 → bb_H → Option (Int32 × bb_H)} {k49 : Nat → Int32 → Int32 → Int32 → Int32 → Int32 → Int32 → Int32 → Int32 → bb_H → Option (Int32 × bb_H)} (hk5 : ∀ (x0 : Nat) (x1 : Int32) (x2 : Int32) (x3 : Int32) (x4 : Int32) (h : bb_H), k5 x0 x1 x2 x3 x4 h = some r → bb_J RX8 cX8_stoodBy 10 (some .boolean) rm_X8_stoodBy (some (.int r.1), r.2) 5 [.ref x0, .int x1, .int x2, .int x3, .int x4, .null, .null, .null, .null, .null] [] h) (hk49 : ∀ (x0 : Nat) (x1 : Int32) (x2 : Int32) (x3 : Int32) (x4 : Int32) (x5 : Int32) (x6 : Int32) (x7 : Int32) (x8 : Int32) (h : bb_H), k49 x0 x1 x2 x3 x4 x5 x6 x7 x8 h = some r → bb_J RX8 cX8_stoodBy 10 (some .boolean) rm_X8_stoodBy (some (.int r.1), r.2) 49 [.ref x0, .int x1, .int x2, .int x3, .int x4, .int x5, .int x6, .int x7, .int x8, .null] [] h) : ∀ (x0 : Nat) (x1 : Int32) (x2 : Int32) (x3 : Int32) (x4 : Int32) (x5 : Int32) (x6 : Int32) (x8 : Int32) (h : bb_H), m_X8_stoodBy_110 k5 k49 x0 x1 x2 x3 x4 x5 x6 x8 h = some r → bb_J RX8 cX8_stoodBy 10 (some .boolean) rm_X8_stoodBy (some (.int r.1), r.2) 110 [.ref x0, .int x1, .int x2, .int x3, .int x4, .int x5, .int x6, .null, .int x8, .null] [] h := by
  intro x0 x1 x2 x3 x4 x5 x6 x8 h hf
  unfold m_X8_stoodBy_110 at hf
  refine bb_iconst (v := 1) dX8_stoodBy_110 (by decide) ?_
  refine bb_goto (tgt := 115) dX8_stoodBy_111 (by decide) ?_
  refine bb_fewer (L' := [.ref x0, .int x1, .int x2, .int x3, .int x4, .int x5, .int x6, .null, .int x8, .null]) (And.intro rfl (And.intro rfl (And.intro rfl (And.intro rfl (And.intro rfl (And.intro rfl (And.intro rfl (And.intro rfl trivial)))))))) ?_
  exact j_X8_stoodBy_115 hk5 hk49 _ _ _ _ _ _ _ _ _ _ hf
set_option maxRecDepth 100000 in
set_option maxHeartbeats 4000000 in
theorem j_X8_stoodBy_114 {r : Int32 × bb_H} {k5 : Nat → Int32 → Int32 → Int32 → Int32 → bb_H → Option (Int32 × bb_H)} {k49 : Nat → Int32 → Int32 → Int32 → Int32 → Int32 → Int32 → Int32 → Int32 → bb_H → Option (Int32 × bb_H)} (hk5 : ∀ (x0 : Nat) (x1 : Int32) (x2 : Int32) (x3 : Int32) (x4 : Int32) (h : bb_H), k5 x0 x1 x2 x3 x4 h = some r → bb_J RX8 cX8_stoodBy 10 (some .boolean) rm_X8_stoodBy (some (.int r.1), r.2) 5 [.ref x0, .int x1, .int x2, .int x3, .int x4, .null, .null, .null, .null, .null] [] h) (hk49 : ∀ (x0 : Nat) (x1 : Int32) (x2 : Int32) (x3 : Int32) (x4 : Int32) (x5 : Int32) (x6 : Int32) (x7 : Int32) (x8 : Int32) (h : bb_H), k49 x0 x1 x2 x3 x4 x5 x6 x7 x8 h = some r → bb_J RX8 cX8_stoodBy 10 (some .boolean) rm_X8_stoodBy (some (.int r.1), r.2) 49 [.ref x0, .int x1, .int x2, .int x3, .int x4, .int x5, .int x6, .int x7, .int x8, .null] [] h) : ∀ (x0 : Nat) (x1 : Int32) (x2 : Int32) (x3 : Int32) (x4 : Int32) (x5 : Int32) (x6 : Int32) (x8 : Int32) (h : bb_H), m_X8_stoodBy_114 k5 k49 x0 x1 x2 x3 x4 x5 x6 x8 h = some r → bb_J RX8 cX8_stoodBy 10 (some .boolean) rm_X8_stoodBy (some (.int r.1), r.2) 114 [.ref x0, .int x1, .int x2, .int x3, .int x4, .int x5, .int x6, .null, .int x8, .null] [] h := by
  intro x0 x1 x2 x3 x4 x5 x6 x8 h hf
  unfold m_X8_stoodBy_114 at hf
  refine bb_iconst (v := 0) dX8_stoodBy_114 (by decide) ?_
  refine bb_fewer (L' := [.ref x0, .int x1, .int x2, .int x3, .int x4, .int x5, .int x6, .null, .int x8, .null]) (And.intro rfl (And.intro rfl (And.intro rfl (And.intro rfl (And.intro rfl (And.intro rfl (And.intro rfl (And.intro rfl trivial)))))))) ?_
  exact j_X8_stoodBy_115 hk5 hk49 _ _ _ _ _ _ _ _ _ _ hf
set_option maxRecDepth 100000 in
set_option maxHeartbeats 4000000 in
theorem j_X8_stoodBy_96 {r : Int32 × bb_H} {k5 : Nat → Int32 → Int32 → Int32 → Int32 → bb_H → Option (Int32 × bb_H)} {k49 : Nat → Int32 → Int32 → Int32 → Int32 → Int32 → Int32 → Int32 → Int32 → bb_H → Option (Int32 × bb_H)} (hk5 : ∀ (x0 : Nat) (x1 : Int32) (x2 : Int32) (x3 : Int32) (x4 : Int32) (h : bb_H), k5 x0 x1 x2 x3 x4 h = some r → bb_J RX8 cX8_stoodBy 10 (some .boolean) rm_X8_stoodBy (some (.int r.1), r.2) 5 [.ref x0, .int x1, .int x2, .int x3, .int x4, .null, .null, .null, .null, .null] [] h) (hk49 : ∀ (x0 : Nat) (x1 : Int32) (x2 : Int32) (x3 : Int32) (x4 : Int32) (x5 : Int32) (x6 : Int32) (x7 : Int32) (x8 : Int32) (h : bb_H), k49 x0 x1 x2 x3 x4 x5 x6 x7 x8 h = some r → bb_J RX8 cX8_stoodBy 10 (some .boolean) rm_X8_stoodBy (some (.int r.1), r.2) 49 [.ref x0, .int x1, .int x2, .int x3, .int x4, .int x5, .int x6, .int x7, .int x8, .null] [] h) : ∀ (x0 : Nat) (x1 : Int32) (x2 : Int32) (x3 : Int32) (x4 : Int32) (x5 : Int32) (x6 : Int32) (x8 : Int32) (x9 : Int32) (h : bb_H), m_X8_stoodBy_96 k5 k49 x0 x1 x2 x3 x4 x5 x6 x8 x9 h = some r → bb_J RX8 cX8_stoodBy 10 (some .boolean) rm_X8_stoodBy (some (.int r.1), r.2) 96 [.ref x0, .int x1, .int x2, .int x3, .int x4, .int x5, .int x6, .null, .int x8, .int x9] [] h := by
  intro x0 x1 x2 x3 x4 x5 x6 x8 x9 h hf
  unfold m_X8_stoodBy_96 at hf
  refine bb_iload dX8_stoodBy_96 rfl ?_
  refine bb_iload dX8_stoodBy_98 rfl ?_
  refine bb_icmp_le (tgt := 110) dX8_stoodBy_100 (by decide) (fun c100 => ?_) (fun c100 => ?_)
  · rw [if_pos c100] at hf
    refine bb_fewer (L' := [.ref x0, .int x1, .int x2, .int x3, .int x4, .int x5, .int x6, .null, .int x8, .null]) (And.intro rfl (And.intro rfl (And.intro rfl (And.intro rfl (And.intro rfl (And.intro rfl (And.intro rfl (And.intro rfl trivial)))))))) ?_
    exact j_X8_stoodBy_110 hk5 hk49 _ _ _ _ _ _ _ _ _ hf
  rw [if_neg c100] at hf
  refine bb_iload dX8_stoodBy_103 rfl ?_
  refine bb_iload dX8_stoodBy_105 rfl ?_
  refine bb_icmp_lt (tgt := 114) dX8_stoodBy_107 (by decide) (fun c107 => ?_) (fun c107 => ?_)
  · rw [if_pos c107] at hf
    refine bb_fewer (L' := [.ref x0, .int x1, .int x2, .int x3, .int x4, .int x5, .int x6, .null, .int x8, .null]) (And.intro rfl (And.intro rfl (And.intro rfl (And.intro rfl (And.intro rfl (And.intro rfl (And.intro rfl (And.intro rfl trivial)))))))) ?_
    exact j_X8_stoodBy_114 hk5 hk49 _ _ _ _ _ _ _ _ _ hf
  rw [if_neg c107] at hf
  refine bb_fewer (L' := [.ref x0, .int x1, .int x2, .int x3, .int x4, .int x5, .int x6, .null, .int x8, .null]) (And.intro rfl (And.intro rfl (And.intro rfl (And.intro rfl (And.intro rfl (And.intro rfl (And.intro rfl (And.intro rfl trivial)))))))) ?_
  exact j_X8_stoodBy_110 hk5 hk49 _ _ _ _ _ _ _ _ _ hf
set_option maxRecDepth 100000 in
set_option maxHeartbeats 4000000 in
theorem j_X8_stoodBy_137 {r : Int32 × bb_H} {k5 : Nat → Int32 → Int32 → Int32 → Int32 → bb_H → Option (Int32 × bb_H)} (hk5 : ∀ (x0 : Nat) (x1 : Int32) (x2 : Int32) (x3 : Int32) (x4 : Int32) (h : bb_H), k5 x0 x1 x2 x3 x4 h = some r → bb_J RX8 cX8_stoodBy 10 (some .boolean) rm_X8_stoodBy (some (.int r.1), r.2) 5 [.ref x0, .int x1, .int x2, .int x3, .int x4, .null, .null, .null, .null, .null] [] h) : ∀ (x0 : Nat) (x1 : Int32) (x2 : Int32) (x4 : Int32) (z0 : Int32) (h : bb_H), m_X8_stoodBy_137 k5 x0 x1 x2 x4 z0 h = some r → bb_J RX8 cX8_stoodBy 10 (some .boolean) rm_X8_stoodBy (some (.int r.1), r.2) 137 [.ref x0, .int x1, .int x2, .null, .int x4, .null, .null, .null, .null, .null] [.int z0] h := by
  intro x0 x1 x2 x4 z0 h hf
  unfold m_X8_stoodBy_137 at hf
  refine bb_istore_n (L' := [.ref x0, .int x1, .int x2, .int z0, .int x4, .null, .null, .null, .null, .null]) dX8_stoodBy_137 (by decide) rfl rfl ?_
  refine bb_iinc (v := x4 + 1) (L' := [.ref x0, .int x1, .int x2, .int z0, .int (x4 + 1), .null, .null, .null, .null, .null]) dX8_stoodBy_138 rfl rfl (by decide) rfl rfl ?_
  refine bb_goto (tgt := 5) dX8_stoodBy_141 (by decide) ?_
  refine bb_fewer (L' := [.ref x0, .int x1, .int x2, .int z0, .int (x4 + 1), .null, .null, .null, .null, .null]) (And.intro rfl (And.intro rfl (And.intro rfl (And.intro rfl (And.intro rfl trivial))))) ?_
  exact hk5 _ _ _ _ _ _ hf
set_option maxRecDepth 100000 in
set_option maxHeartbeats 4000000 in
theorem j_X8_stoodBy_132 {r : Int32 × bb_H} {k5 : Nat → Int32 → Int32 → Int32 → Int32 → bb_H → Option (Int32 × bb_H)} (hk5 : ∀ (x0 : Nat) (x1 : Int32) (x2 : Int32) (x3 : Int32) (x4 : Int32) (h : bb_H), k5 x0 x1 x2 x3 x4 h = some r → bb_J RX8 cX8_stoodBy 10 (some .boolean) rm_X8_stoodBy (some (.int r.1), r.2) 5 [.ref x0, .int x1, .int x2, .int x3, .int x4, .null, .null, .null, .null, .null] [] h) : ∀ (x0 : Nat) (x1 : Int32) (x2 : Int32) (x4 : Int32) (h : bb_H), m_X8_stoodBy_132 k5 x0 x1 x2 x4 h = some r → bb_J RX8 cX8_stoodBy 10 (some .boolean) rm_X8_stoodBy (some (.int r.1), r.2) 132 [.ref x0, .int x1, .int x2, .null, .int x4, .null, .null, .null, .null, .null] [] h := by
  intro x0 x1 x2 x4 h hf
  unfold m_X8_stoodBy_132 at hf
  refine bb_iconst (v := 1) dX8_stoodBy_132 (by decide) ?_
  refine bb_goto (tgt := 137) dX8_stoodBy_133 (by decide) ?_
  refine bb_fewer (L' := [.ref x0, .int x1, .int x2, .null, .int x4, .null, .null, .null, .null, .null]) (And.intro rfl (And.intro rfl (And.intro rfl (And.intro rfl trivial)))) ?_
  exact j_X8_stoodBy_137 hk5 _ _ _ _ _ _ hf
set_option maxRecDepth 100000 in
set_option maxHeartbeats 4000000 in
theorem j_X8_stoodBy_49 {r : Int32 × bb_H} {k5 : Nat → Int32 → Int32 → Int32 → Int32 → bb_H → Option (Int32 × bb_H)} (hk5 : ∀ (x0 : Nat) (x1 : Int32) (x2 : Int32) (x3 : Int32) (x4 : Int32) (h : bb_H), k5 x0 x1 x2 x3 x4 h = some r → bb_J RX8 cX8_stoodBy 10 (some .boolean) rm_X8_stoodBy (some (.int r.1), r.2) 5 [.ref x0, .int x1, .int x2, .int x3, .int x4, .null, .null, .null, .null, .null] [] h) : ∀ (n : Nat) (x0 : Nat) (x1 : Int32) (x2 : Int32) (x3 : Int32) (x4 : Int32) (x5 : Int32) (x6 : Int32) (x7 : Int32) (x8 : Int32) (h : bb_H), m_X8_stoodBy_49 k5 n x0 x1 x2 x3 x4 x5 x6 x7 x8 h = some r → bb_J RX8 cX8_stoodBy 10 (some .boolean) rm_X8_stoodBy (some (.int r.1), r.2) 49 [.ref x0, .int x1, .int x2, .int x3, .int x4, .int x5, .int x6, .int x7, .int x8, .null] [] h := by
  intro n
  induction n with
  | zero =>
    intro x0 x1 x2 x3 x4 x5 x6 x7 x8 h hf
    exact absurd hf (fun z => by cases z)
  | succ n ih =>
    intro x0 x1 x2 x3 x4 x5 x6 x7 x8 h hf
    unfold m_X8_stoodBy_49 at hf
    refine bb_iload dX8_stoodBy_49 rfl ?_
    refine bb_aload_n dX8_stoodBy_51 rfl ?_
    obtain ⟨t52, h52, hf⟩ := bb_bind hf
    refine bb_getR fl_X8_7 dX8_stoodBy_52 h52 ?_
    refine bb_iconst (v := 0) dX8_stoodBy_55 (by decide) ?_
    obtain ⟨t56, h56, hf⟩ := bb_bind hf
    refine bb_iaload dX8_stoodBy_56 h56 ?_
    refine bb_icmp_ge (tgt := 123) dX8_stoodBy_57 (by decide) (fun c57 => ?_) (fun c57 => ?_)
    · rw [if_pos c57] at hf
      refine bb_iload_n dX8_stoodBy_123 rfl ?_
      refine bb_if_ne (tgt := 132) dX8_stoodBy_124 (by decide) (fun c124 => ?_) (fun c124 => ?_)
      · rw [if_neg c124] at hf
        refine bb_fewer (L' := [.ref x0, .int x1, .int x2, .null, .int x4, .null, .null, .null, .null, .null]) (And.intro rfl (And.intro rfl (And.intro rfl (And.intro rfl trivial)))) ?_
        exact j_X8_stoodBy_132 hk5 _ _ _ _ _ hf
      rw [if_pos c124] at hf
      refine bb_iload dX8_stoodBy_127 rfl ?_
      refine bb_if_eq (tgt := 136) dX8_stoodBy_129 (by decide) (fun c129 => ?_) (fun c129 => ?_)
      · rw [if_pos c129] at hf
        refine bb_iconst (v := 0) dX8_stoodBy_136 (by decide) ?_
        refine bb_fewer (L' := [.ref x0, .int x1, .int x2, .null, .int x4, .null, .null, .null, .null, .null]) (And.intro rfl (And.intro rfl (And.intro rfl (And.intro rfl trivial)))) ?_
        exact j_X8_stoodBy_137 hk5 _ _ _ _ _ _ hf
      rw [if_neg c129] at hf
      refine bb_fewer (L' := [.ref x0, .int x1, .int x2, .null, .int x4, .null, .null, .null, .null, .null]) (And.intro rfl (And.intro rfl (And.intro rfl (And.intro rfl trivial)))) ?_
      exact j_X8_stoodBy_132 hk5 _ _ _ _ _ hf
    rw [if_neg c57] at hf
    refine bb_aload_n dX8_stoodBy_60 rfl ?_
    obtain ⟨t61, h61, hf⟩ := bb_bind hf
    refine bb_getR fl_X8_7 dX8_stoodBy_61 h61 ?_
    refine bb_bipush (v := 22) dX8_stoodBy_64 (by decide) ?_
    refine bb_iconst (v := 3) dX8_stoodBy_66 (by decide) ?_
    refine bb_iload dX8_stoodBy_67 rfl ?_
    refine bb_imul dX8_stoodBy_69 ?_
    refine bb_iadd dX8_stoodBy_70 ?_
    refine bb_iload dX8_stoodBy_71 rfl ?_
    refine bb_iadd dX8_stoodBy_73 ?_
    obtain ⟨t74, h74, hf⟩ := bb_bind hf
    refine bb_iaload dX8_stoodBy_74 h74 ?_
    refine bb_istore (L' := [.ref x0, .int x1, .int x2, .int x3, .int x4, .int x5, .int x6, .int x7, .int x8, .int t74]) dX8_stoodBy_75 (by decide) rfl rfl ?_
    refine bb_iload dX8_stoodBy_77 rfl ?_
    refine bb_if_eq (tgt := 114) dX8_stoodBy_79 (by decide) (fun c79 => ?_) (fun c79 => ?_)
    · rw [if_pos c79] at hf
      refine bb_fewer (L' := [.ref x0, .int x1, .int x2, .int x3, .int x4, .int x5, .int x6, .null, .int x8, .null]) (And.intro rfl (And.intro rfl (And.intro rfl (And.intro rfl (And.intro rfl (And.intro rfl (And.intro rfl (And.intro rfl trivial)))))))) ?_
      exact j_X8_stoodBy_114 hk5 ih _ _ _ _ _ _ _ _ _ hf
    rw [if_neg c79] at hf
    refine bb_iload dX8_stoodBy_82 rfl ?_
    refine bb_iload dX8_stoodBy_84 rfl ?_
    refine bb_icmp_le (tgt := 96) dX8_stoodBy_86 (by decide) (fun c86 => ?_) (fun c86 => ?_)
    · rw [if_pos c86] at hf
      refine bb_fewer (L' := [.ref x0, .int x1, .int x2, .int x3, .int x4, .int x5, .int x6, .null, .int x8, .int t74]) (And.intro rfl (And.intro rfl (And.intro rfl (And.intro rfl (And.intro rfl (And.intro rfl (And.intro rfl (And.intro rfl (And.intro rfl trivial))))))))) ?_
      exact j_X8_stoodBy_96 hk5 ih _ _ _ _ _ _ _ _ _ _ hf
    rw [if_neg c86] at hf
    refine bb_iload dX8_stoodBy_89 rfl ?_
    refine bb_iload dX8_stoodBy_91 rfl ?_
    refine bb_icmp_lt (tgt := 114) dX8_stoodBy_93 (by decide) (fun c93 => ?_) (fun c93 => ?_)
    · rw [if_pos c93] at hf
      refine bb_fewer (L' := [.ref x0, .int x1, .int x2, .int x3, .int x4, .int x5, .int x6, .null, .int x8, .null]) (And.intro rfl (And.intro rfl (And.intro rfl (And.intro rfl (And.intro rfl (And.intro rfl (And.intro rfl (And.intro rfl trivial)))))))) ?_
      exact j_X8_stoodBy_114 hk5 ih _ _ _ _ _ _ _ _ _ hf
    rw [if_neg c93] at hf
    refine bb_fewer (L' := [.ref x0, .int x1, .int x2, .int x3, .int x4, .int x5, .int x6, .null, .int x8, .int t74]) (And.intro rfl (And.intro rfl (And.intro rfl (And.intro rfl (And.intro rfl (And.intro rfl (And.intro rfl (And.intro rfl (And.intro rfl trivial))))))))) ?_
    exact j_X8_stoodBy_96 hk5 ih _ _ _ _ _ _ _ _ _ _ hf
set_option maxRecDepth 100000 in
set_option maxHeartbeats 4000000 in
theorem j_X8_stoodBy_5 {r : Int32 × bb_H} : ∀ (n : Nat) (x0 : Nat) (x1 : Int32) (x2 : Int32) (x3 : Int32) (x4 : Int32) (h : bb_H), m_X8_stoodBy_5 n x0 x1 x2 x3 x4 h = some r → bb_J RX8 cX8_stoodBy 10 (some .boolean) rm_X8_stoodBy (some (.int r.1), r.2) 5 [.ref x0, .int x1, .int x2, .int x3, .int x4, .null, .null, .null, .null, .null] [] h := by
  intro n
  induction n with
  | zero =>
    intro x0 x1 x2 x3 x4 h hf
    exact absurd hf (fun z => by cases z)
  | succ n ih =>
    intro x0 x1 x2 x3 x4 h hf
    unfold m_X8_stoodBy_5 at hf
    refine bb_iload dX8_stoodBy_5 rfl ?_
    refine bb_iconst (v := 3) dX8_stoodBy_7 (by decide) ?_
    refine bb_icmp_ge (tgt := 144) dX8_stoodBy_8 (by decide) (fun c8 => ?_) (fun c8 => ?_)
    · rw [if_pos c8] at hf
      refine bb_iload_n dX8_stoodBy_144 rfl ?_
      obtain ⟨hn, rfl⟩ := bb_rz_spec hf
      exact bb_zret rfl hn rfl dX8_stoodBy_145
    rw [if_neg c8] at hf
    refine bb_aload_n dX8_stoodBy_11 rfl ?_
    obtain ⟨t12, h12, hf⟩ := bb_bind hf
    refine bb_getR fl_X8_7 dX8_stoodBy_12 h12 ?_
    refine bb_bipush (v := 22) dX8_stoodBy_15 (by decide) ?_
    refine bb_iconst (v := 3) dX8_stoodBy_17 (by decide) ?_
    refine bb_iload_n dX8_stoodBy_18 rfl ?_
    refine bb_imul dX8_stoodBy_19 ?_
    refine bb_iadd dX8_stoodBy_20 ?_
    refine bb_iload dX8_stoodBy_21 rfl ?_
    refine bb_iadd dX8_stoodBy_23 ?_
    obtain ⟨t24, h24, hf⟩ := bb_bind hf
    refine bb_iaload dX8_stoodBy_24 h24 ?_
    refine bb_istore (L' := [.ref x0, .int x1, .int x2, .int x3, .int x4, .int t24, .null, .null, .null, .null]) dX8_stoodBy_25 (by decide) rfl rfl ?_
    refine bb_aload_n dX8_stoodBy_27 rfl ?_
    obtain ⟨t28, h28, hf⟩ := bb_bind hf
    refine bb_getR fl_X8_7 dX8_stoodBy_28 h28 ?_
    refine bb_bipush (v := 22) dX8_stoodBy_31 (by decide) ?_
    refine bb_iconst (v := 3) dX8_stoodBy_33 (by decide) ?_
    refine bb_iload_n dX8_stoodBy_34 rfl ?_
    refine bb_imul dX8_stoodBy_35 ?_
    refine bb_iadd dX8_stoodBy_36 ?_
    refine bb_iload dX8_stoodBy_37 rfl ?_
    refine bb_iadd dX8_stoodBy_39 ?_
    obtain ⟨t40, h40, hf⟩ := bb_bind hf
    refine bb_iaload dX8_stoodBy_40 h40 ?_
    refine bb_istore (L' := [.ref x0, .int x1, .int x2, .int x3, .int x4, .int t24, .int t40, .null, .null, .null]) dX8_stoodBy_41 (by decide) rfl rfl ?_
    refine bb_iconst (v := 1) dX8_stoodBy_43 (by decide) ?_
    refine bb_istore (L' := [.ref x0, .int x1, .int x2, .int x3, .int x4, .int t24, .int t40, .int 1, .null, .null]) dX8_stoodBy_44 (by decide) rfl rfl ?_
    refine bb_iconst (v := 0) dX8_stoodBy_46 (by decide) ?_
    refine bb_istore (L' := [.ref x0, .int x1, .int x2, .int x3, .int x4, .int t24, .int t40, .int 1, .int 0, .null]) dX8_stoodBy_47 (by decide) rfl rfl ?_
    refine bb_fewer (L' := [.ref x0, .int x1, .int x2, .int x3, .int x4, .int t24, .int t40, .int 1, .int 0, .null]) (And.intro rfl (And.intro rfl (And.intro rfl (And.intro rfl (And.intro rfl (And.intro rfl (And.intro rfl (And.intro rfl (And.intro rfl trivial))))))))) ?_
    exact j_X8_stoodBy_49 ih _ _ _ _ _ _ _ _ _ _ _ hf
set_option maxRecDepth 100000 in
set_option maxHeartbeats 4000000 in
theorem j_X8_stoodBy_0 {r : Int32 × bb_H} : ∀ (x0 : Nat) (x1 : Int32) (x2 : Int32) (h : bb_H), m_X8_stoodBy x0 x1 x2 h = some r → bb_J RX8 cX8_stoodBy 10 (some .boolean) rm_X8_stoodBy (some (.int r.1), r.2) 0 [.ref x0, .int x1, .int x2, .null, .null, .null, .null, .null, .null, .null] [] h := by
  intro x0 x1 x2 h hf
  unfold m_X8_stoodBy at hf
  refine bb_iconst (v := 0) dX8_stoodBy_0 (by decide) ?_
  refine bb_istore_n (L' := [.ref x0, .int x1, .int x2, .int 0, .null, .null, .null, .null, .null, .null]) dX8_stoodBy_1 (by decide) rfl rfl ?_
  refine bb_iconst (v := 0) dX8_stoodBy_2 (by decide) ?_
  refine bb_istore (L' := [.ref x0, .int x1, .int x2, .int 0, .int 0, .null, .null, .null, .null, .null]) dX8_stoodBy_3 (by decide) rfl rfl ?_
  refine bb_fewer (L' := [.ref x0, .int x1, .int x2, .int 0, .int 0, .null, .null, .null, .null, .null]) (And.intro rfl (And.intro rfl (And.intro rfl (And.intro rfl (And.intro rfl trivial))))) ?_
  exact j_X8_stoodBy_5 _ _ _ _ _ _ _ hf
theorem ok_X8_stoodBy {x0 : Nat} {x1 : Int32} {x2 : Int32} {h : bb_H} {r : Int32 × bb_H} (hf : m_X8_stoodBy x0 x1 x2 h = some r) : bb_Ok yX8_stoodBy cX8_stoodBy 10 (some .boolean) rm_X8_stoodBy [.ref x0, .int x1, .int x2] h (some (.int r.1), r.2) :=
  bb_ok (L := [.ref x0, .int x1, .int x2, .null, .null, .null, .null, .null, .null, .null]) (by decide) (Nat.le_of_ble_eq_true rfl) rfl (bb_fewer (L' := [.ref x0, .int x1, .int x2, .null, .null, .null, .null, .null, .null, .null]) (And.intro rfl (And.intro rfl (And.intro rfl trivial))) (j_X8_stoodBy_0 _ _ _ _ hf))
abbrev rm_X8_allStoodBy : Room := { frames := 1, cells := 0, slots := 0, locals := 29 }
set_option maxRecDepth 100000 in
set_option maxHeartbeats 4000000 in
theorem j_X8_allStoodBy_36 {r : Int32 × bb_H} {k4 : Nat → Int32 → Int32 → Int32 → bb_H → Option (Int32 × bb_H)} (hk4 : ∀ (x0 : Nat) (x1 : Int32) (x2 : Int32) (x3 : Int32) (h : bb_H), k4 x0 x1 x2 x3 h = some r → bb_J RX8 cX8_allStoodBy 4 (some .int) rm_X8_allStoodBy (some (.int r.1), r.2) 4 [.ref x0, .int x1, .int x2, .int x3] [] h) : ∀ (x0 : Nat) (x1 : Int32) (x3 : Int32) (z0 : Int32) (z1 : Int32) (h : bb_H), m_X8_allStoodBy_36 k4 x0 x1 x3 z0 z1 h = some r → bb_J RX8 cX8_allStoodBy 4 (some .int) rm_X8_allStoodBy (some (.int r.1), r.2) 36 [.ref x0, .int x1, .null, .int x3] [.int z1, .int z0] h := by
  intro x0 x1 x3 z0 z1 h hf
  unfold m_X8_allStoodBy_36 at hf
  refine bb_ior dX8_allStoodBy_36 ?_
  refine bb_istore_n (L' := [.ref x0, .int x1, .int (z0 ||| z1), .int x3]) dX8_allStoodBy_37 (by decide) rfl rfl ?_
  refine bb_iinc (v := x3 + 1) (L' := [.ref x0, .int x1, .int (z0 ||| z1), .int (x3 + 1)]) dX8_allStoodBy_38 rfl rfl (by decide) rfl rfl ?_
  refine bb_goto (tgt := 4) dX8_allStoodBy_41 (by decide) ?_
  refine bb_fewer (L' := [.ref x0, .int x1, .int (z0 ||| z1), .int (x3 + 1)]) (And.intro rfl (And.intro rfl (And.intro rfl (And.intro rfl trivial)))) ?_
  exact hk4 _ _ _ _ _ hf
set_option maxRecDepth 100000 in
set_option maxHeartbeats 4000000 in
theorem j_X8_allStoodBy_35 {r : Int32 × bb_H} {k4 : Nat → Int32 → Int32 → Int32 → bb_H → Option (Int32 × bb_H)} (hk4 : ∀ (x0 : Nat) (x1 : Int32) (x2 : Int32) (x3 : Int32) (h : bb_H), k4 x0 x1 x2 x3 h = some r → bb_J RX8 cX8_allStoodBy 4 (some .int) rm_X8_allStoodBy (some (.int r.1), r.2) 4 [.ref x0, .int x1, .int x2, .int x3] [] h) : ∀ (x0 : Nat) (x1 : Int32) (x3 : Int32) (z0 : Int32) (h : bb_H), m_X8_allStoodBy_35 k4 x0 x1 x3 z0 h = some r → bb_J RX8 cX8_allStoodBy 4 (some .int) rm_X8_allStoodBy (some (.int r.1), r.2) 35 [.ref x0, .int x1, .null, .int x3] [.int z0] h := by
  intro x0 x1 x3 z0 h hf
  unfold m_X8_allStoodBy_35 at hf
  refine bb_iconst (v := 0) dX8_allStoodBy_35 (by decide) ?_
  refine bb_fewer (L' := [.ref x0, .int x1, .null, .int x3]) (And.intro rfl (And.intro rfl (And.intro rfl trivial))) ?_
  exact j_X8_allStoodBy_36 hk4 _ _ _ _ _ _ hf
set_option maxRecDepth 100000 in
set_option maxHeartbeats 4000000 in
theorem j_X8_allStoodBy_4 {r : Int32 × bb_H} : ∀ (n : Nat) (x0 : Nat) (x1 : Int32) (x2 : Int32) (x3 : Int32) (h : bb_H), m_X8_allStoodBy_4 n x0 x1 x2 x3 h = some r → bb_J RX8 cX8_allStoodBy 4 (some .int) rm_X8_allStoodBy (some (.int r.1), r.2) 4 [.ref x0, .int x1, .int x2, .int x3] [] h := by
  intro n
  induction n with
  | zero =>
    intro x0 x1 x2 x3 h hf
    exact absurd hf (fun z => by cases z)
  | succ n ih =>
    intro x0 x1 x2 x3 h hf
    unfold m_X8_allStoodBy_4 at hf
    refine bb_iload_n dX8_allStoodBy_4 rfl ?_
    refine bb_aload_n dX8_allStoodBy_5 rfl ?_
    obtain ⟨t6, h6, hf⟩ := bb_bind hf
    refine bb_getR fl_X8_7 dX8_allStoodBy_6 h6 ?_
    refine bb_iconst (v := 0) dX8_allStoodBy_9 (by decide) ?_
    obtain ⟨t10, h10, hf⟩ := bb_bind hf
    refine bb_iaload dX8_allStoodBy_10 h10 ?_
    refine bb_icmp_ge (tgt := 44) dX8_allStoodBy_11 (by decide) (fun c11 => ?_) (fun c11 => ?_)
    · rw [if_pos c11] at hf
      refine bb_iload_n dX8_allStoodBy_44 rfl ?_
      obtain rfl := Option.some.inj hf
      exact bb_iret rfl rfl dX8_allStoodBy_45
    rw [if_neg c11] at hf
    refine bb_iload_n dX8_allStoodBy_14 rfl ?_
    refine bb_iload_n dX8_allStoodBy_15 rfl ?_
    refine bb_iload_n dX8_allStoodBy_16 rfl ?_
    refine bb_icmp_eq (tgt := 35) dX8_allStoodBy_17 (by decide) (fun c17 => ?_) (fun c17 => ?_)
    · rw [if_pos c17] at hf
      refine bb_fewer (L' := [.ref x0, .int x1, .null, .int x3]) (And.intro rfl (And.intro rfl (And.intro rfl trivial))) ?_
      exact j_X8_allStoodBy_35 ih _ _ _ _ _ hf
    rw [if_neg c17] at hf
    refine bb_aload_n dX8_allStoodBy_20 rfl ?_
    refine bb_iload_n dX8_allStoodBy_21 rfl ?_
    refine bb_iload_n dX8_allStoodBy_22 rfl ?_
    obtain ⟨r23, h23, hf⟩ := bb_bind hf
    obtain ⟨⟨v23, b23⟩, h23⟩ := bb_rcv_spec h23
    refine bb_invV (ci := 8) (as := [.int x1, .int x3]) iv_X8_56 (by unfold bb_rr; decide) rfl dX8_allStoodBy_23 rfl rfl b23 (Nat.le_of_ble_eq_true rfl) (ok_X8_stoodBy h23) ?_
    refine bb_if_eq (tgt := 35) dX8_allStoodBy_26 (by decide) (fun c26 => ?_) (fun c26 => ?_)
    · rw [if_pos c26] at hf
      refine bb_fewer (L' := [.ref x0, .int x1, .null, .int x3]) (And.intro rfl (And.intro rfl (And.intro rfl trivial))) ?_
      exact j_X8_allStoodBy_35 ih _ _ _ _ _ hf
    rw [if_neg c26] at hf
    refine bb_iconst (v := 1) dX8_allStoodBy_29 (by decide) ?_
    refine bb_iload_n dX8_allStoodBy_30 rfl ?_
    refine bb_ishl dX8_allStoodBy_31 ?_
    refine bb_goto (tgt := 36) dX8_allStoodBy_32 (by decide) ?_
    refine bb_fewer (L' := [.ref x0, .int x1, .null, .int x3]) (And.intro rfl (And.intro rfl (And.intro rfl trivial))) ?_
    exact j_X8_allStoodBy_36 ih _ _ _ _ _ _ hf
set_option maxRecDepth 100000 in
set_option maxHeartbeats 4000000 in
theorem j_X8_allStoodBy_0 {r : Int32 × bb_H} : ∀ (x0 : Nat) (x1 : Int32) (h : bb_H), m_X8_allStoodBy x0 x1 h = some r → bb_J RX8 cX8_allStoodBy 4 (some .int) rm_X8_allStoodBy (some (.int r.1), r.2) 0 [.ref x0, .int x1, .null, .null] [] h := by
  intro x0 x1 h hf
  unfold m_X8_allStoodBy at hf
  refine bb_iconst (v := 0) dX8_allStoodBy_0 (by decide) ?_
  refine bb_istore_n (L' := [.ref x0, .int x1, .int 0, .null]) dX8_allStoodBy_1 (by decide) rfl rfl ?_
  refine bb_iconst (v := 0) dX8_allStoodBy_2 (by decide) ?_
  refine bb_istore_n (L' := [.ref x0, .int x1, .int 0, .int 0]) dX8_allStoodBy_3 (by decide) rfl rfl ?_
  refine bb_fewer (L' := [.ref x0, .int x1, .int 0, .int 0]) (And.intro rfl (And.intro rfl (And.intro rfl (And.intro rfl trivial)))) ?_
  exact j_X8_allStoodBy_4 _ _ _ _ _ _ hf
theorem ok_X8_allStoodBy {x0 : Nat} {x1 : Int32} {h : bb_H} {r : Int32 × bb_H} (hf : m_X8_allStoodBy x0 x1 h = some r) : bb_Ok yX8_allStoodBy cX8_allStoodBy 4 (some .int) rm_X8_allStoodBy [.ref x0, .int x1] h (some (.int r.1), r.2) :=
  bb_ok (L := [.ref x0, .int x1, .null, .null]) (by decide) (Nat.le_of_ble_eq_true rfl) rfl (bb_fewer (L' := [.ref x0, .int x1, .null, .null]) (And.intro rfl (And.intro rfl trivial)) (j_X8_allStoodBy_0 _ _ _ hf))
abbrev rm_X8_allSitBy : Room := { frames := 2, cells := 0, slots := 0, locals := 43 }
set_option maxRecDepth 100000 in
set_option maxHeartbeats 4000000 in
theorem j_X8_allSitBy_59 {r : Int32 × bb_H} : ∀ (z0 : Int32) (z1 : Int32) (h : bb_H), m_X8_allSitBy_59 z0 z1 h = some r → bb_J RX8 cX8_allSitBy 5 (some .int) rm_X8_allSitBy (some (.int r.1), r.2) 59 [.null, .null, .null, .null, .null] [.int z1, .int z0] h := by
  intro z0 z1 h hf
  unfold m_X8_allSitBy_59 at hf
  refine bb_ior dX8_allSitBy_59 ?_
  obtain rfl := Option.some.inj hf
  exact bb_iret rfl rfl dX8_allSitBy_60
set_option maxRecDepth 100000 in
set_option maxHeartbeats 4000000 in
theorem j_X8_allSitBy_44 {r : Int32 × bb_H} : ∀ (x4 : Int32) (z0 : Int32) (h : bb_H), m_X8_allSitBy_44 x4 z0 h = some r → bb_J RX8 cX8_allSitBy 5 (some .int) rm_X8_allSitBy (some (.int r.1), r.2) 44 [.null, .null, .null, .null, .int x4] [.int z0] h := by
  intro x4 z0 h hf
  unfold m_X8_allSitBy_44 at hf
  refine bb_iload dX8_allSitBy_44 rfl ?_
  refine bb_bipush (v := (-4)) dX8_allSitBy_46 (by decide) ?_
  refine bb_icmp_ne (tgt := 55) dX8_allSitBy_48 (by decide) (fun c48 => ?_) (fun c48 => ?_)
  · rw [if_neg c48] at hf
    refine bb_iconst (v := 1) dX8_allSitBy_55 (by decide) ?_
    refine bb_iload dX8_allSitBy_56 rfl ?_
    refine bb_ishl dX8_allSitBy_58 ?_
    refine bb_fewer (L' := [.null, .null, .null, .null, .null]) trivial ?_
    exact j_X8_allSitBy_59 _ _ _ hf
  rw [if_pos c48] at hf
  refine bb_iconst (v := 0) dX8_allSitBy_51 (by decide) ?_
  refine bb_goto (tgt := 59) dX8_allSitBy_52 (by decide) ?_
  refine bb_fewer (L' := [.null, .null, .null, .null, .null]) trivial ?_
  exact j_X8_allSitBy_59 _ _ _ hf
set_option maxRecDepth 100000 in
set_option maxHeartbeats 4000000 in
theorem j_X8_allSitBy_0 {r : Int32 × bb_H} : ∀ (x0 : Nat) (x1 : Int32) (h : bb_H), m_X8_allSitBy x0 x1 h = some r → bb_J RX8 cX8_allSitBy 5 (some .int) rm_X8_allSitBy (some (.int r.1), r.2) 0 [.ref x0, .int x1, .null, .null, .null] [] h := by
  intro x0 x1 h hf
  unfold m_X8_allSitBy at hf
  refine bb_aload_n dX8_allSitBy_0 rfl ?_
  refine bb_iload_n dX8_allSitBy_1 rfl ?_
  obtain ⟨r2, h2, hf⟩ := bb_bind hf
  obtain ⟨⟨v2, b2⟩, h2⟩ := bb_rcv_spec h2
  refine bb_invV (ci := 8) (as := [.int x1]) iv_X8_59 (by unfold bb_rr; decide) rfl dX8_allSitBy_2 rfl rfl b2 (Nat.le_of_ble_eq_true rfl) (ok_X8_seatOf h2) ?_
  refine bb_istore_n (L' := [.ref x0, .int x1, .int r2.1, .null, .null]) dX8_allSitBy_5 (by decide) rfl rfl ?_
  refine bb_iload_n dX8_allSitBy_6 rfl ?_
  refine bb_bipush (v := (-4)) dX8_allSitBy_7 (by decide) ?_
  refine bb_icmp_ne (tgt := 14) dX8_allSitBy_9 (by decide) (fun c9 => ?_) (fun c9 => ?_)
  · rw [if_neg c9] at hf
    refine bb_aload_n dX8_allSitBy_14 rfl ?_
    refine bb_iload_n dX8_allSitBy_15 rfl ?_
    refine bb_iconst (v := 1) dX8_allSitBy_16 (by decide) ?_
    refine bb_isub dX8_allSitBy_17 ?_
    obtain ⟨r18, h18, hf⟩ := bb_bind hf
    obtain ⟨⟨v18, b18⟩, h18⟩ := bb_rcv_spec h18
    refine bb_invV (ci := 8) (as := [.int (r2.1 - 1)]) iv_X8_63 (by unfold bb_rr; decide) rfl dX8_allSitBy_18 rfl rfl b18 (Nat.le_of_ble_eq_true rfl) (ok_X8_onSeat h18) ?_
    refine bb_istore_n (L' := [.ref x0, .int x1, .int r2.1, .int r18.1, .null]) dX8_allSitBy_21 (by decide) rfl rfl ?_
    refine bb_aload_n dX8_allSitBy_22 rfl ?_
    refine bb_iload_n dX8_allSitBy_23 rfl ?_
    refine bb_iconst (v := 1) dX8_allSitBy_24 (by decide) ?_
    refine bb_iadd dX8_allSitBy_25 ?_
    obtain ⟨r26, h26, hf⟩ := bb_bind hf
    obtain ⟨⟨v26, b26⟩, h26⟩ := bb_rcv_spec h26
    refine bb_invV (ci := 8) (as := [.int (r2.1 + 1)]) iv_X8_63 (by unfold bb_rr; decide) rfl dX8_allSitBy_26 rfl rfl b26 (Nat.le_of_ble_eq_true rfl) (ok_X8_onSeat h26) ?_
    refine bb_istore (L' := [.ref x0, .int x1, .int r2.1, .int r18.1, .int r26.1]) dX8_allSitBy_29 (by decide) rfl rfl ?_
    refine bb_iload_n dX8_allSitBy_31 rfl ?_
    refine bb_bipush (v := (-4)) dX8_allSitBy_32 (by decide) ?_
    refine bb_icmp_ne (tgt := 41) dX8_allSitBy_34 (by decide) (fun c34 => ?_) (fun c34 => ?_)
    · rw [if_neg c34] at hf
      refine bb_iconst (v := 1) dX8_allSitBy_41 (by decide) ?_
      refine bb_iload_n dX8_allSitBy_42 rfl ?_
      refine bb_ishl dX8_allSitBy_43 ?_
      refine bb_fewer (L' := [.null, .null, .null, .null, .int r26.1]) (And.intro rfl trivial) ?_
      exact j_X8_allSitBy_44 _ _ _ hf
    rw [if_pos c34] at hf
    refine bb_iconst (v := 0) dX8_allSitBy_37 (by decide) ?_
    refine bb_goto (tgt := 44) dX8_allSitBy_38 (by decide) ?_
    refine bb_fewer (L' := [.null, .null, .null, .null, .int r26.1]) (And.intro rfl trivial) ?_
    exact j_X8_allSitBy_44 _ _ _ hf
  rw [if_pos c9] at hf
  refine bb_iconst (v := 0) dX8_allSitBy_12 (by decide) ?_
  obtain rfl := Option.some.inj hf
  exact bb_iret rfl rfl dX8_allSitBy_13
theorem ok_X8_allSitBy {x0 : Nat} {x1 : Int32} {h : bb_H} {r : Int32 × bb_H} (hf : m_X8_allSitBy x0 x1 h = some r) : bb_Ok yX8_allSitBy cX8_allSitBy 5 (some .int) rm_X8_allSitBy [.ref x0, .int x1] h (some (.int r.1), r.2) :=
  bb_ok (L := [.ref x0, .int x1, .null, .null, .null]) (by decide) (Nat.le_of_ble_eq_true rfl) rfl (bb_fewer (L' := [.ref x0, .int x1, .null, .null, .null]) (And.intro rfl (And.intro rfl trivial)) (j_X8_allSitBy_0 _ _ _ hf))
abbrev rm_X8_ones : Room := { frames := 0, cells := 0, slots := 0, locals := 0 }
set_option maxRecDepth 100000 in
set_option maxHeartbeats 4000000 in
theorem j_X8_ones_4 {r : Int32 × bb_H} : ∀ (n : Nat) (x0 : Int32) (x1 : Int32) (x2 : Int32) (h : bb_H), m_X8_ones_4 n x0 x1 x2 h = some r → bb_J RX8 cX8_ones 3 (some .int) rm_X8_ones (some (.int r.1), r.2) 4 [.int x0, .int x1, .int x2] [] h := by
  intro n
  induction n with
  | zero =>
    intro x0 x1 x2 h hf
    exact absurd hf (fun z => by cases z)
  | succ n ih =>
    intro x0 x1 x2 h hf
    unfold m_X8_ones_4 at hf
    refine bb_iload_n dX8_ones_4 rfl ?_
    refine bb_bipush (v := 6) dX8_ones_5 (by decide) ?_
    refine bb_icmp_ge (tgt := 24) dX8_ones_7 (by decide) (fun c7 => ?_) (fun c7 => ?_)
    · rw [if_pos c7] at hf
      refine bb_iload_n dX8_ones_24 rfl ?_
      obtain rfl := Option.some.inj hf
      exact bb_iret rfl rfl dX8_ones_25
    rw [if_neg c7] at hf
    refine bb_iload_n dX8_ones_10 rfl ?_
    refine bb_iload_n dX8_ones_11 rfl ?_
    refine bb_iload_n dX8_ones_12 rfl ?_
    refine bb_ishr dX8_ones_13 ?_
    refine bb_iconst (v := 1) dX8_ones_14 (by decide) ?_
    refine bb_iand dX8_ones_15 ?_
    refine bb_iadd dX8_ones_16 ?_
    refine bb_istore_n (L' := [.int x0, .int (x1 + ((x0 >>> (x2 &&& 31)) &&& 1)), .int x2]) dX8_ones_17 (by decide) rfl rfl ?_
    refine bb_iinc (v := x2 + 1) (L' := [.int x0, .int (x1 + ((x0 >>> (x2 &&& 31)) &&& 1)), .int (x2 + 1)]) dX8_ones_18 rfl rfl (by decide) rfl rfl ?_
    refine bb_goto (tgt := 4) dX8_ones_21 (by decide) ?_
    refine bb_fewer (L' := [.int x0, .int (x1 + ((x0 >>> (x2 &&& 31)) &&& 1)), .int (x2 + 1)]) (And.intro rfl (And.intro rfl (And.intro rfl trivial))) ?_
    exact ih _ _ _ _ hf
set_option maxRecDepth 100000 in
set_option maxHeartbeats 4000000 in
theorem j_X8_ones_0 {r : Int32 × bb_H} : ∀ (x0 : Int32) (h : bb_H), m_X8_ones x0 h = some r → bb_J RX8 cX8_ones 3 (some .int) rm_X8_ones (some (.int r.1), r.2) 0 [.int x0, .null, .null] [] h := by
  intro x0 h hf
  unfold m_X8_ones at hf
  refine bb_iconst (v := 0) dX8_ones_0 (by decide) ?_
  refine bb_istore_n (L' := [.int x0, .int 0, .null]) dX8_ones_1 (by decide) rfl rfl ?_
  refine bb_iconst (v := 0) dX8_ones_2 (by decide) ?_
  refine bb_istore_n (L' := [.int x0, .int 0, .int 0]) dX8_ones_3 (by decide) rfl rfl ?_
  refine bb_fewer (L' := [.int x0, .int 0, .int 0]) (And.intro rfl (And.intro rfl (And.intro rfl trivial))) ?_
  exact j_X8_ones_4 _ _ _ _ _ hf
theorem ok_X8_ones {x0 : Int32} {h : bb_H} {r : Int32 × bb_H} (hf : m_X8_ones x0 h = some r) : bb_Ok yX8_ones cX8_ones 3 (some .int) rm_X8_ones [.int x0] h (some (.int r.1), r.2) :=
  bb_ok (L := [.int x0, .null, .null]) (by decide) (Nat.le_of_ble_eq_true rfl) rfl (bb_fewer (L' := [.int x0, .null, .null]) (And.intro rfl trivial) (j_X8_ones_0 _ _ hf))
abbrev rm_X8_fails : Room := { frames := 3, cells := 0, slots := 0, locals := 67 }
set_option maxRecDepth 100000 in
set_option maxHeartbeats 4000000 in
theorem j_X8_fails_93 {r : Int32 × bb_H} : ∀ (z0 : Int32) (h : bb_H), m_X8_fails_93 z0 h = some r → bb_J RX8 cX8_fails 4 (some .int) rm_X8_fails (some (.int r.1), r.2) 93 [.null, .null, .null, .null] [.int z0] h := by
  intro z0 h hf
  unfold m_X8_fails_93 at hf
  obtain rfl := Option.some.inj hf
  exact bb_iret rfl rfl dX8_fails_93
set_option maxRecDepth 100000 in
set_option maxHeartbeats 4000000 in
theorem j_X8_fails_86 {r : Int32 × bb_H} : ∀ (x2 : Int32) (h : bb_H), m_X8_fails_86 x2 h = some r → bb_J RX8 cX8_fails 4 (some .int) rm_X8_fails (some (.int r.1), r.2) 86 [.null, .null, .int x2, .null] [] h := by
  intro x2 h hf
  unfold m_X8_fails_86 at hf
  refine bb_iload_n dX8_fails_86 rfl ?_
  refine bb_iconst (v := 1) dX8_fails_87 (by decide) ?_
  refine bb_iadd dX8_fails_88 ?_
  refine bb_goto (tgt := 93) dX8_fails_89 (by decide) ?_
  refine bb_fewer (L' := [.null, .null, .null, .null]) trivial ?_
  exact j_X8_fails_93 _ _ hf
set_option maxRecDepth 100000 in
set_option maxHeartbeats 4000000 in
theorem j_X8_fails_16 {r : Int32 × bb_H} : ∀ (x0 : Nat) (x1 : Int32) (z0 : Int32) (h : bb_H), m_X8_fails_16 x0 x1 z0 h = some r → bb_J RX8 cX8_fails 4 (some .int) rm_X8_fails (some (.int r.1), r.2) 16 [.ref x0, .int x1, .null, .null] [.int z0] h := by
  intro x0 x1 z0 h hf
  unfold m_X8_fails_16 at hf
  refine bb_istore_n (L' := [.ref x0, .int x1, .int z0, .null]) dX8_fails_16 (by decide) rfl rfl ?_
  refine bb_aload_n dX8_fails_17 rfl ?_
  refine bb_iload_n dX8_fails_18 rfl ?_
  obtain ⟨r19, h19, hf⟩ := bb_bind hf
  obtain ⟨⟨v19, b19⟩, h19⟩ := bb_rcv_spec h19
  refine bb_invV (ci := 8) (as := [.int x1]) iv_X8_59 (by unfold bb_rr; decide) rfl dX8_fails_19 rfl rfl b19 (Nat.le_of_ble_eq_true rfl) (ok_X8_seatOf h19) ?_
  refine bb_istore_n (L' := [.ref x0, .int x1, .int z0, .int r19.1]) dX8_fails_22 (by decide) rfl rfl ?_
  refine bb_aload_n dX8_fails_23 rfl ?_
  obtain ⟨t24, h24, hf⟩ := bb_bind hf
  refine bb_getR fl_X8_7 dX8_fails_24 h24 ?_
  refine bb_bipush (v := 16) dX8_fails_27 (by decide) ?_
  refine bb_iload_n dX8_fails_29 rfl ?_
  refine bb_iadd dX8_fails_30 ?_
  obtain ⟨t31, h31, hf⟩ := bb_bind hf
  refine bb_iaload dX8_fails_31 h31 ?_
  by_cases c32_0 : t31 = 0
  · rw [if_pos c32_0] at hf
    refine bb_tableIn (tgt := 64) dX8_fails_32 (by rw [c32_0]; decide) (by rw [c32_0]; decide) (off := 32) (by rw [c32_0]; decide) (by decide) ?_
    refine bb_iconst (v := 2) dX8_fails_64 (by decide) ?_
    obtain rfl := Option.some.inj hf
    exact bb_iret rfl rfl dX8_fails_65
  rw [if_neg c32_0] at hf
  by_cases c32_1 : t31 = 1
  · rw [if_pos c32_1] at hf
    refine bb_tableIn (tgt := 66) dX8_fails_32 (by rw [c32_1]; decide) (by rw [c32_1]; decide) (off := 34) (by rw [c32_1]; decide) (by decide) ?_
    refine bb_iload_n dX8_fails_66 rfl ?_
    obtain rfl := Option.some.inj hf
    exact bb_iret rfl rfl dX8_fails_67
  rw [if_neg c32_1] at hf
  by_cases c32_2 : t31 = 2
  · rw [if_pos c32_2] at hf
    refine bb_tableIn (tgt := 68) dX8_fails_32 (by rw [c32_2]; decide) (by rw [c32_2]; decide) (off := 36) (by rw [c32_2]; decide) (by decide) ?_
    refine bb_iconst (v := 4) dX8_fails_68 (by decide) ?_
    obtain rfl := Option.some.inj hf
    exact bb_iret rfl rfl dX8_fails_69
  rw [if_neg c32_2] at hf
  by_cases c32_3 : t31 = 3
  · rw [if_pos c32_3] at hf
    refine bb_tableIn (tgt := 70) dX8_fails_32 (by rw [c32_3]; decide) (by rw [c32_3]; decide) (off := 38) (by rw [c32_3]; decide) (by decide) ?_
    refine bb_iload_n dX8_fails_70 rfl ?_
    refine bb_if_eq (tgt := 86) dX8_fails_71 (by decide) (fun c71 => ?_) (fun c71 => ?_)
    · rw [if_pos c71] at hf
      refine bb_fewer (L' := [.null, .null, .int z0, .null]) (And.intro rfl trivial) ?_
      exact j_X8_fails_86 _ _ hf
    rw [if_neg c71] at hf
    refine bb_iload_n dX8_fails_74 rfl ?_
    refine bb_aload_n dX8_fails_75 rfl ?_
    obtain ⟨t76, h76, hf⟩ := bb_bind hf
    refine bb_getR fl_X8_7 dX8_fails_76 h76 ?_
    refine bb_iconst (v := 1) dX8_fails_79 (by decide) ?_
    obtain ⟨t80, h80, hf⟩ := bb_bind hf
    refine bb_iaload dX8_fails_80 h80 ?_
    refine bb_iconst (v := 1) dX8_fails_81 (by decide) ?_
    refine bb_isub dX8_fails_82 ?_
    refine bb_icmp_ne (tgt := 92) dX8_fails_83 (by decide) (fun c83 => ?_) (fun c83 => ?_)
    · rw [if_neg c83] at hf
      refine bb_iload_n dX8_fails_92 rfl ?_
      refine bb_fewer (L' := [.null, .null, .null, .null]) trivial ?_
      exact j_X8_fails_93 _ _ hf
    rw [if_pos c83] at hf
    refine bb_fewer (L' := [.null, .null, .int z0, .null]) (And.intro rfl trivial) ?_
    exact j_X8_fails_86 _ _ hf
  rw [if_neg c32_3] at hf
  refine bb_tableOut (tgt := 94) dX8_fails_32 (bb_swout t31 0 3 (by decide) (fun n q1 q2 => by rcases (show n = 0 ∨ n = 1 ∨ n = 2 ∨ n = 3 by omega) with rfl | rfl | rfl | rfl <;> assumption)) (by decide) ?_
  refine bb_iconst (v := 4) dX8_fails_94 (by decide) ?_
  refine bb_aload_n dX8_fails_95 rfl ?_
  refine bb_iload_n dX8_fails_96 rfl ?_
  obtain ⟨r97, h97, hf⟩ := bb_bind hf
  obtain ⟨⟨v97, b97⟩, h97⟩ := bb_rcv_spec h97
  refine bb_invV (ci := 8) (as := [.int x1]) iv_X8_66 (by unfold bb_rr; decide) rfl dX8_fails_97 rfl rfl b97 (Nat.le_of_ble_eq_true rfl) (ok_X8_allSitBy h97) ?_
  refine bb_aload_n dX8_fails_100 rfl ?_
  refine bb_iload_n dX8_fails_101 rfl ?_
  obtain ⟨r102, h102, hf⟩ := bb_bind hf
  obtain ⟨⟨v102, b102⟩, h102⟩ := bb_rcv_spec h102
  refine bb_invV (ci := 8) (as := [.int x1]) iv_X8_69 (by unfold bb_rr; decide) rfl dX8_fails_102 rfl rfl b102 (Nat.le_of_ble_eq_true rfl) (ok_X8_allStoodBy h102) ?_
  refine bb_iand dX8_fails_105 ?_
  obtain ⟨r106, h106, hf⟩ := bb_bind hf
  refine bb_invS (as := [.int (r97.1 &&& r102.1)]) is_X8_72 (by unfold bb_rr; decide) dX8_fails_106 rfl rfl (Nat.le_of_ble_eq_true rfl) (ok_X8_ones h106) ?_
  refine bb_isub dX8_fails_109 ?_
  obtain rfl := Option.some.inj hf
  exact bb_iret rfl rfl dX8_fails_110
set_option maxRecDepth 100000 in
set_option maxHeartbeats 4000000 in
theorem j_X8_fails_0 {r : Int32 × bb_H} : ∀ (x0 : Nat) (x1 : Int32) (h : bb_H), m_X8_fails x0 x1 h = some r → bb_J RX8 cX8_fails 4 (some .int) rm_X8_fails (some (.int r.1), r.2) 0 [.ref x0, .int x1, .null, .null] [] h := by
  intro x0 x1 h hf
  unfold m_X8_fails at hf
  refine bb_aload_n dX8_fails_0 rfl ?_
  obtain ⟨t1, h1, hf⟩ := bb_bind hf
  refine bb_getR fl_X8_7 dX8_fails_1 h1 ?_
  refine bb_iconst (v := 2) dX8_fails_4 (by decide) ?_
  obtain ⟨t5, h5, hf⟩ := bb_bind hf
  refine bb_iaload dX8_fails_5 h5 ?_
  refine bb_iconst (v := 2) dX8_fails_6 (by decide) ?_
  refine bb_irem dX8_fails_7 (by decide) ?_
  refine bb_if_ne (tgt := 15) dX8_fails_8 (by decide) (fun c8 => ?_) (fun c8 => ?_)
  · rw [if_neg c8] at hf
    refine bb_iconst (v := 0) dX8_fails_15 (by decide) ?_
    refine bb_fewer (L' := [.ref x0, .int x1, .null, .null]) (And.intro rfl (And.intro rfl trivial)) ?_
    exact j_X8_fails_16 _ _ _ _ hf
  rw [if_pos c8] at hf
  refine bb_iconst (v := 2) dX8_fails_11 (by decide) ?_
  refine bb_goto (tgt := 16) dX8_fails_12 (by decide) ?_
  refine bb_fewer (L' := [.ref x0, .int x1, .null, .null]) (And.intro rfl (And.intro rfl trivial)) ?_
  exact j_X8_fails_16 _ _ _ _ hf
theorem ok_X8_fails {x0 : Nat} {x1 : Int32} {h : bb_H} {r : Int32 × bb_H} (hf : m_X8_fails x0 x1 h = some r) : bb_Ok yX8_fails cX8_fails 4 (some .int) rm_X8_fails [.ref x0, .int x1] h (some (.int r.1), r.2) :=
  bb_ok (L := [.ref x0, .int x1, .null, .null]) (by decide) (Nat.le_of_ble_eq_true rfl) rfl (bb_fewer (L' := [.ref x0, .int x1, .null, .null]) (And.intro rfl (And.intro rfl trivial)) (j_X8_fails_0 _ _ _ hf))
abbrev rm_X8_passes : Room := { frames := 4, cells := 0, slots := 0, locals := 90 }
set_option maxRecDepth 100000 in
set_option maxHeartbeats 4000000 in
theorem j_X8_passes_37 {r : bb_H} {k2 : Nat → Int32 → bb_H → Option bb_H} (hk2 : ∀ (x0 : Nat) (x1 : Int32) (h : bb_H), k2 x0 x1 h = some r → bb_J RX8 cX8_passes 4 none rm_X8_passes (none, r) 2 [.ref x0, .int x1, .null, .null] [] h) : ∀ (x0 : Nat) (x1 : Int32) (z0 : Nat) (z1 : Int32) (z2 : Int32) (h : bb_H), m_X8_passes_37 k2 x0 x1 z0 z1 z2 h = some r → bb_J RX8 cX8_passes 4 none rm_X8_passes (none, r) 37 [.ref x0, .int x1, .null, .null] [.int z2, .int z1, .ref z0] h := by
  intro x0 x1 z0 z1 z2 h hf
  unfold m_X8_passes_37 at hf
  obtain ⟨g37, h37, hf⟩ := bb_bind hf
  refine bb_iastore dX8_passes_37 h37 ?_
  refine bb_iinc (v := x1 + 1) (L' := [.ref x0, .int (x1 + 1), .null, .null]) dX8_passes_38 rfl rfl (by decide) rfl rfl ?_
  refine bb_goto (tgt := 2) dX8_passes_41 (by decide) ?_
  refine bb_fewer (L' := [.ref x0, .int (x1 + 1), .null, .null]) (And.intro rfl (And.intro rfl trivial)) ?_
  exact hk2 _ _ _ hf
set_option maxRecDepth 100000 in
set_option maxHeartbeats 4000000 in
theorem j_X8_passes_99 {r : bb_H} {k46 : Nat → Int32 → bb_H → Option bb_H} (hk46 : ∀ (x0 : Nat) (x1 : Int32) (h : bb_H), k46 x0 x1 h = some r → bb_J RX8 cX8_passes 4 none rm_X8_passes (none, r) 46 [.ref x0, .int x1, .null, .null] [] h) : ∀ (x0 : Nat) (x1 : Int32) (z0 : Nat) (z1 : Int32) (z2 : Int32) (h : bb_H), m_X8_passes_99 k46 x0 x1 z0 z1 z2 h = some r → bb_J RX8 cX8_passes 4 none rm_X8_passes (none, r) 99 [.ref x0, .int x1, .null, .null] [.int z2, .int z1, .ref z0] h := by
  intro x0 x1 z0 z1 z2 h hf
  unfold m_X8_passes_99 at hf
  obtain ⟨g99, h99, hf⟩ := bb_bind hf
  refine bb_iastore dX8_passes_99 h99 ?_
  refine bb_iinc (v := x1 + 1) (L' := [.ref x0, .int (x1 + 1), .null, .null]) dX8_passes_100 rfl rfl (by decide) rfl rfl ?_
  refine bb_goto (tgt := 46) dX8_passes_103 (by decide) ?_
  refine bb_fewer (L' := [.ref x0, .int (x1 + 1), .null, .null]) (And.intro rfl (And.intro rfl trivial)) ?_
  exact hk46 _ _ _ hf
set_option maxRecDepth 100000 in
set_option maxHeartbeats 4000000 in
theorem j_X8_passes_157 {r : bb_H} {k110 : Nat → Int32 → Int32 → bb_H → Option bb_H} (hk110 : ∀ (x0 : Nat) (x1 : Int32) (x2 : Int32) (h : bb_H), k110 x0 x1 x2 h = some r → bb_J RX8 cX8_passes 4 none rm_X8_passes (none, r) 110 [.ref x0, .int x1, .int x2, .null] [] h) : ∀ (x0 : Nat) (x2 : Int32) (z0 : Int32) (z1 : Int32) (h : bb_H), m_X8_passes_157 k110 x0 x2 z0 z1 h = some r → bb_J RX8 cX8_passes 4 none rm_X8_passes (none, r) 157 [.ref x0, .null, .int x2, .null] [.int z1, .int z0] h := by
  intro x0 x2 z0 z1 h hf
  unfold m_X8_passes_157 at hf
  refine bb_iadd dX8_passes_157 ?_
  refine bb_istore_n (L' := [.ref x0, .int (z0 + z1), .int x2, .null]) dX8_passes_158 (by decide) rfl rfl ?_
  refine bb_iinc (v := x2 + 1) (L' := [.ref x0, .int (z0 + z1), .int (x2 + 1), .null]) dX8_passes_159 rfl rfl (by decide) rfl rfl ?_
  refine bb_goto (tgt := 110) dX8_passes_162 (by decide) ?_
  refine bb_fewer (L' := [.ref x0, .int (z0 + z1), .int (x2 + 1), .null]) (And.intro rfl (And.intro rfl (And.intro rfl trivial))) ?_
  exact hk110 _ _ _ _ hf
set_option maxRecDepth 100000 in
set_option maxHeartbeats 4000000 in
theorem j_X8_passes_110 {r : bb_H} : ∀ (n : Nat) (x0 : Nat) (x1 : Int32) (x2 : Int32) (h : bb_H), m_X8_passes_110 n x0 x1 x2 h = some r → bb_J RX8 cX8_passes 4 none rm_X8_passes (none, r) 110 [.ref x0, .int x1, .int x2, .null] [] h := by
  intro n
  induction n with
  | zero =>
    intro x0 x1 x2 h hf
    exact absurd hf (fun z => by cases z)
  | succ n ih =>
    intro x0 x1 x2 h hf
    unfold m_X8_passes_110 at hf
    refine bb_iload_n dX8_passes_110 rfl ?_
    refine bb_aload_n dX8_passes_111 rfl ?_
    obtain ⟨t112, h112, hf⟩ := bb_bind hf
    refine bb_getR fl_X8_7 dX8_passes_112 h112 ?_
    refine bb_iconst (v := 1) dX8_passes_115 (by decide) ?_
    obtain ⟨t116, h116, hf⟩ := bb_bind hf
    refine bb_iaload dX8_passes_116 h116 ?_
    refine bb_icmp_ge (tgt := 165) dX8_passes_117 (by decide) (fun c117 => ?_) (fun c117 => ?_)
    · rw [if_pos c117] at hf
      refine bb_aload_n dX8_passes_165 rfl ?_
      obtain ⟨t166, h166, hf⟩ := bb_bind hf
      refine bb_getR fl_X8_7 dX8_passes_166 h166 ?_
      refine bb_iconst (v := 1) dX8_passes_169 (by decide) ?_
      refine bb_iload_n dX8_passes_170 rfl ?_
      obtain ⟨g171, h171, hf⟩ := bb_bind hf
      refine bb_iastore dX8_passes_171 h171 ?_
      refine bb_aload_n dX8_passes_172 rfl ?_
      obtain ⟨t173, h173, hf⟩ := bb_bind hf
      refine bb_getR fl_X8_7 dX8_passes_173 h173 ?_
      refine bb_iconst (v := 2) dX8_passes_176 (by decide) ?_
      refine bb_dup2 dX8_passes_177 rfl rfl ?_
      obtain ⟨t178, h178, hf⟩ := bb_bind hf
      refine bb_iaload dX8_passes_178 h178 ?_
      refine bb_iconst (v := 1) dX8_passes_179 (by decide) ?_
      refine bb_iadd dX8_passes_180 ?_
      obtain ⟨g181, h181, hf⟩ := bb_bind hf
      refine bb_iastore dX8_passes_181 h181 ?_
      obtain rfl := Option.some.inj hf
      exact bb_vret rfl rfl dX8_passes_182
    rw [if_neg c117] at hf
    refine bb_aload_n dX8_passes_120 rfl ?_
    obtain ⟨t121, h121, hf⟩ := bb_bind hf
    refine bb_getR fl_X8_7 dX8_passes_121 h121 ?_
    refine bb_bipush (v := 10) dX8_passes_124 (by decide) ?_
    refine bb_iload_n dX8_passes_126 rfl ?_
    refine bb_iadd dX8_passes_127 ?_
    obtain ⟨t128, h128, hf⟩ := bb_bind hf
    refine bb_iaload dX8_passes_128 h128 ?_
    refine bb_istore_n (L' := [.ref x0, .int x1, .int x2, .int t128]) dX8_passes_129 (by decide) rfl rfl ?_
    refine bb_aload_n dX8_passes_130 rfl ?_
    obtain ⟨t131, h131, hf⟩ := bb_bind hf
    refine bb_getR fl_X8_7 dX8_passes_131 h131 ?_
    refine bb_bipush (v := 10) dX8_passes_134 (by decide) ?_
    refine bb_iload_n dX8_passes_136 rfl ?_
    refine bb_iadd dX8_passes_137 ?_
    refine bb_iload_n dX8_passes_138 rfl ?_
    obtain ⟨g139, h139, hf⟩ := bb_bind hf
    refine bb_iastore dX8_passes_139 h139 ?_
    refine bb_iload_n dX8_passes_140 rfl ?_
    refine bb_aload_n dX8_passes_141 rfl ?_
    obtain ⟨t142, h142, hf⟩ := bb_bind hf
    refine bb_getR fl_X8_7 dX8_passes_142 h142 ?_
    refine bb_iconst (v := 4) dX8_passes_145 (by decide) ?_
    refine bb_iload_n dX8_passes_146 rfl ?_
    refine bb_iadd dX8_passes_147 ?_
    obtain ⟨t148, h148, hf⟩ := bb_bind hf
    refine bb_iaload dX8_passes_148 h148 ?_
    refine bb_if_le (tgt := 156) dX8_passes_149 (by decide) (fun c149 => ?_) (fun c149 => ?_)
    · rw [if_pos c149] at hf
      refine bb_iconst (v := 0) dX8_passes_156 (by decide) ?_
      refine bb_fewer (L' := [.ref x0, .null, .int x2, .null]) (And.intro rfl (And.intro rfl trivial)) ?_
      exact j_X8_passes_157 ih _ _ _ _ _ hf
    rw [if_neg c149] at hf
    refine bb_iconst (v := 1) dX8_passes_152 (by decide) ?_
    refine bb_goto (tgt := 157) dX8_passes_153 (by decide) ?_
    refine bb_fewer (L' := [.ref x0, .null, .int x2, .null]) (And.intro rfl (And.intro rfl trivial)) ?_
    exact j_X8_passes_157 ih _ _ _ _ _ hf
set_option maxRecDepth 100000 in
set_option maxHeartbeats 4000000 in
theorem j_X8_passes_46 {r : bb_H} : ∀ (n : Nat) (x0 : Nat) (x1 : Int32) (h : bb_H), m_X8_passes_46 n x0 x1 h = some r → bb_J RX8 cX8_passes 4 none rm_X8_passes (none, r) 46 [.ref x0, .int x1, .null, .null] [] h := by
  intro n
  induction n with
  | zero =>
    intro x0 x1 h hf
    exact absurd hf (fun z => by cases z)
  | succ n ih =>
    intro x0 x1 h hf
    unfold m_X8_passes_46 at hf
    refine bb_iload_n dX8_passes_46 rfl ?_
    refine bb_aload_n dX8_passes_47 rfl ?_
    obtain ⟨t48, h48, hf⟩ := bb_bind hf
    refine bb_getR fl_X8_7 dX8_passes_48 h48 ?_
    refine bb_iconst (v := 0) dX8_passes_51 (by decide) ?_
    obtain ⟨t52, h52, hf⟩ := bb_bind hf
    refine bb_iaload dX8_passes_52 h52 ?_
    refine bb_icmp_ge (tgt := 106) dX8_passes_53 (by decide) (fun c53 => ?_) (fun c53 => ?_)
    · rw [if_pos c53] at hf
      refine bb_iconst (v := 0) dX8_passes_106 (by decide) ?_
      refine bb_istore_n (L' := [.ref x0, .int 0, .null, .null]) dX8_passes_107 (by decide) rfl rfl ?_
      refine bb_iconst (v := 0) dX8_passes_108 (by decide) ?_
      refine bb_istore_n (L' := [.ref x0, .int 0, .int 0, .null]) dX8_passes_109 (by decide) rfl rfl ?_
      refine bb_fewer (L' := [.ref x0, .int 0, .int 0, .null]) (And.intro rfl (And.intro rfl (And.intro rfl trivial))) ?_
      exact j_X8_passes_110 _ _ _ _ _ hf
    rw [if_neg c53] at hf
    refine bb_aload_n dX8_passes_56 rfl ?_
    obtain ⟨t57, h57, hf⟩ := bb_bind hf
    refine bb_getR fl_X8_7 dX8_passes_57 h57 ?_
    refine bb_iconst (v := 4) dX8_passes_60 (by decide) ?_
    refine bb_iload_n dX8_passes_61 rfl ?_
    refine bb_iadd dX8_passes_62 ?_
    refine bb_aload_n dX8_passes_63 rfl ?_
    obtain ⟨t64, h64, hf⟩ := bb_bind hf
    refine bb_getR fl_X8_7 dX8_passes_64 h64 ?_
    refine bb_iconst (v := 4) dX8_passes_67 (by decide) ?_
    refine bb_iload_n dX8_passes_68 rfl ?_
    refine bb_iadd dX8_passes_69 ?_
    obtain ⟨t70, h70, hf⟩ := bb_bind hf
    refine bb_iaload dX8_passes_70 h70 ?_
    refine bb_aload_n dX8_passes_71 rfl ?_
    obtain ⟨t72, h72, hf⟩ := bb_bind hf
    refine bb_getR fl_X8_35 dX8_passes_72 h72 ?_
    refine bb_iload_n dX8_passes_75 rfl ?_
    obtain ⟨t76, h76, hf⟩ := bb_bind hf
    refine bb_iaload dX8_passes_76 h76 ?_
    refine bb_icmp_le (tgt := 98) dX8_passes_77 (by decide) (fun c77 => ?_) (fun c77 => ?_)
    · rw [if_pos c77] at hf
      refine bb_iconst (v := 0) dX8_passes_98 (by decide) ?_
      refine bb_fewer (L' := [.ref x0, .int x1, .null, .null]) (And.intro rfl (And.intro rfl trivial)) ?_
      exact j_X8_passes_99 ih _ _ _ _ _ _ hf
    rw [if_neg c77] at hf
    refine bb_aload_n dX8_passes_80 rfl ?_
    obtain ⟨t81, h81, hf⟩ := bb_bind hf
    refine bb_getR fl_X8_7 dX8_passes_81 h81 ?_
    refine bb_iconst (v := 4) dX8_passes_84 (by decide) ?_
    refine bb_iload_n dX8_passes_85 rfl ?_
    refine bb_iadd dX8_passes_86 ?_
    obtain ⟨t87, h87, hf⟩ := bb_bind hf
    refine bb_iaload dX8_passes_87 h87 ?_
    refine bb_aload_n dX8_passes_88 rfl ?_
    obtain ⟨t89, h89, hf⟩ := bb_bind hf
    refine bb_getR fl_X8_35 dX8_passes_89 h89 ?_
    refine bb_iload_n dX8_passes_92 rfl ?_
    obtain ⟨t93, h93, hf⟩ := bb_bind hf
    refine bb_iaload dX8_passes_93 h93 ?_
    refine bb_isub dX8_passes_94 ?_
    refine bb_goto (tgt := 99) dX8_passes_95 (by decide) ?_
    refine bb_fewer (L' := [.ref x0, .int x1, .null, .null]) (And.intro rfl (And.intro rfl trivial)) ?_
    exact j_X8_passes_99 ih _ _ _ _ _ _ hf
set_option maxRecDepth 100000 in
set_option maxHeartbeats 4000000 in
theorem j_X8_passes_2 {r : bb_H} : ∀ (n : Nat) (x0 : Nat) (x1 : Int32) (h : bb_H), m_X8_passes_2 n x0 x1 h = some r → bb_J RX8 cX8_passes 4 none rm_X8_passes (none, r) 2 [.ref x0, .int x1, .null, .null] [] h := by
  intro n
  induction n with
  | zero =>
    intro x0 x1 h hf
    exact absurd hf (fun z => by cases z)
  | succ n ih =>
    intro x0 x1 h hf
    unfold m_X8_passes_2 at hf
    refine bb_iload_n dX8_passes_2 rfl ?_
    refine bb_aload_n dX8_passes_3 rfl ?_
    obtain ⟨t4, h4, hf⟩ := bb_bind hf
    refine bb_getR fl_X8_7 dX8_passes_4 h4 ?_
    refine bb_iconst (v := 0) dX8_passes_7 (by decide) ?_
    obtain ⟨t8, h8, hf⟩ := bb_bind hf
    refine bb_iaload dX8_passes_8 h8 ?_
    refine bb_icmp_ge (tgt := 44) dX8_passes_9 (by decide) (fun c9 => ?_) (fun c9 => ?_)
    · rw [if_pos c9] at hf
      refine bb_iconst (v := 0) dX8_passes_44 (by decide) ?_
      refine bb_istore_n (L' := [.ref x0, .int 0, .null, .null]) dX8_passes_45 (by decide) rfl rfl ?_
      refine bb_fewer (L' := [.ref x0, .int 0, .null, .null]) (And.intro rfl (And.intro rfl trivial)) ?_
      exact j_X8_passes_46 _ _ _ _ hf
    rw [if_neg c9] at hf
    refine bb_aload_n dX8_passes_12 rfl ?_
    obtain ⟨t13, h13, hf⟩ := bb_bind hf
    refine bb_getR fl_X8_35 dX8_passes_13 h13 ?_
    refine bb_iload_n dX8_passes_16 rfl ?_
    refine bb_aload_n dX8_passes_17 rfl ?_
    obtain ⟨r18, h18, hf⟩ := bb_bind hf
    obtain ⟨⟨v18, b18⟩, h18⟩ := bb_rcv_spec h18
    refine bb_invV (ci := 8) (as := []) iv_X8_75 (by unfold bb_rr; decide) rfl dX8_passes_18 rfl rfl b18 (Nat.le_of_ble_eq_true rfl) (ok_X8_bench h18) ?_
    refine bb_iload_n dX8_passes_21 rfl ?_
    obtain ⟨r22, h22, hf⟩ := bb_bind hf
    refine bb_invS (as := [.int r18.1, .int x1]) is_X8_79 (by unfold bb_rr; decide) dX8_passes_22 rfl rfl (Nat.le_of_ble_eq_true rfl) (ok_X8_has h22) ?_
    refine bb_if_eq (tgt := 36) dX8_passes_25 (by decide) (fun c25 => ?_) (fun c25 => ?_)
    · rw [if_pos c25] at hf
      refine bb_iconst (v := 0) dX8_passes_36 (by decide) ?_
      refine bb_fewer (L' := [.ref x0, .int x1, .null, .null]) (And.intro rfl (And.intro rfl trivial)) ?_
      exact j_X8_passes_37 ih _ _ _ _ _ _ hf
    rw [if_neg c25] at hf
    refine bb_aload_n dX8_passes_28 rfl ?_
    refine bb_iload_n dX8_passes_29 rfl ?_
    obtain ⟨r30, h30, hf⟩ := bb_bind hf
    obtain ⟨⟨v30, b30⟩, h30⟩ := bb_rcv_spec h30
    refine bb_invV (ci := 8) (as := [.int x1]) iv_X8_82 (by unfold bb_rr; decide) rfl dX8_passes_30 rfl rfl b30 (Nat.le_of_ble_eq_true rfl) (ok_X8_fails h30) ?_
    refine bb_goto (tgt := 37) dX8_passes_33 (by decide) ?_
    refine bb_fewer (L' := [.ref x0, .int x1, .null, .null]) (And.intro rfl (And.intro rfl trivial)) ?_
    exact j_X8_passes_37 ih _ _ _ _ _ _ hf
set_option maxRecDepth 100000 in
set_option maxHeartbeats 4000000 in
theorem j_X8_passes_0 {r : bb_H} : ∀ (x0 : Nat) (h : bb_H), m_X8_passes x0 h = some r → bb_J RX8 cX8_passes 4 none rm_X8_passes (none, r) 0 [.ref x0, .null, .null, .null] [] h := by
  intro x0 h hf
  unfold m_X8_passes at hf
  refine bb_iconst (v := 0) dX8_passes_0 (by decide) ?_
  refine bb_istore_n (L' := [.ref x0, .int 0, .null, .null]) dX8_passes_1 (by decide) rfl rfl ?_
  refine bb_fewer (L' := [.ref x0, .int 0, .null, .null]) (And.intro rfl (And.intro rfl trivial)) ?_
  exact j_X8_passes_2 _ _ _ _ hf
theorem ok_X8_passes {x0 : Nat} {h : bb_H} {r : bb_H} (hf : m_X8_passes x0 h = some r) : bb_Ok yX8_passes cX8_passes 4 none rm_X8_passes [.ref x0] h (none, r) :=
  bb_ok (L := [.ref x0, .null, .null, .null]) (by decide) (Nat.le_of_ble_eq_true rfl) rfl (bb_fewer (L' := [.ref x0, .null, .null, .null]) (And.intro rfl trivial) (j_X8_passes_0 _ _ hf))
abbrev rm_X8_of : Room := { frames := 4, cells := 0, slots := 0, locals := 90 }
set_option maxRecDepth 100000 in
set_option maxHeartbeats 4000000 in
theorem j_X8_of_18 {r : Int32 × bb_H} : ∀ (h : bb_H), m_X8_of_18 h = some r → bb_J RX8 cX8_of 3 (some .int) rm_X8_of (some (.int r.1), r.2) 18 [.null, .null, .null] [] h := by
  intro h hf
  unfold m_X8_of_18 at hf
  refine bb_iconst (v := (-1)) dX8_of_18 (by decide) ?_
  obtain rfl := Option.some.inj hf
  exact bb_iret rfl rfl dX8_of_19
set_option maxRecDepth 100000 in
set_option maxHeartbeats 4000000 in
theorem j_X8_of_128 {r : Int32 × bb_H} : ∀ (z0 : Int32) (h : bb_H), m_X8_of_128 z0 h = some r → bb_J RX8 cX8_of 3 (some .int) rm_X8_of (some (.int r.1), r.2) 128 [.null, .null, .null] [.int z0] h := by
  intro z0 h hf
  unfold m_X8_of_128 at hf
  obtain rfl := Option.some.inj hf
  exact bb_iret rfl rfl dX8_of_128
set_option maxRecDepth 100000 in
set_option maxHeartbeats 4000000 in
theorem j_X8_of_129 {r : Int32 × bb_H} : ∀ (x0 : Nat) (x1 : Int32) (x2 : Int32) (h : bb_H), m_X8_of_129 x0 x1 x2 h = some r → bb_J RX8 cX8_of 3 (some .int) rm_X8_of (some (.int r.1), r.2) 129 [.ref x0, .int x1, .int x2] [] h := by
  intro x0 x1 x2 h hf
  unfold m_X8_of_129 at hf
  refine bb_aload_n dX8_of_129 rfl ?_
  obtain ⟨t130, h130, hf⟩ := bb_bind hf
  refine bb_getR fl_X8_7 dX8_of_130 h130 ?_
  refine bb_bipush (v := 22) dX8_of_133 (by decide) ?_
  refine bb_iconst (v := 3) dX8_of_135 (by decide) ?_
  refine bb_iload_n dX8_of_136 rfl ?_
  refine bb_imul dX8_of_137 ?_
  refine bb_iadd dX8_of_138 ?_
  refine bb_iload_n dX8_of_139 rfl ?_
  refine bb_iadd dX8_of_140 ?_
  refine bb_iconst (v := 3) dX8_of_141 (by decide) ?_
  refine bb_isub dX8_of_142 ?_
  obtain ⟨t143, h143, hf⟩ := bb_bind hf
  refine bb_iaload dX8_of_143 h143 ?_
  obtain rfl := Option.some.inj hf
  exact bb_iret rfl rfl dX8_of_144
set_option maxRecDepth 100000 in
set_option maxHeartbeats 4000000 in
theorem j_X8_of_0 {r : Int32 × bb_H} : ∀ (x0 : Nat) (x1 : Int32) (x2 : Int32) (h : bb_H), m_X8_of x0 x1 x2 h = some r → bb_J RX8 cX8_of 3 (some .int) rm_X8_of (some (.int r.1), r.2) 0 [.ref x0, .int x1, .int x2] [] h := by
  intro x0 x1 x2 h hf
  unfold m_X8_of at hf
  refine bb_aload_n dX8_of_0 rfl ?_
  refine bb_iload_n dX8_of_1 rfl ?_
  obtain ⟨r2, h2, hf⟩ := bb_bind hf
  obtain ⟨⟨v2, b2⟩, h2⟩ := bb_rcv_spec h2
  refine bb_invV (ci := 8) (as := [.int x1]) iv_X8_52 (by unfold bb_rr; decide) rfl dX8_of_2 rfl rfl b2 (Nat.le_of_ble_eq_true rfl) (ok_X8_isMan h2) ?_
  refine bb_if_eq (tgt := 18) dX8_of_5 (by decide) (fun c5 => ?_) (fun c5 => ?_)
  · rw [if_pos c5] at hf
    refine bb_fewer (L' := [.null, .null, .null]) trivial ?_
    exact j_X8_of_18 _ hf
  rw [if_neg c5] at hf
  refine bb_iload_n dX8_of_8 rfl ?_
  refine bb_iconst (v := 0) dX8_of_9 (by decide) ?_
  refine bb_bipush (v := 8) dX8_of_10 (by decide) ?_
  obtain ⟨r12, h12, hf⟩ := bb_bind hf
  refine bb_invS (as := [.int x2, .int 0, .int 8]) is_X8_44 (by unfold bb_rr; decide) dX8_of_12 rfl rfl (Nat.le_of_ble_eq_true rfl) (ok_X8_in h12) ?_
  refine bb_if_ne (tgt := 20) dX8_of_15 (by decide) (fun c15 => ?_) (fun c15 => ?_)
  · rw [if_neg c15] at hf
    refine bb_iload_n dX8_of_20 rfl ?_
    by_cases c21_0 : x2 = 0
    · rw [if_pos c21_0] at hf
      refine bb_tableIn (tgt := 72) dX8_of_21 (by rw [c21_0]; decide) (by rw [c21_0]; decide) (off := 51) (by rw [c21_0]; decide) (by decide) ?_
      refine bb_aload_n dX8_of_72 rfl ?_
      obtain ⟨t73, h73, hf⟩ := bb_bind hf
      refine bb_getR fl_X8_7 dX8_of_73 h73 ?_
      refine bb_bipush (v := 16) dX8_of_76 (by decide) ?_
      refine bb_iload_n dX8_of_78 rfl ?_
      refine bb_iadd dX8_of_79 ?_
      obtain ⟨t80, h80, hf⟩ := bb_bind hf
      refine bb_iaload dX8_of_80 h80 ?_
      obtain rfl := Option.some.inj hf
      exact bb_iret rfl rfl dX8_of_81
    rw [if_neg c21_0] at hf
    by_cases c21_1 : x2 = 1
    · rw [if_pos c21_1] at hf
      refine bb_tableIn (tgt := 82) dX8_of_21 (by rw [c21_1]; decide) (by rw [c21_1]; decide) (off := 61) (by rw [c21_1]; decide) (by decide) ?_
      refine bb_aload_n dX8_of_82 rfl ?_
      obtain ⟨t83, h83, hf⟩ := bb_bind hf
      refine bb_getR fl_X8_7 dX8_of_83 h83 ?_
      refine bb_iconst (v := 4) dX8_of_86 (by decide) ?_
      refine bb_iload_n dX8_of_87 rfl ?_
      refine bb_iadd dX8_of_88 ?_
      obtain ⟨t89, h89, hf⟩ := bb_bind hf
      refine bb_iaload dX8_of_89 h89 ?_
      obtain rfl := Option.some.inj hf
      exact bb_iret rfl rfl dX8_of_90
    rw [if_neg c21_1] at hf
    by_cases c21_2 : x2 = 2
    · rw [if_pos c21_2] at hf
      refine bb_tableIn (tgt := 91) dX8_of_21 (by rw [c21_2]; decide) (by rw [c21_2]; decide) (off := 70) (by rw [c21_2]; decide) (by decide) ?_
      refine bb_aload_n dX8_of_91 rfl ?_
      refine bb_iload_n dX8_of_92 rfl ?_
      obtain ⟨r93, h93, hf⟩ := bb_bind hf
      obtain ⟨⟨v93, b93⟩, h93⟩ := bb_rcv_spec h93
      refine bb_invV (ci := 8) (as := [.int x1]) iv_X8_59 (by unfold bb_rr; decide) rfl dX8_of_93 rfl rfl b93 (Nat.le_of_ble_eq_true rfl) (ok_X8_seatOf h93) ?_
      obtain rfl := Option.some.inj hf
      exact bb_iret rfl rfl dX8_of_96
    rw [if_neg c21_2] at hf
    by_cases c21_3 : x2 = 3
    · rw [if_pos c21_3] at hf
      refine bb_tableIn (tgt := 129) dX8_of_21 (by rw [c21_3]; decide) (by rw [c21_3]; decide) (off := 108) (by rw [c21_3]; decide) (by decide) ?_
      refine bb_fewer (L' := [.ref x0, .int x1, .int x2]) (And.intro rfl (And.intro rfl (And.intro rfl trivial))) ?_
      exact j_X8_of_129 _ _ _ _ hf
    rw [if_neg c21_3] at hf
    by_cases c21_4 : x2 = 4
    · rw [if_pos c21_4] at hf
      refine bb_tableIn (tgt := 129) dX8_of_21 (by rw [c21_4]; decide) (by rw [c21_4]; decide) (off := 108) (by rw [c21_4]; decide) (by decide) ?_
      refine bb_fewer (L' := [.ref x0, .int x1, .int x2]) (And.intro rfl (And.intro rfl (And.intro rfl trivial))) ?_
      exact j_X8_of_129 _ _ _ _ hf
    rw [if_neg c21_4] at hf
    by_cases c21_5 : x2 = 5
    · rw [if_pos c21_5] at hf
      refine bb_tableIn (tgt := 129) dX8_of_21 (by rw [c21_5]; decide) (by rw [c21_5]; decide) (off := 108) (by rw [c21_5]; decide) (by decide) ?_
      refine bb_fewer (L' := [.ref x0, .int x1, .int x2]) (And.intro rfl (And.intro rfl (And.intro rfl trivial))) ?_
      exact j_X8_of_129 _ _ _ _ hf
    rw [if_neg c21_5] at hf
    by_cases c21_6 : x2 = 6
    · rw [if_pos c21_6] at hf
      refine bb_tableIn (tgt := 97) dX8_of_21 (by rw [c21_6]; decide) (by rw [c21_6]; decide) (off := 76) (by rw [c21_6]; decide) (by decide) ?_
      refine bb_aload_n dX8_of_97 rfl ?_
      refine bb_iload_n dX8_of_98 rfl ?_
      obtain ⟨r99, h99, hf⟩ := bb_bind hf
      obtain ⟨⟨v99, b99⟩, h99⟩ := bb_rcv_spec h99
      refine bb_invV (ci := 8) (as := [.int x1]) iv_X8_69 (by unfold bb_rr; decide) rfl dX8_of_99 rfl rfl b99 (Nat.le_of_ble_eq_true rfl) (ok_X8_allStoodBy h99) ?_
      obtain rfl := Option.some.inj hf
      exact bb_iret rfl rfl dX8_of_102
    rw [if_neg c21_6] at hf
    by_cases c21_7 : x2 = 7
    · rw [if_pos c21_7] at hf
      refine bb_tableIn (tgt := 103) dX8_of_21 (by rw [c21_7]; decide) (by rw [c21_7]; decide) (off := 82) (by rw [c21_7]; decide) (by decide) ?_
      refine bb_aload_n dX8_of_103 rfl ?_
      refine bb_iload_n dX8_of_104 rfl ?_
      obtain ⟨r105, h105, hf⟩ := bb_bind hf
      obtain ⟨⟨v105, b105⟩, h105⟩ := bb_rcv_spec h105
      refine bb_invV (ci := 8) (as := [.int x1]) iv_X8_66 (by unfold bb_rr; decide) rfl dX8_of_105 rfl rfl b105 (Nat.le_of_ble_eq_true rfl) (ok_X8_allSitBy h105) ?_
      obtain rfl := Option.some.inj hf
      exact bb_iret rfl rfl dX8_of_108
    rw [if_neg c21_7] at hf
    by_cases c21_8 : x2 = 8
    · rw [if_pos c21_8] at hf
      refine bb_tableIn (tgt := 109) dX8_of_21 (by rw [c21_8]; decide) (by rw [c21_8]; decide) (off := 88) (by rw [c21_8]; decide) (by decide) ?_
      refine bb_aload_n dX8_of_109 rfl ?_
      refine bb_iload_n dX8_of_110 rfl ?_
      obtain ⟨r111, h111, hf⟩ := bb_bind hf
      obtain ⟨⟨v111, b111⟩, h111⟩ := bb_rcv_spec h111
      refine bb_invV (ci := 8) (as := [.int x1]) iv_X8_59 (by unfold bb_rr; decide) rfl dX8_of_111 rfl rfl b111 (Nat.le_of_ble_eq_true rfl) (ok_X8_seatOf h111) ?_
      refine bb_bipush (v := (-4)) dX8_of_114 (by decide) ?_
      refine bb_icmp_ne (tgt := 123) dX8_of_116 (by decide) (fun c116 => ?_) (fun c116 => ?_)
      · rw [if_neg c116] at hf
        refine bb_aload_n dX8_of_123 rfl ?_
        refine bb_iload_n dX8_of_124 rfl ?_
        obtain ⟨r125, h125, hf⟩ := bb_bind hf
        obtain ⟨⟨v125, b125⟩, h125⟩ := bb_rcv_spec h125
        refine bb_invV (ci := 8) (as := [.int x1]) iv_X8_82 (by unfold bb_rr; decide) rfl dX8_of_125 rfl rfl b125 (Nat.le_of_ble_eq_true rfl) (ok_X8_fails h125) ?_
        refine bb_fewer (L' := [.null, .null, .null]) trivial ?_
        exact j_X8_of_128 _ _ hf
      rw [if_pos c116] at hf
      refine bb_iconst (v := 0) dX8_of_119 (by decide) ?_
      refine bb_goto (tgt := 128) dX8_of_120 (by decide) ?_
      refine bb_fewer (L' := [.null, .null, .null]) trivial ?_
      exact j_X8_of_128 _ _ hf
    rw [if_neg c21_8] at hf
    refine bb_tableOut (tgt := 129) dX8_of_21 (bb_swout x2 0 8 (by decide) (fun n q1 q2 => by rcases (show n = 0 ∨ n = 1 ∨ n = 2 ∨ n = 3 ∨ n = 4 ∨ n = 5 ∨ n = 6 ∨ n = 7 ∨ n = 8 by omega) with rfl | rfl | rfl | rfl | rfl | rfl | rfl | rfl | rfl <;> assumption)) (by decide) ?_
    refine bb_fewer (L' := [.ref x0, .int x1, .int x2]) (And.intro rfl (And.intro rfl (And.intro rfl trivial))) ?_
    exact j_X8_of_129 _ _ _ _ hf
  rw [if_pos c15] at hf
  refine bb_fewer (L' := [.null, .null, .null]) trivial ?_
  exact j_X8_of_18 _ hf
theorem ok_X8_of {x0 : Nat} {x1 : Int32} {x2 : Int32} {h : bb_H} {r : Int32 × bb_H} (hf : m_X8_of x0 x1 x2 h = some r) : bb_Ok yX8_of cX8_of 3 (some .int) rm_X8_of [.ref x0, .int x1, .int x2] h (some (.int r.1), r.2) :=
  bb_ok (L := [.ref x0, .int x1, .int x2]) (by decide) (Nat.le_of_ble_eq_true rfl) rfl (bb_fewer (L' := [.ref x0, .int x1, .int x2]) (And.intro rfl (And.intro rfl (And.intro rfl trivial))) (j_X8_of_0 _ _ _ _ hf))
abbrev rm_X8_seat : Room := { frames := 2, cells := 0, slots := 0, locals := 43 }
set_option maxRecDepth 100000 in
set_option maxHeartbeats 4000000 in
theorem j_X8_seat_13 {r : Int32 × bb_H} : ∀ (z0 : Int32) (h : bb_H), m_X8_seat_13 z0 h = some r → bb_J RX8 cX8_seat 2 (some .int) rm_X8_seat (some (.int r.1), r.2) 13 [.null, .null] [.int z0] h := by
  intro z0 h hf
  unfold m_X8_seat_13 at hf
  obtain rfl := Option.some.inj hf
  exact bb_iret rfl rfl dX8_seat_13
set_option maxRecDepth 100000 in
set_option maxHeartbeats 4000000 in
theorem j_X8_seat_0 {r : Int32 × bb_H} : ∀ (x0 : Nat) (x1 : Int32) (h : bb_H), m_X8_seat x0 x1 h = some r → bb_J RX8 cX8_seat 2 (some .int) rm_X8_seat (some (.int r.1), r.2) 0 [.ref x0, .int x1] [] h := by
  intro x0 x1 h hf
  unfold m_X8_seat at hf
  refine bb_iload_n dX8_seat_0 rfl ?_
  refine bb_if_ge (tgt := 8) dX8_seat_1 (by decide) (fun c1 => ?_) (fun c1 => ?_)
  · rw [if_pos c1] at hf
    refine bb_aload_n dX8_seat_8 rfl ?_
    refine bb_iload_n dX8_seat_9 rfl ?_
    obtain ⟨r10, h10, hf⟩ := bb_bind hf
    obtain ⟨⟨v10, b10⟩, h10⟩ := bb_rcv_spec h10
    refine bb_invV (ci := 8) (as := [.int x1]) iv_X8_63 (by unfold bb_rr; decide) rfl dX8_seat_10 rfl rfl b10 (Nat.le_of_ble_eq_true rfl) (ok_X8_onSeat h10) ?_
    refine bb_fewer (L' := [.null, .null]) trivial ?_
    exact j_X8_seat_13 _ _ hf
  rw [if_neg c1] at hf
  refine bb_iconst (v := (-1)) dX8_seat_4 (by decide) ?_
  refine bb_goto (tgt := 13) dX8_seat_5 (by decide) ?_
  refine bb_fewer (L' := [.null, .null]) trivial ?_
  exact j_X8_seat_13 _ _ hf
theorem ok_X8_seat {x0 : Nat} {x1 : Int32} {h : bb_H} {r : Int32 × bb_H} (hf : m_X8_seat x0 x1 h = some r) : bb_Ok yX8_seat cX8_seat 2 (some .int) rm_X8_seat [.ref x0, .int x1] h (some (.int r.1), r.2) :=
  bb_ok (L := [.ref x0, .int x1]) (by decide) (Nat.le_of_ble_eq_true rfl) rfl (bb_fewer (L' := [.ref x0, .int x1]) (And.intro rfl (And.intro rfl trivial)) (j_X8_seat_0 _ _ _ hf))
abbrev rm_X8_type : Room := { frames := 1, cells := 0, slots := 0, locals := 22 }
set_option maxRecDepth 100000 in
set_option maxHeartbeats 4000000 in
theorem j_X8_type_0 {r : Int32 × bb_H} : ∀ (x0 : Nat) (x1 : Int32) (h : bb_H), m_X8_type x0 x1 h = some r → bb_J RX8 cX8_type 2 (some .int) rm_X8_type (some (.int r.1), r.2) 0 [.ref x0, .int x1] [] h := by
  intro x0 x1 h hf
  unfold m_X8_type at hf
  refine bb_iload_n dX8_type_0 rfl ?_
  refine bb_bipush (v := 32) dX8_type_1 (by decide) ?_
  refine bb_bipush (v := 126) dX8_type_3 (by decide) ?_
  obtain ⟨r5, h5, hf⟩ := bb_bind hf
  refine bb_invS (as := [.int x1, .int 32, .int 126]) is_X8_44 (by unfold bb_rr; decide) dX8_type_5 rfl rfl (Nat.le_of_ble_eq_true rfl) (ok_X8_in h5) ?_
  refine bb_if_ne (tgt := 13) dX8_type_8 (by decide) (fun c8 => ?_) (fun c8 => ?_)
  · rw [if_neg c8] at hf
    refine bb_aload_n dX8_type_13 rfl ?_
    obtain ⟨t14, h14, hf⟩ := bb_bind hf
    refine bb_getI fl_X8_85 dX8_type_14 h14 ?_
    refine bb_bipush (v := 70) dX8_type_17 (by decide) ?_
    refine bb_icmp_ne (tgt := 25) dX8_type_19 (by decide) (fun c19 => ?_) (fun c19 => ?_)
    · rw [if_neg c19] at hf
      refine bb_aload_n dX8_type_25 rfl ?_
      obtain ⟨t26, h26, hf⟩ := bb_bind hf
      refine bb_getR fl_X8_16 dX8_type_26 h26 ?_
      refine bb_aload_n dX8_type_29 rfl ?_
      obtain ⟨t30, h30, hf⟩ := bb_bind hf
      refine bb_getI fl_X8_85 dX8_type_30 h30 ?_
      refine bb_iload_n dX8_type_33 rfl ?_
      obtain ⟨g34, h34, hf⟩ := bb_bind hf
      refine bb_iastore dX8_type_34 h34 ?_
      refine bb_aload_n dX8_type_35 rfl ?_
      refine bb_dup dX8_type_36 rfl ?_
      obtain ⟨t37, h37, hf⟩ := bb_bind hf
      refine bb_getI fl_X8_85 dX8_type_37 h37 ?_
      refine bb_iconst (v := 1) dX8_type_40 (by decide) ?_
      refine bb_iadd dX8_type_41 ?_
      obtain ⟨g42, h42, hf⟩ := bb_bind hf
      refine bb_putI fp_X8_85 dX8_type_42 h42 ?_
      refine bb_aload_n dX8_type_45 rfl ?_
      obtain ⟨t46, h46, hf⟩ := bb_bind hf
      refine bb_getI fl_X8_85 dX8_type_46 h46 ?_
      obtain rfl := Option.some.inj hf
      exact bb_iret rfl rfl dX8_type_49
    rw [if_pos c19] at hf
    refine bb_bipush (v := (-3)) dX8_type_22 (by decide) ?_
    obtain rfl := Option.some.inj hf
    exact bb_iret rfl rfl dX8_type_24
  rw [if_pos c8] at hf
  refine bb_iconst (v := (-1)) dX8_type_11 (by decide) ?_
  obtain rfl := Option.some.inj hf
  exact bb_iret rfl rfl dX8_type_12
theorem ok_X8_type {x0 : Nat} {x1 : Int32} {h : bb_H} {r : Int32 × bb_H} (hf : m_X8_type x0 x1 h = some r) : bb_Ok yX8_type cX8_type 2 (some .int) rm_X8_type [.ref x0, .int x1] h (some (.int r.1), r.2) :=
  bb_ok (L := [.ref x0, .int x1]) (by decide) (Nat.le_of_ble_eq_true rfl) rfl (bb_fewer (L' := [.ref x0, .int x1]) (And.intro rfl (And.intro rfl trivial)) (j_X8_type_0 _ _ _ hf))
abbrev rm_X8_letterAt : Room := { frames := 0, cells := 0, slots := 0, locals := 0 }
set_option maxRecDepth 100000 in
set_option maxHeartbeats 4000000 in
theorem j_X8_letterAt_18 {r : Int32 × bb_H} : ∀ (z0 : Int32) (h : bb_H), m_X8_letterAt_18 z0 h = some r → bb_J RX8 cX8_letterAt 2 (some .int) rm_X8_letterAt (some (.int r.1), r.2) 18 [.null, .null] [.int z0] h := by
  intro z0 h hf
  unfold m_X8_letterAt_18 at hf
  obtain rfl := Option.some.inj hf
  exact bb_iret rfl rfl dX8_letterAt_18
set_option maxRecDepth 100000 in
set_option maxHeartbeats 4000000 in
theorem j_X8_letterAt_0 {r : Int32 × bb_H} : ∀ (x0 : Nat) (x1 : Int32) (h : bb_H), m_X8_letterAt x0 x1 h = some r → bb_J RX8 cX8_letterAt 2 (some .int) rm_X8_letterAt (some (.int r.1), r.2) 0 [.ref x0, .int x1] [] h := by
  intro x0 x1 h hf
  unfold m_X8_letterAt at hf
  refine bb_iload_n dX8_letterAt_0 rfl ?_
  refine bb_aload_n dX8_letterAt_1 rfl ?_
  obtain ⟨t2, h2, hf⟩ := bb_bind hf
  refine bb_getI fl_X8_85 dX8_letterAt_2 h2 ?_
  refine bb_icmp_ge (tgt := 17) dX8_letterAt_5 (by decide) (fun c5 => ?_) (fun c5 => ?_)
  · rw [if_pos c5] at hf
    refine bb_iconst (v := (-1)) dX8_letterAt_17 (by decide) ?_
    refine bb_fewer (L' := [.null, .null]) trivial ?_
    exact j_X8_letterAt_18 _ _ hf
  rw [if_neg c5] at hf
  refine bb_aload_n dX8_letterAt_8 rfl ?_
  obtain ⟨t9, h9, hf⟩ := bb_bind hf
  refine bb_getR fl_X8_16 dX8_letterAt_9 h9 ?_
  refine bb_iload_n dX8_letterAt_12 rfl ?_
  obtain ⟨t13, h13, hf⟩ := bb_bind hf
  refine bb_iaload dX8_letterAt_13 h13 ?_
  refine bb_goto (tgt := 18) dX8_letterAt_14 (by decide) ?_
  refine bb_fewer (L' := [.null, .null]) trivial ?_
  exact j_X8_letterAt_18 _ _ hf
theorem ok_X8_letterAt {x0 : Nat} {x1 : Int32} {h : bb_H} {r : Int32 × bb_H} (hf : m_X8_letterAt x0 x1 h = some r) : bb_Ok yX8_letterAt cX8_letterAt 2 (some .int) rm_X8_letterAt [.ref x0, .int x1] h (some (.int r.1), r.2) :=
  bb_ok (L := [.ref x0, .int x1]) (by decide) (Nat.le_of_ble_eq_true rfl) rfl (bb_fewer (L' := [.ref x0, .int x1]) (And.intro rfl (And.intro rfl trivial)) (j_X8_letterAt_0 _ _ _ hf))
abbrev rm_X8_isDigit : Room := { frames := 1, cells := 0, slots := 0, locals := 22 }
set_option maxRecDepth 100000 in
set_option maxHeartbeats 4000000 in
theorem j_X8_isDigit_0 {r : Int32 × bb_H} : ∀ (x0 : Int32) (h : bb_H), m_X8_isDigit x0 h = some r → bb_J RX8 cX8_isDigit 1 (some .boolean) rm_X8_isDigit (some (.int r.1), r.2) 0 [.int x0] [] h := by
  intro x0 h hf
  unfold m_X8_isDigit at hf
  refine bb_iload_n dX8_isDigit_0 rfl ?_
  refine bb_bipush (v := 48) dX8_isDigit_1 (by decide) ?_
  refine bb_bipush (v := 57) dX8_isDigit_3 (by decide) ?_
  obtain ⟨r5, h5, hf⟩ := bb_bind hf
  refine bb_invS (as := [.int x0, .int 48, .int 57]) is_X8_44 (by unfold bb_rr; decide) dX8_isDigit_5 rfl rfl (Nat.le_of_ble_eq_true rfl) (ok_X8_in h5) ?_
  obtain ⟨hn, rfl⟩ := bb_rz_spec hf
  exact bb_zret rfl hn rfl dX8_isDigit_8
theorem ok_X8_isDigit {x0 : Int32} {h : bb_H} {r : Int32 × bb_H} (hf : m_X8_isDigit x0 h = some r) : bb_Ok yX8_isDigit cX8_isDigit 1 (some .boolean) rm_X8_isDigit [.int x0] h (some (.int r.1), r.2) :=
  bb_ok (L := [.int x0]) (by decide) (Nat.le_of_ble_eq_true rfl) rfl (bb_fewer (L' := [.int x0]) (And.intro rfl trivial) (j_X8_isDigit_0 _ _ hf))
abbrev rm_X8_skips : Room := { frames := 1, cells := 0, slots := 0, locals := 21 }
set_option maxRecDepth 100000 in
set_option maxHeartbeats 4000000 in
theorem j_X8_skips_0 {r : Int32 × bb_H} : ∀ (n : Nat) (x0 : Nat) (h : bb_H), m_X8_skips_0 n x0 h = some r → bb_J RX8 cX8_skips 1 (some .int) rm_X8_skips (some (.int r.1), r.2) 0 [.ref x0] [] h := by
  intro n
  induction n with
  | zero =>
    intro x0 h hf
    exact absurd hf (fun z => by cases z)
  | succ n ih =>
    intro x0 h hf
    unfold m_X8_skips_0 at hf
    refine bb_aload_n dX8_skips_0 rfl ?_
    refine bb_aload_n dX8_skips_1 rfl ?_
    obtain ⟨t2, h2, hf⟩ := bb_bind hf
    refine bb_getI fl_X8_89 dX8_skips_2 h2 ?_
    obtain ⟨r5, h5, hf⟩ := bb_bind hf
    obtain ⟨⟨v5, b5⟩, h5⟩ := bb_rcv_spec h5
    refine bb_invV (ci := 8) (as := [.int t2]) iv_X8_92 (by unfold bb_rr; decide) rfl dX8_skips_5 rfl rfl b5 (Nat.le_of_ble_eq_true rfl) (ok_X8_letterAt h5) ?_
    refine bb_bipush (v := 32) dX8_skips_8 (by decide) ?_
    refine bb_icmp_ne (tgt := 26) dX8_skips_10 (by decide) (fun c10 => ?_) (fun c10 => ?_)
    · rw [if_neg c10] at hf
      refine bb_aload_n dX8_skips_26 rfl ?_
      refine bb_aload_n dX8_skips_27 rfl ?_
      obtain ⟨t28, h28, hf⟩ := bb_bind hf
      refine bb_getI fl_X8_89 dX8_skips_28 h28 ?_
      obtain ⟨r31, h31, hf⟩ := bb_bind hf
      obtain ⟨⟨v31, b31⟩, h31⟩ := bb_rcv_spec h31
      refine bb_invV (ci := 8) (as := [.int t28]) iv_X8_92 (by unfold bb_rr; decide) rfl dX8_skips_31 rfl rfl b31 (Nat.le_of_ble_eq_true rfl) (ok_X8_letterAt h31) ?_
      obtain rfl := Option.some.inj hf
      exact bb_iret rfl rfl dX8_skips_34
    rw [if_pos c10] at hf
    refine bb_aload_n dX8_skips_13 rfl ?_
    refine bb_dup dX8_skips_14 rfl ?_
    obtain ⟨t15, h15, hf⟩ := bb_bind hf
    refine bb_getI fl_X8_89 dX8_skips_15 h15 ?_
    refine bb_iconst (v := 1) dX8_skips_18 (by decide) ?_
    refine bb_iadd dX8_skips_19 ?_
    obtain ⟨g20, h20, hf⟩ := bb_bind hf
    refine bb_putI fp_X8_89 dX8_skips_20 h20 ?_
    refine bb_goto (tgt := 0) dX8_skips_23 (by decide) ?_
    refine bb_fewer (L' := [.ref x0]) (And.intro rfl trivial) ?_
    exact ih _ _ hf
theorem ok_X8_skips {x0 : Nat} {h : bb_H} {r : Int32 × bb_H} (hf : m_X8_skips x0 h = some r) : bb_Ok yX8_skips cX8_skips 1 (some .int) rm_X8_skips [.ref x0] h (some (.int r.1), r.2) :=
  bb_ok (L := [.ref x0]) (by decide) (Nat.le_of_ble_eq_true rfl) rfl (bb_fewer (L' := [.ref x0]) (And.intro rfl trivial) (j_X8_skips_0 _ _ _ hf))
abbrev rm_X8_kindBy : Room := { frames := 0, cells := 0, slots := 0, locals := 0 }
set_option maxRecDepth 100000 in
set_option maxHeartbeats 4000000 in
theorem j_X8_kindBy_52 {r : Int32 × bb_H} : ∀ (z0 : Int32) (h : bb_H), m_X8_kindBy_52 z0 h = some r → bb_J RX8 cX8_kindBy 1 (some .int) rm_X8_kindBy (some (.int r.1), r.2) 52 [.null] [.int z0] h := by
  intro z0 h hf
  unfold m_X8_kindBy_52 at hf
  obtain rfl := Option.some.inj hf
  exact bb_iret rfl rfl dX8_kindBy_52
set_option maxRecDepth 100000 in
set_option maxHeartbeats 4000000 in
theorem j_X8_kindBy_0 {r : Int32 × bb_H} : ∀ (x0 : Int32) (h : bb_H), m_X8_kindBy x0 h = some r → bb_J RX8 cX8_kindBy 1 (some .int) rm_X8_kindBy (some (.int r.1), r.2) 0 [.int x0] [] h := by
  intro x0 h hf
  unfold m_X8_kindBy at hf
  refine bb_iload_n dX8_kindBy_0 rfl ?_
  refine bb_bipush (v := 112) dX8_kindBy_1 (by decide) ?_
  refine bb_icmp_ne (tgt := 10) dX8_kindBy_3 (by decide) (fun c3 => ?_) (fun c3 => ?_)
  · rw [if_neg c3] at hf
    refine bb_iload_n dX8_kindBy_10 rfl ?_
    refine bb_bipush (v := 104) dX8_kindBy_11 (by decide) ?_
    refine bb_icmp_ne (tgt := 20) dX8_kindBy_13 (by decide) (fun c13 => ?_) (fun c13 => ?_)
    · rw [if_neg c13] at hf
      refine bb_iload_n dX8_kindBy_20 rfl ?_
      refine bb_bipush (v := 117) dX8_kindBy_21 (by decide) ?_
      refine bb_icmp_ne (tgt := 30) dX8_kindBy_23 (by decide) (fun c23 => ?_) (fun c23 => ?_)
      · rw [if_neg c23] at hf
        refine bb_iload_n dX8_kindBy_30 rfl ?_
        refine bb_bipush (v := 100) dX8_kindBy_31 (by decide) ?_
        refine bb_icmp_ne (tgt := 40) dX8_kindBy_33 (by decide) (fun c33 => ?_) (fun c33 => ?_)
        · rw [if_neg c33] at hf
          refine bb_iload_n dX8_kindBy_40 rfl ?_
          refine bb_bipush (v := 114) dX8_kindBy_41 (by decide) ?_
          refine bb_icmp_ne (tgt := 50) dX8_kindBy_43 (by decide) (fun c43 => ?_) (fun c43 => ?_)
          · rw [if_neg c43] at hf
            refine bb_bipush (v := (-4)) dX8_kindBy_50 (by decide) ?_
            refine bb_fewer (L' := [.null]) trivial ?_
            exact j_X8_kindBy_52 _ _ hf
          rw [if_pos c43] at hf
          refine bb_iconst (v := 4) dX8_kindBy_46 (by decide) ?_
          refine bb_goto (tgt := 52) dX8_kindBy_47 (by decide) ?_
          refine bb_fewer (L' := [.null]) trivial ?_
          exact j_X8_kindBy_52 _ _ hf
        rw [if_pos c33] at hf
        refine bb_iconst (v := 3) dX8_kindBy_36 (by decide) ?_
        refine bb_goto (tgt := 52) dX8_kindBy_37 (by decide) ?_
        refine bb_fewer (L' := [.null]) trivial ?_
        exact j_X8_kindBy_52 _ _ hf
      rw [if_pos c23] at hf
      refine bb_iconst (v := 2) dX8_kindBy_26 (by decide) ?_
      refine bb_goto (tgt := 52) dX8_kindBy_27 (by decide) ?_
      refine bb_fewer (L' := [.null]) trivial ?_
      exact j_X8_kindBy_52 _ _ hf
    rw [if_pos c13] at hf
    refine bb_iconst (v := 1) dX8_kindBy_16 (by decide) ?_
    refine bb_goto (tgt := 52) dX8_kindBy_17 (by decide) ?_
    refine bb_fewer (L' := [.null]) trivial ?_
    exact j_X8_kindBy_52 _ _ hf
  rw [if_pos c3] at hf
  refine bb_iconst (v := 0) dX8_kindBy_6 (by decide) ?_
  refine bb_goto (tgt := 52) dX8_kindBy_7 (by decide) ?_
  refine bb_fewer (L' := [.null]) trivial ?_
  exact j_X8_kindBy_52 _ _ hf
theorem ok_X8_kindBy {x0 : Int32} {h : bb_H} {r : Int32 × bb_H} (hf : m_X8_kindBy x0 h = some r) : bb_Ok yX8_kindBy cX8_kindBy 1 (some .int) rm_X8_kindBy [.int x0] h (some (.int r.1), r.2) :=
  bb_ok (L := [.int x0]) (by decide) (Nat.le_of_ble_eq_true rfl) rfl (bb_fewer (L' := [.int x0]) (And.intro rfl trivial) (j_X8_kindBy_0 _ _ hf))
abbrev rm_X8_isTold : Room := { frames := 0, cells := 0, slots := 0, locals := 0 }
set_option maxRecDepth 100000 in
set_option maxHeartbeats 4000000 in
theorem j_X8_isTold_40 {r : Int32 × bb_H} {k6 : Nat → Int32 → Int32 → Int32 → Int32 → Int32 → bb_H → Option (Int32 × bb_H)} (hk6 : ∀ (x0 : Nat) (x1 : Int32) (x2 : Int32) (x3 : Int32) (x4 : Int32) (x5 : Int32) (h : bb_H), k6 x0 x1 x2 x3 x4 x5 h = some r → bb_J RX8 cX8_isTold 6 (some .boolean) rm_X8_isTold (some (.int r.1), r.2) 6 [.ref x0, .int x1, .int x2, .int x3, .int x4, .int x5] [] h) : ∀ (x0 : Nat) (x1 : Int32) (x2 : Int32) (x3 : Int32) (x5 : Int32) (z0 : Int32) (h : bb_H), m_X8_isTold_40 k6 x0 x1 x2 x3 x5 z0 h = some r → bb_J RX8 cX8_isTold 6 (some .boolean) rm_X8_isTold (some (.int r.1), r.2) 40 [.ref x0, .int x1, .int x2, .int x3, .null, .int x5] [.int z0] h := by
  intro x0 x1 x2 x3 x5 z0 h hf
  unfold m_X8_isTold_40 at hf
  refine bb_istore (L' := [.ref x0, .int x1, .int x2, .int x3, .int z0, .int x5]) dX8_isTold_40 (by decide) rfl rfl ?_
  refine bb_iinc (v := x5 + 1) (L' := [.ref x0, .int x1, .int x2, .int x3, .int z0, .int (x5 + 1)]) dX8_isTold_42 rfl rfl (by decide) rfl rfl ?_
  refine bb_goto (tgt := 6) dX8_isTold_45 (by decide) ?_
  refine bb_fewer (L' := [.ref x0, .int x1, .int x2, .int x3, .int z0, .int (x5 + 1)]) (And.intro rfl (And.intro rfl (And.intro rfl (And.intro rfl (And.intro rfl (And.intro rfl trivial)))))) ?_
  exact hk6 _ _ _ _ _ _ _ hf
set_option maxRecDepth 100000 in
set_option maxHeartbeats 4000000 in
theorem j_X8_isTold_35 {r : Int32 × bb_H} {k6 : Nat → Int32 → Int32 → Int32 → Int32 → Int32 → bb_H → Option (Int32 × bb_H)} (hk6 : ∀ (x0 : Nat) (x1 : Int32) (x2 : Int32) (x3 : Int32) (x4 : Int32) (x5 : Int32) (h : bb_H), k6 x0 x1 x2 x3 x4 x5 h = some r → bb_J RX8 cX8_isTold 6 (some .boolean) rm_X8_isTold (some (.int r.1), r.2) 6 [.ref x0, .int x1, .int x2, .int x3, .int x4, .int x5] [] h) : ∀ (x0 : Nat) (x1 : Int32) (x2 : Int32) (x3 : Int32) (x5 : Int32) (h : bb_H), m_X8_isTold_35 k6 x0 x1 x2 x3 x5 h = some r → bb_J RX8 cX8_isTold 6 (some .boolean) rm_X8_isTold (some (.int r.1), r.2) 35 [.ref x0, .int x1, .int x2, .int x3, .null, .int x5] [] h := by
  intro x0 x1 x2 x3 x5 h hf
  unfold m_X8_isTold_35 at hf
  refine bb_iconst (v := 1) dX8_isTold_35 (by decide) ?_
  refine bb_goto (tgt := 40) dX8_isTold_36 (by decide) ?_
  refine bb_fewer (L' := [.ref x0, .int x1, .int x2, .int x3, .null, .int x5]) (And.intro rfl (And.intro rfl (And.intro rfl (And.intro rfl (And.intro rfl trivial))))) ?_
  exact j_X8_isTold_40 hk6 _ _ _ _ _ _ _ hf
set_option maxRecDepth 100000 in
set_option maxHeartbeats 4000000 in
theorem j_X8_isTold_6 {r : Int32 × bb_H} : ∀ (n : Nat) (x0 : Nat) (x1 : Int32) (x2 : Int32) (x3 : Int32) (x4 : Int32) (x5 : Int32) (h : bb_H), m_X8_isTold_6 n x0 x1 x2 x3 x4 x5 h = some r → bb_J RX8 cX8_isTold 6 (some .boolean) rm_X8_isTold (some (.int r.1), r.2) 6 [.ref x0, .int x1, .int x2, .int x3, .int x4, .int x5] [] h := by
  intro n
  induction n with
  | zero =>
    intro x0 x1 x2 x3 x4 x5 h hf
    exact absurd hf (fun z => by cases z)
  | succ n ih =>
    intro x0 x1 x2 x3 x4 x5 h hf
    unfold m_X8_isTold_6 at hf
    refine bb_iload dX8_isTold_6 rfl ?_
    refine bb_iload_n dX8_isTold_8 rfl ?_
    refine bb_icmp_ge (tgt := 48) dX8_isTold_9 (by decide) (fun c9 => ?_) (fun c9 => ?_)
    · rw [if_pos c9] at hf
      refine bb_iload dX8_isTold_48 rfl ?_
      obtain ⟨hn, rfl⟩ := bb_rz_spec hf
      exact bb_zret rfl hn rfl dX8_isTold_50
    rw [if_neg c9] at hf
    refine bb_iload dX8_isTold_12 rfl ?_
    refine bb_if_ne (tgt := 35) dX8_isTold_14 (by decide) (fun c14 => ?_) (fun c14 => ?_)
    · rw [if_neg c14] at hf
      refine bb_fewer (L' := [.ref x0, .int x1, .int x2, .int x3, .null, .int x5]) (And.intro rfl (And.intro rfl (And.intro rfl (And.intro rfl (And.intro rfl trivial))))) ?_
      exact j_X8_isTold_35 ih _ _ _ _ _ _ hf
    rw [if_pos c14] at hf
    refine bb_aload_n dX8_isTold_17 rfl ?_
    obtain ⟨t18, h18, hf⟩ := bb_bind hf
    refine bb_getR fl_X8_19 dX8_isTold_18 h18 ?_
    refine bb_bipush (v := 22) dX8_isTold_21 (by decide) ?_
    refine bb_iconst (v := 3) dX8_isTold_23 (by decide) ?_
    refine bb_iload dX8_isTold_24 rfl ?_
    refine bb_imul dX8_isTold_26 ?_
    refine bb_iadd dX8_isTold_27 ?_
    refine bb_iload_n dX8_isTold_28 rfl ?_
    refine bb_iadd dX8_isTold_29 ?_
    obtain ⟨t30, h30, hf⟩ := bb_bind hf
    refine bb_iaload dX8_isTold_30 h30 ?_
    refine bb_iload_n dX8_isTold_31 rfl ?_
    refine bb_icmp_ne (tgt := 39) dX8_isTold_32 (by decide) (fun c32 => ?_) (fun c32 => ?_)
    · rw [if_neg c32] at hf
      refine bb_iconst (v := 0) dX8_isTold_39 (by decide) ?_
      refine bb_fewer (L' := [.ref x0, .int x1, .int x2, .int x3, .null, .int x5]) (And.intro rfl (And.intro rfl (And.intro rfl (And.intro rfl (And.intro rfl trivial))))) ?_
      exact j_X8_isTold_40 ih _ _ _ _ _ _ _ hf
    rw [if_pos c32] at hf
    refine bb_fewer (L' := [.ref x0, .int x1, .int x2, .int x3, .null, .int x5]) (And.intro rfl (And.intro rfl (And.intro rfl (And.intro rfl (And.intro rfl trivial))))) ?_
    exact j_X8_isTold_35 ih _ _ _ _ _ _ hf
set_option maxRecDepth 100000 in
set_option maxHeartbeats 4000000 in
theorem j_X8_isTold_0 {r : Int32 × bb_H} : ∀ (x0 : Nat) (x1 : Int32) (x2 : Int32) (x3 : Int32) (h : bb_H), m_X8_isTold x0 x1 x2 x3 h = some r → bb_J RX8 cX8_isTold 6 (some .boolean) rm_X8_isTold (some (.int r.1), r.2) 0 [.ref x0, .int x1, .int x2, .int x3, .null, .null] [] h := by
  intro x0 x1 x2 x3 h hf
  unfold m_X8_isTold at hf
  refine bb_iconst (v := 0) dX8_isTold_0 (by decide) ?_
  refine bb_istore (L' := [.ref x0, .int x1, .int x2, .int x3, .int 0, .null]) dX8_isTold_1 (by decide) rfl rfl ?_
  refine bb_iconst (v := 0) dX8_isTold_3 (by decide) ?_
  refine bb_istore (L' := [.ref x0, .int x1, .int x2, .int x3, .int 0, .int 0]) dX8_isTold_4 (by decide) rfl rfl ?_
  refine bb_fewer (L' := [.ref x0, .int x1, .int x2, .int x3, .int 0, .int 0]) (And.intro rfl (And.intro rfl (And.intro rfl (And.intro rfl (And.intro rfl (And.intro rfl trivial)))))) ?_
  exact j_X8_isTold_6 _ _ _ _ _ _ _ _ hf
theorem ok_X8_isTold {x0 : Nat} {x1 : Int32} {x2 : Int32} {x3 : Int32} {h : bb_H} {r : Int32 × bb_H} (hf : m_X8_isTold x0 x1 x2 x3 h = some r) : bb_Ok yX8_isTold cX8_isTold 6 (some .boolean) rm_X8_isTold [.ref x0, .int x1, .int x2, .int x3] h (some (.int r.1), r.2) :=
  bb_ok (L := [.ref x0, .int x1, .int x2, .int x3, .null, .null]) (by decide) (Nat.le_of_ble_eq_true rfl) rfl (bb_fewer (L' := [.ref x0, .int x1, .int x2, .int x3, .null, .null]) (And.intro rfl (And.intro rfl (And.intro rfl (And.intro rfl trivial)))) (j_X8_isTold_0 _ _ _ _ _ hf))
abbrev rm_X8_readsMan : Room := { frames := 2, cells := 0, slots := 0, locals := 42 }
set_option maxRecDepth 100000 in
set_option maxHeartbeats 4000000 in
theorem j_X8_readsMan_178 {r : Int32 × bb_H} : ∀ (n : Nat) (x0 : Nat) (x1 : Int32) (x3 : Int32) (x6 : Int32) (h : bb_H), m_X8_readsMan_178 n x0 x1 x3 x6 h = some r → bb_J RX8 cX8_readsMan 8 (some .boolean) rm_X8_readsMan (some (.int r.1), r.2) 178 [.ref x0, .int x1, .null, .int x3, .null, .null, .int x6, .null] [] h := by
  intro n
  induction n with
  | zero =>
    intro x0 x1 x3 x6 h hf
    exact absurd hf (fun z => by cases z)
  | succ n ih =>
    intro x0 x1 x3 x6 h hf
    unfold m_X8_readsMan_178 at hf
    refine bb_iload dX8_readsMan_178 rfl ?_
    refine bb_iconst (v := 3) dX8_readsMan_180 (by decide) ?_
    refine bb_icmp_ge (tgt := 223) dX8_readsMan_181 (by decide) (fun c181 => ?_) (fun c181 => ?_)
    · rw [if_pos c181] at hf
      refine bb_iconst (v := 1) dX8_readsMan_223 (by decide) ?_
      obtain rfl := Option.some.inj hf
      exact bb_zret rfl (by decide) rfl dX8_readsMan_224
    rw [if_neg c181] at hf
    refine bb_aload_n dX8_readsMan_184 rfl ?_
    refine bb_iload_n dX8_readsMan_185 rfl ?_
    refine bb_iload dX8_readsMan_186 rfl ?_
    refine bb_iload_n dX8_readsMan_188 rfl ?_
    obtain ⟨r189, h189, hf⟩ := bb_bind hf
    obtain ⟨⟨v189, b189⟩, h189⟩ := bb_rcv_spec h189
    refine bb_invV (ci := 8) (as := [.int x1, .int x6, .int x1]) iv_X8_104 (by unfold bb_rr; decide) rfl dX8_readsMan_189 rfl rfl b189 (Nat.le_of_ble_eq_true rfl) (ok_X8_isTold h189) ?_
    refine bb_if_eq (tgt := 202) dX8_readsMan_192 (by decide) (fun c192 => ?_) (fun c192 => ?_)
    · rw [if_pos c192] at hf
      refine bb_aload_n dX8_readsMan_202 rfl ?_
      obtain ⟨t203, h203, hf⟩ := bb_bind hf
      refine bb_getR fl_X8_19 dX8_readsMan_203 h203 ?_
      refine bb_bipush (v := 22) dX8_readsMan_206 (by decide) ?_
      refine bb_iconst (v := 3) dX8_readsMan_208 (by decide) ?_
      refine bb_iload_n dX8_readsMan_209 rfl ?_
      refine bb_imul dX8_readsMan_210 ?_
      refine bb_iadd dX8_readsMan_211 ?_
      refine bb_iload dX8_readsMan_212 rfl ?_
      refine bb_iadd dX8_readsMan_214 ?_
      refine bb_iload_n dX8_readsMan_215 rfl ?_
      obtain ⟨g216, h216, hf⟩ := bb_bind hf
      refine bb_iastore dX8_readsMan_216 h216 ?_
      refine bb_iinc (v := x6 + 1) (L' := [.ref x0, .int x1, .null, .int x3, .null, .null, .int (x6 + 1), .null]) dX8_readsMan_217 rfl rfl (by decide) rfl rfl ?_
      refine bb_goto (tgt := 178) dX8_readsMan_220 (by decide) ?_
      refine bb_fewer (L' := [.ref x0, .int x1, .null, .int x3, .null, .null, .int (x6 + 1), .null]) (And.intro rfl (And.intro rfl (And.intro rfl (And.intro rfl trivial)))) ?_
      exact ih _ _ _ _ _ hf
    rw [if_neg c192] at hf
    refine bb_aload_n dX8_readsMan_195 rfl ?_
    refine bb_iload_n dX8_readsMan_196 rfl ?_
    obtain ⟨g197, h197, hf⟩ := bb_bind hf
    refine bb_putI fp_X8_89 dX8_readsMan_197 h197 ?_
    refine bb_iconst (v := 0) dX8_readsMan_200 (by decide) ?_
    obtain rfl := Option.some.inj hf
    exact bb_zret rfl (by decide) rfl dX8_readsMan_201
set_option maxRecDepth 100000 in
set_option maxHeartbeats 4000000 in
theorem j_X8_readsMan_273 {r : Int32 × bb_H} : ∀ (h : bb_H), m_X8_readsMan_273 h = some r → bb_J RX8 cX8_readsMan 8 (some .boolean) rm_X8_readsMan (some (.int r.1), r.2) 273 [.null, .null, .null, .null, .null, .null, .null, .null] [] h := by
  intro h hf
  unfold m_X8_readsMan_273 at hf
  refine bb_iconst (v := 0) dX8_readsMan_273 (by decide) ?_
  obtain rfl := Option.some.inj hf
  exact bb_zret rfl (by decide) rfl dX8_readsMan_274
set_option maxRecDepth 100000 in
set_option maxHeartbeats 4000000 in
theorem j_X8_readsMan_238 {r : Int32 × bb_H} : ∀ (n : Nat) (x0 : Nat) (x1 : Int32) (x6 : Int32) (h : bb_H), m_X8_readsMan_238 n x0 x1 x6 h = some r → bb_J RX8 cX8_readsMan 8 (some .boolean) rm_X8_readsMan (some (.int r.1), r.2) 238 [.ref x0, .int x1, .null, .null, .null, .null, .int x6, .null] [] h := by
  intro n
  induction n with
  | zero =>
    intro x0 x1 x6 h hf
    exact absurd hf (fun z => by cases z)
  | succ n ih =>
    intro x0 x1 x6 h hf
    unfold m_X8_readsMan_238 at hf
    refine bb_iload dX8_readsMan_238 rfl ?_
    refine bb_iconst (v := 3) dX8_readsMan_240 (by decide) ?_
    refine bb_icmp_ge (tgt := 310) dX8_readsMan_241 (by decide) (fun c241 => ?_) (fun c241 => ?_)
    · rw [if_pos c241] at hf
      refine bb_iconst (v := 1) dX8_readsMan_310 (by decide) ?_
      obtain rfl := Option.some.inj hf
      exact bb_zret rfl (by decide) rfl dX8_readsMan_311
    rw [if_neg c241] at hf
    refine bb_aload_n dX8_readsMan_244 rfl ?_
    obtain ⟨r245, h245, hf⟩ := bb_bind hf
    obtain ⟨⟨v245, b245⟩, h245⟩ := bb_rcv_spec h245
    refine bb_invV (ci := 8) (as := []) iv_X8_95 (by unfold bb_rr; decide) rfl dX8_readsMan_245 rfl rfl b245 (Nat.le_of_ble_eq_true rfl) (ok_X8_skips h245) ?_
    refine bb_istore (L' := [.ref x0, .int x1, .null, .null, .null, .null, .int x6, .int r245.1]) dX8_readsMan_248 (by decide) rfl rfl ?_
    refine bb_iload dX8_readsMan_250 rfl ?_
    obtain ⟨r252, h252, hf⟩ := bb_bind hf
    refine bb_invS (as := [.int r245.1]) is_X8_101 (by unfold bb_rr; decide) dX8_readsMan_252 rfl rfl (Nat.le_of_ble_eq_true rfl) (ok_X8_isDigit h252) ?_
    refine bb_if_eq (tgt := 273) dX8_readsMan_255 (by decide) (fun c255 => ?_) (fun c255 => ?_)
    · rw [if_pos c255] at hf
      refine bb_fewer (L' := [.null, .null, .null, .null, .null, .null, .null, .null]) trivial ?_
      exact j_X8_readsMan_273 _ hf
    rw [if_neg c255] at hf
    refine bb_aload_n dX8_readsMan_258 rfl ?_
    refine bb_iload_n dX8_readsMan_259 rfl ?_
    refine bb_iload dX8_readsMan_260 rfl ?_
    refine bb_iload dX8_readsMan_262 rfl ?_
    refine bb_bipush (v := 48) dX8_readsMan_264 (by decide) ?_
    refine bb_isub dX8_readsMan_266 ?_
    obtain ⟨r267, h267, hf⟩ := bb_bind hf
    obtain ⟨⟨v267, b267⟩, h267⟩ := bb_rcv_spec h267
    refine bb_invV (ci := 8) (as := [.int x1, .int x6, .int (r245.1 - 48)]) iv_X8_104 (by unfold bb_rr; decide) rfl dX8_readsMan_267 rfl rfl b267 (Nat.le_of_ble_eq_true rfl) (ok_X8_isTold h267) ?_
    refine bb_if_eq (tgt := 275) dX8_readsMan_270 (by decide) (fun c270 => ?_) (fun c270 => ?_)
    · rw [if_pos c270] at hf
      refine bb_aload_n dX8_readsMan_275 rfl ?_
      obtain ⟨t276, h276, hf⟩ := bb_bind hf
      refine bb_getR fl_X8_19 dX8_readsMan_276 h276 ?_
      refine bb_bipush (v := 22) dX8_readsMan_279 (by decide) ?_
      refine bb_iconst (v := 3) dX8_readsMan_281 (by decide) ?_
      refine bb_iload_n dX8_readsMan_282 rfl ?_
      refine bb_imul dX8_readsMan_283 ?_
      refine bb_iadd dX8_readsMan_284 ?_
      refine bb_iload dX8_readsMan_285 rfl ?_
      refine bb_iadd dX8_readsMan_287 ?_
      refine bb_iload dX8_readsMan_288 rfl ?_
      refine bb_bipush (v := 48) dX8_readsMan_290 (by decide) ?_
      refine bb_isub dX8_readsMan_292 ?_
      obtain ⟨g293, h293, hf⟩ := bb_bind hf
      refine bb_iastore dX8_readsMan_293 h293 ?_
      refine bb_aload_n dX8_readsMan_294 rfl ?_
      refine bb_dup dX8_readsMan_295 rfl ?_
      obtain ⟨t296, h296, hf⟩ := bb_bind hf
      refine bb_getI fl_X8_89 dX8_readsMan_296 h296 ?_
      refine bb_iconst (v := 1) dX8_readsMan_299 (by decide) ?_
      refine bb_iadd dX8_readsMan_300 ?_
      obtain ⟨g301, h301, hf⟩ := bb_bind hf
      refine bb_putI fp_X8_89 dX8_readsMan_301 h301 ?_
      refine bb_iinc (v := x6 + 1) (L' := [.ref x0, .int x1, .null, .null, .null, .null, .int (x6 + 1), .int r245.1]) dX8_readsMan_304 rfl rfl (by decide) rfl rfl ?_
      refine bb_goto (tgt := 238) dX8_readsMan_307 (by decide) ?_
      refine bb_fewer (L' := [.ref x0, .int x1, .null, .null, .null, .null, .int (x6 + 1), .null]) (And.intro rfl (And.intro rfl (And.intro rfl trivial))) ?_
      exact ih _ _ _ _ hf
    rw [if_neg c270] at hf
    refine bb_fewer (L' := [.null, .null, .null, .null, .null, .null, .null, .null]) trivial ?_
    exact j_X8_readsMan_273 _ hf
set_option maxRecDepth 100000 in
set_option maxHeartbeats 4000000 in
theorem j_X8_readsMan_117 {r : Int32 × bb_H} : ∀ (x0 : Nat) (x1 : Int32) (x2 : Int32) (x3 : Int32) (x4 : Int32) (x5 : Int32) (h : bb_H), m_X8_readsMan_117 x0 x1 x2 x3 x4 x5 h = some r → bb_J RX8 cX8_readsMan 8 (some .boolean) rm_X8_readsMan (some (.int r.1), r.2) 117 [.ref x0, .int x1, .int x2, .int x3, .int x4, .int x5, .null, .null] [] h := by
  intro x0 x1 x2 x3 x4 x5 h hf
  unfold m_X8_readsMan_117 at hf
  refine bb_iload dX8_readsMan_117 rfl ?_
  refine bb_iconst (v := 1) dX8_readsMan_119 (by decide) ?_
  refine bb_bipush (v := 60) dX8_readsMan_120 (by decide) ?_
  obtain ⟨r122, h122, hf⟩ := bb_bind hf
  refine bb_invS (as := [.int x5, .int 1, .int 60]) is_X8_44 (by unfold bb_rr; decide) dX8_readsMan_122 rfl rfl (Nat.le_of_ble_eq_true rfl) (ok_X8_in h122) ?_
  refine bb_if_ne (tgt := 136) dX8_readsMan_125 (by decide) (fun c125 => ?_) (fun c125 => ?_)
  · rw [if_neg c125] at hf
    refine bb_aload_n dX8_readsMan_136 rfl ?_
    obtain ⟨t137, h137, hf⟩ := bb_bind hf
    refine bb_getR fl_X8_19 dX8_readsMan_137 h137 ?_
    refine bb_bipush (v := 16) dX8_readsMan_140 (by decide) ?_
    refine bb_iload_n dX8_readsMan_142 rfl ?_
    refine bb_iadd dX8_readsMan_143 ?_
    refine bb_iload_n dX8_readsMan_144 rfl ?_
    obtain ⟨g145, h145, hf⟩ := bb_bind hf
    refine bb_iastore dX8_readsMan_145 h145 ?_
    refine bb_aload_n dX8_readsMan_146 rfl ?_
    obtain ⟨t147, h147, hf⟩ := bb_bind hf
    refine bb_getR fl_X8_19 dX8_readsMan_147 h147 ?_
    refine bb_iconst (v := 4) dX8_readsMan_150 (by decide) ?_
    refine bb_iload_n dX8_readsMan_151 rfl ?_
    refine bb_iadd dX8_readsMan_152 ?_
    refine bb_iload dX8_readsMan_153 rfl ?_
    obtain ⟨g155, h155, hf⟩ := bb_bind hf
    refine bb_iastore dX8_readsMan_155 h155 ?_
    refine bb_aload_n dX8_readsMan_156 rfl ?_
    obtain ⟨t157, h157, hf⟩ := bb_bind hf
    refine bb_getR fl_X8_19 dX8_readsMan_157 h157 ?_
    refine bb_bipush (v := 10) dX8_readsMan_160 (by decide) ?_
    refine bb_iload_n dX8_readsMan_162 rfl ?_
    refine bb_iadd dX8_readsMan_163 ?_
    refine bb_iload_n dX8_readsMan_164 rfl ?_
    obtain ⟨g165, h165, hf⟩ := bb_bind hf
    refine bb_iastore dX8_readsMan_165 h165 ?_
    refine bb_aload_n dX8_readsMan_166 rfl ?_
    obtain ⟨r167, h167, hf⟩ := bb_bind hf
    obtain ⟨⟨v167, b167⟩, h167⟩ := bb_rcv_spec h167
    refine bb_invV (ci := 8) (as := []) iv_X8_95 (by unfold bb_rr; decide) rfl dX8_readsMan_167 rfl rfl b167 (Nat.le_of_ble_eq_true rfl) (ok_X8_skips h167) ?_
    refine bb_bipush (v := 46) dX8_readsMan_170 (by decide) ?_
    refine bb_icmp_eq (tgt := 225) dX8_readsMan_172 (by decide) (fun c172 => ?_) (fun c172 => ?_)
    · rw [if_pos c172] at hf
      refine bb_aload_n dX8_readsMan_225 rfl ?_
      refine bb_dup dX8_readsMan_226 rfl ?_
      obtain ⟨t227, h227, hf⟩ := bb_bind hf
      refine bb_getI fl_X8_89 dX8_readsMan_227 h227 ?_
      refine bb_iconst (v := 1) dX8_readsMan_230 (by decide) ?_
      refine bb_iadd dX8_readsMan_231 ?_
      obtain ⟨g232, h232, hf⟩ := bb_bind hf
      refine bb_putI fp_X8_89 dX8_readsMan_232 h232 ?_
      refine bb_iconst (v := 0) dX8_readsMan_235 (by decide) ?_
      refine bb_istore (L' := [.ref x0, .int x1, .int x2, .int x3, .int x4, .int x5, .int 0, .null]) dX8_readsMan_236 (by decide) rfl rfl ?_
      refine bb_fewer (L' := [.ref x0, .int x1, .null, .null, .null, .null, .int 0, .null]) (And.intro rfl (And.intro rfl (And.intro rfl trivial))) ?_
      exact j_X8_readsMan_238 _ _ _ _ _ hf
    rw [if_neg c172] at hf
    refine bb_iconst (v := 0) dX8_readsMan_175 (by decide) ?_
    refine bb_istore (L' := [.ref x0, .int x1, .int x2, .int x3, .int x4, .int x5, .int 0, .null]) dX8_readsMan_176 (by decide) rfl rfl ?_
    refine bb_fewer (L' := [.ref x0, .int x1, .null, .int x3, .null, .null, .int 0, .null]) (And.intro rfl (And.intro rfl (And.intro rfl (And.intro rfl trivial)))) ?_
    exact j_X8_readsMan_178 _ _ _ _ _ _ hf
  rw [if_pos c125] at hf
  refine bb_aload_n dX8_readsMan_128 rfl ?_
  refine bb_iload dX8_readsMan_129 rfl ?_
  obtain ⟨g131, h131, hf⟩ := bb_bind hf
  refine bb_putI fp_X8_89 dX8_readsMan_131 h131 ?_
  refine bb_iconst (v := 0) dX8_readsMan_134 (by decide) ?_
  obtain rfl := Option.some.inj hf
  exact bb_zret rfl (by decide) rfl dX8_readsMan_135
set_option maxRecDepth 100000 in
set_option maxHeartbeats 4000000 in
theorem j_X8_readsMan_0 {r : Int32 × bb_H} : ∀ (x0 : Nat) (x1 : Int32) (h : bb_H), m_X8_readsMan x0 x1 h = some r → bb_J RX8 cX8_readsMan 8 (some .boolean) rm_X8_readsMan (some (.int r.1), r.2) 0 [.ref x0, .int x1, .null, .null, .null, .null, .null, .null] [] h := by
  intro x0 x1 h hf
  unfold m_X8_readsMan at hf
  refine bb_aload_n dX8_readsMan_0 rfl ?_
  obtain ⟨r1, h1, hf⟩ := bb_bind hf
  obtain ⟨⟨v1, b1⟩, h1⟩ := bb_rcv_spec h1
  refine bb_invV (ci := 8) (as := []) iv_X8_95 (by unfold bb_rr; decide) rfl dX8_readsMan_1 rfl rfl b1 (Nat.le_of_ble_eq_true rfl) (ok_X8_skips h1) ?_
  obtain ⟨r4, h4, hf⟩ := bb_bind hf
  refine bb_invS (as := [.int r1.1]) is_X8_98 (by unfold bb_rr; decide) dX8_readsMan_4 rfl rfl (Nat.le_of_ble_eq_true rfl) (ok_X8_kindBy h4) ?_
  refine bb_istore_n (L' := [.ref x0, .int x1, .int r4.1, .null, .null, .null, .null, .null]) dX8_readsMan_7 (by decide) rfl rfl ?_
  refine bb_aload_n dX8_readsMan_8 rfl ?_
  obtain ⟨t9, h9, hf⟩ := bb_bind hf
  refine bb_getI fl_X8_89 dX8_readsMan_9 h9 ?_
  refine bb_istore_n (L' := [.ref x0, .int x1, .int r4.1, .int t9, .null, .null, .null, .null]) dX8_readsMan_12 (by decide) rfl rfl ?_
  refine bb_iload_n dX8_readsMan_13 rfl ?_
  refine bb_bipush (v := (-4)) dX8_readsMan_14 (by decide) ?_
  refine bb_icmp_ne (tgt := 21) dX8_readsMan_16 (by decide) (fun c16 => ?_) (fun c16 => ?_)
  · rw [if_neg c16] at hf
    refine bb_aload_n dX8_readsMan_21 rfl ?_
    refine bb_dup dX8_readsMan_22 rfl ?_
    obtain ⟨t23, h23, hf⟩ := bb_bind hf
    refine bb_getI fl_X8_89 dX8_readsMan_23 h23 ?_
    refine bb_iconst (v := 1) dX8_readsMan_26 (by decide) ?_
    refine bb_iadd dX8_readsMan_27 ?_
    obtain ⟨g28, h28, hf⟩ := bb_bind hf
    refine bb_putI fp_X8_89 dX8_readsMan_28 h28 ?_
    refine bb_aload_n dX8_readsMan_31 rfl ?_
    obtain ⟨r32, h32, hf⟩ := bb_bind hf
    obtain ⟨⟨v32, b32⟩, h32⟩ := bb_rcv_spec h32
    refine bb_invV (ci := 8) (as := []) iv_X8_95 (by unfold bb_rr; decide) rfl dX8_readsMan_32 rfl rfl b32 (Nat.le_of_ble_eq_true rfl) (ok_X8_skips h32) ?_
    obtain ⟨r35, h35, hf⟩ := bb_bind hf
    refine bb_invS (as := [.int r32.1]) is_X8_101 (by unfold bb_rr; decide) dX8_readsMan_35 rfl rfl (Nat.le_of_ble_eq_true rfl) (ok_X8_isDigit h35) ?_
    refine bb_if_ne (tgt := 43) dX8_readsMan_38 (by decide) (fun c38 => ?_) (fun c38 => ?_)
    · rw [if_neg c38] at hf
      refine bb_aload_n dX8_readsMan_43 rfl ?_
      obtain ⟨t44, h44, hf⟩ := bb_bind hf
      refine bb_getI fl_X8_89 dX8_readsMan_44 h44 ?_
      refine bb_istore (L' := [.ref x0, .int x1, .int r4.1, .int t9, .int t44, .null, .null, .null]) dX8_readsMan_47 (by decide) rfl rfl ?_
      refine bb_aload_n dX8_readsMan_49 rfl ?_
      obtain ⟨t50, h50, hf⟩ := bb_bind hf
      refine bb_getR fl_X8_16 dX8_readsMan_50 h50 ?_
      refine bb_aload_n dX8_readsMan_53 rfl ?_
      obtain ⟨t54, h54, hf⟩ := bb_bind hf
      refine bb_getI fl_X8_89 dX8_readsMan_54 h54 ?_
      obtain ⟨t57, h57, hf⟩ := bb_bind hf
      refine bb_iaload dX8_readsMan_57 h57 ?_
      refine bb_bipush (v := 48) dX8_readsMan_58 (by decide) ?_
      refine bb_isub dX8_readsMan_60 ?_
      refine bb_istore (L' := [.ref x0, .int x1, .int r4.1, .int t9, .int t44, .int (t57 - 48), .null, .null]) dX8_readsMan_61 (by decide) rfl rfl ?_
      refine bb_aload_n dX8_readsMan_63 rfl ?_
      refine bb_dup dX8_readsMan_64 rfl ?_
      obtain ⟨t65, h65, hf⟩ := bb_bind hf
      refine bb_getI fl_X8_89 dX8_readsMan_65 h65 ?_
      refine bb_iconst (v := 1) dX8_readsMan_68 (by decide) ?_
      refine bb_iadd dX8_readsMan_69 ?_
      obtain ⟨g70, h70, hf⟩ := bb_bind hf
      refine bb_putI fp_X8_89 dX8_readsMan_70 h70 ?_
      refine bb_aload_n dX8_readsMan_73 rfl ?_
      refine bb_aload_n dX8_readsMan_74 rfl ?_
      obtain ⟨t75, h75, hf⟩ := bb_bind hf
      refine bb_getI fl_X8_89 dX8_readsMan_75 h75 ?_
      obtain ⟨r78, h78, hf⟩ := bb_bind hf
      obtain ⟨⟨v78, b78⟩, h78⟩ := bb_rcv_spec h78
      refine bb_invV (ci := 8) (as := [.int t75]) iv_X8_92 (by unfold bb_rr; decide) rfl dX8_readsMan_78 rfl rfl b78 (Nat.le_of_ble_eq_true rfl) (ok_X8_letterAt h78) ?_
      obtain ⟨r81, h81, hf⟩ := bb_bind hf
      refine bb_invS (as := [.int r78.1]) is_X8_101 (by unfold bb_rr; decide) dX8_readsMan_81 rfl rfl (Nat.le_of_ble_eq_true rfl) (ok_X8_isDigit h81) ?_
      refine bb_if_eq (tgt := 117) dX8_readsMan_84 (by decide) (fun c84 => ?_) (fun c84 => ?_)
      · rw [if_pos c84] at hf
        refine bb_fewer (L' := [.ref x0, .int x1, .int r4.1, .int t9, .int t44, .int (t57 - 48), .null, .null]) (And.intro rfl (And.intro rfl (And.intro rfl (And.intro rfl (And.intro rfl (And.intro rfl trivial)))))) ?_
        exact j_X8_readsMan_117 _ _ _ _ _ _ _ hf
      rw [if_neg c84] at hf
      refine bb_bipush (v := 10) dX8_readsMan_87 (by decide) ?_
      refine bb_iload dX8_readsMan_89 rfl ?_
      refine bb_imul dX8_readsMan_91 ?_
      refine bb_aload_n dX8_readsMan_92 rfl ?_
      obtain ⟨t93, h93, hf⟩ := bb_bind hf
      refine bb_getR fl_X8_16 dX8_readsMan_93 h93 ?_
      refine bb_aload_n dX8_readsMan_96 rfl ?_
      obtain ⟨t97, h97, hf⟩ := bb_bind hf
      refine bb_getI fl_X8_89 dX8_readsMan_97 h97 ?_
      obtain ⟨t100, h100, hf⟩ := bb_bind hf
      refine bb_iaload dX8_readsMan_100 h100 ?_
      refine bb_iadd dX8_readsMan_101 ?_
      refine bb_bipush (v := 48) dX8_readsMan_102 (by decide) ?_
      refine bb_isub dX8_readsMan_104 ?_
      refine bb_istore (L' := [.ref x0, .int x1, .int r4.1, .int t9, .int t44, .int (((10 * (t57 - 48)) + t100) - 48), .null, .null]) dX8_readsMan_105 (by decide) rfl rfl ?_
      refine bb_aload_n dX8_readsMan_107 rfl ?_
      refine bb_dup dX8_readsMan_108 rfl ?_
      obtain ⟨t109, h109, hf⟩ := bb_bind hf
      refine bb_getI fl_X8_89 dX8_readsMan_109 h109 ?_
      refine bb_iconst (v := 1) dX8_readsMan_112 (by decide) ?_
      refine bb_iadd dX8_readsMan_113 ?_
      obtain ⟨g114, h114, hf⟩ := bb_bind hf
      refine bb_putI fp_X8_89 dX8_readsMan_114 h114 ?_
      refine bb_fewer (L' := [.ref x0, .int x1, .int r4.1, .int t9, .int t44, .int (((10 * (t57 - 48)) + t100) - 48), .null, .null]) (And.intro rfl (And.intro rfl (And.intro rfl (And.intro rfl (And.intro rfl (And.intro rfl trivial)))))) ?_
      exact j_X8_readsMan_117 _ _ _ _ _ _ _ hf
    rw [if_pos c38] at hf
    refine bb_iconst (v := 0) dX8_readsMan_41 (by decide) ?_
    obtain rfl := Option.some.inj hf
    exact bb_zret rfl (by decide) rfl dX8_readsMan_42
  rw [if_pos c16] at hf
  refine bb_iconst (v := 0) dX8_readsMan_19 (by decide) ?_
  obtain rfl := Option.some.inj hf
  exact bb_zret rfl (by decide) rfl dX8_readsMan_20
theorem ok_X8_readsMan {x0 : Nat} {x1 : Int32} {h : bb_H} {r : Int32 × bb_H} (hf : m_X8_readsMan x0 x1 h = some r) : bb_Ok yX8_readsMan cX8_readsMan 8 (some .boolean) rm_X8_readsMan [.ref x0, .int x1] h (some (.int r.1), r.2) :=
  bb_ok (L := [.ref x0, .int x1, .null, .null, .null, .null, .null, .null]) (by decide) (Nat.le_of_ble_eq_true rfl) rfl (bb_fewer (L' := [.ref x0, .int x1, .null, .null, .null, .null, .null, .null]) (And.intro rfl (And.intro rfl trivial)) (j_X8_readsMan_0 _ _ _ hf))
abbrev rm_X8_readsAll : Room := { frames := 3, cells := 0, slots := 0, locals := 69 }
set_option maxRecDepth 100000 in
set_option maxHeartbeats 4000000 in
theorem j_X8_readsAll_49 {r : Int32 × bb_H} : ∀ (h : bb_H), m_X8_readsAll_49 h = some r → bb_J RX8 cX8_readsAll 3 (some .int) rm_X8_readsAll (some (.int r.1), r.2) 49 [.null, .null, .null] [] h := by
  intro h hf
  unfold m_X8_readsAll_49 at hf
  refine bb_iconst (v := (-1)) dX8_readsAll_49 (by decide) ?_
  obtain rfl := Option.some.inj hf
  exact bb_iret rfl rfl dX8_readsAll_50
set_option maxRecDepth 100000 in
set_option maxHeartbeats 4000000 in
theorem j_X8_readsAll_7 {r : Int32 × bb_H} : ∀ (n : Nat) (x0 : Nat) (x1 : Int32) (h : bb_H), m_X8_readsAll_7 n x0 x1 h = some r → bb_J RX8 cX8_readsAll 3 (some .int) rm_X8_readsAll (some (.int r.1), r.2) 7 [.ref x0, .int x1, .null] [] h := by
  intro n
  induction n with
  | zero =>
    intro x0 x1 h hf
    exact absurd hf (fun z => by cases z)
  | succ n ih =>
    intro x0 x1 h hf
    unfold m_X8_readsAll_7 at hf
    refine bb_iload_n dX8_readsAll_7 rfl ?_
    refine bb_bipush (v := 6) dX8_readsAll_8 (by decide) ?_
    refine bb_icmp_ge (tgt := 64) dX8_readsAll_10 (by decide) (fun c10 => ?_) (fun c10 => ?_)
    · rw [if_pos c10] at hf
      refine bb_iload_n dX8_readsAll_64 rfl ?_
      obtain rfl := Option.some.inj hf
      exact bb_iret rfl rfl dX8_readsAll_65
    rw [if_neg c10] at hf
    refine bb_aload_n dX8_readsAll_13 rfl ?_
    refine bb_iload_n dX8_readsAll_14 rfl ?_
    obtain ⟨r15, h15, hf⟩ := bb_bind hf
    obtain ⟨⟨v15, b15⟩, h15⟩ := bb_rcv_spec h15
    refine bb_invV (ci := 8) (as := [.int x1]) iv_X8_107 (by unfold bb_rr; decide) rfl dX8_readsAll_15 rfl rfl b15 (Nat.le_of_ble_eq_true rfl) (ok_X8_readsMan h15) ?_
    refine bb_if_ne (tgt := 23) dX8_readsAll_18 (by decide) (fun c18 => ?_) (fun c18 => ?_)
    · rw [if_neg c18] at hf
      refine bb_iinc (v := x1 + 1) (L' := [.ref x0, .int (x1 + 1), .null]) dX8_readsAll_23 rfl rfl (by decide) rfl rfl ?_
      refine bb_aload_n dX8_readsAll_26 rfl ?_
      obtain ⟨r27, h27, hf⟩ := bb_bind hf
      obtain ⟨⟨v27, b27⟩, h27⟩ := bb_rcv_spec h27
      refine bb_invV (ci := 8) (as := []) iv_X8_95 (by unfold bb_rr; decide) rfl dX8_readsAll_27 rfl rfl b27 (Nat.le_of_ble_eq_true rfl) (ok_X8_skips h27) ?_
      refine bb_istore_n (L' := [.ref x0, .int (x1 + 1), .int r27.1]) dX8_readsAll_30 (by decide) rfl rfl ?_
      refine bb_iload_n dX8_readsAll_31 rfl ?_
      refine bb_if_ge (tgt := 37) dX8_readsAll_32 (by decide) (fun c32 => ?_) (fun c32 => ?_)
      · rw [if_pos c32] at hf
        refine bb_iload_n dX8_readsAll_37 rfl ?_
        refine bb_bipush (v := 44) dX8_readsAll_38 (by decide) ?_
        refine bb_icmp_ne (tgt := 49) dX8_readsAll_40 (by decide) (fun c40 => ?_) (fun c40 => ?_)
        · rw [if_neg c40] at hf
          refine bb_fewer (L' := [.null, .null, .null]) trivial ?_
          exact j_X8_readsAll_49 _ hf
        rw [if_pos c40] at hf
        refine bb_iload_n dX8_readsAll_43 rfl ?_
        refine bb_bipush (v := 6) dX8_readsAll_44 (by decide) ?_
        refine bb_icmp_ne (tgt := 51) dX8_readsAll_46 (by decide) (fun c46 => ?_) (fun c46 => ?_)
        · rw [if_neg c46] at hf
          refine bb_aload_n dX8_readsAll_51 rfl ?_
          refine bb_dup dX8_readsAll_52 rfl ?_
          obtain ⟨t53, h53, hf⟩ := bb_bind hf
          refine bb_getI fl_X8_89 dX8_readsAll_53 h53 ?_
          refine bb_iconst (v := 1) dX8_readsAll_56 (by decide) ?_
          refine bb_iadd dX8_readsAll_57 ?_
          obtain ⟨g58, h58, hf⟩ := bb_bind hf
          refine bb_putI fp_X8_89 dX8_readsAll_58 h58 ?_
          refine bb_goto (tgt := 7) dX8_readsAll_61 (by decide) ?_
          refine bb_fewer (L' := [.ref x0, .int (x1 + 1), .null]) (And.intro rfl (And.intro rfl trivial)) ?_
          exact ih _ _ _ hf
        rw [if_pos c46] at hf
        refine bb_fewer (L' := [.null, .null, .null]) trivial ?_
        exact j_X8_readsAll_49 _ hf
      rw [if_neg c32] at hf
      refine bb_iload_n dX8_readsAll_35 rfl ?_
      obtain rfl := Option.some.inj hf
      exact bb_iret rfl rfl dX8_readsAll_36
    rw [if_pos c18] at hf
    refine bb_iconst (v := (-1)) dX8_readsAll_21 (by decide) ?_
    obtain rfl := Option.some.inj hf
    exact bb_iret rfl rfl dX8_readsAll_22
set_option maxRecDepth 100000 in
set_option maxHeartbeats 4000000 in
theorem j_X8_readsAll_0 {r : Int32 × bb_H} : ∀ (x0 : Nat) (h : bb_H), m_X8_readsAll x0 h = some r → bb_J RX8 cX8_readsAll 3 (some .int) rm_X8_readsAll (some (.int r.1), r.2) 0 [.ref x0, .null, .null] [] h := by
  intro x0 h hf
  unfold m_X8_readsAll at hf
  refine bb_aload_n dX8_readsAll_0 rfl ?_
  refine bb_iconst (v := 0) dX8_readsAll_1 (by decide) ?_
  obtain ⟨g2, h2, hf⟩ := bb_bind hf
  refine bb_putI fp_X8_89 dX8_readsAll_2 h2 ?_
  refine bb_iconst (v := 0) dX8_readsAll_5 (by decide) ?_
  refine bb_istore_n (L' := [.ref x0, .int 0, .null]) dX8_readsAll_6 (by decide) rfl rfl ?_
  refine bb_fewer (L' := [.ref x0, .int 0, .null]) (And.intro rfl (And.intro rfl trivial)) ?_
  exact j_X8_readsAll_7 _ _ _ _ hf
theorem ok_X8_readsAll {x0 : Nat} {h : bb_H} {r : Int32 × bb_H} (hf : m_X8_readsAll x0 h = some r) : bb_Ok yX8_readsAll cX8_readsAll 3 (some .int) rm_X8_readsAll [.ref x0] h (some (.int r.1), r.2) :=
  bb_ok (L := [.ref x0, .null, .null]) (by decide) (Nat.le_of_ble_eq_true rfl) rfl (bb_fewer (L' := [.ref x0, .null, .null]) (And.intro rfl trivial) (j_X8_readsAll_0 _ _ hf))
abbrev rm_X8_read : Room := { frames := 4, cells := 0, slots := 0, locals := 91 }
set_option maxRecDepth 100000 in
set_option maxHeartbeats 4000000 in
theorem j_X8_read_52 {r : Int32 × bb_H} : ∀ (n : Nat) (x0 : Nat) (x1 : Int32) (x2 : Int32) (x3 : Int32) (h : bb_H), m_X8_read_52 n x0 x1 x2 x3 h = some r → bb_J RX8 cX8_read 4 (some .int) rm_X8_read (some (.int r.1), r.2) 52 [.ref x0, .int x1, .int x2, .int x3] [] h := by
  intro n
  induction n with
  | zero =>
    intro x0 x1 x2 x3 h hf
    exact absurd hf (fun z => by cases z)
  | succ n ih =>
    intro x0 x1 x2 x3 h hf
    unfold m_X8_read_52 at hf
    refine bb_iload_n dX8_read_52 rfl ?_
    refine bb_bipush (v := 40) dX8_read_53 (by decide) ?_
    refine bb_icmp_ge (tgt := 76) dX8_read_55 (by decide) (fun c55 => ?_) (fun c55 => ?_)
    · rw [if_pos c55] at hf
      refine bb_aload_n dX8_read_76 rfl ?_
      obtain ⟨t77, h77, hf⟩ := bb_bind hf
      refine bb_getR fl_X8_7 dX8_read_77 h77 ?_
      refine bb_iconst (v := 0) dX8_read_80 (by decide) ?_
      refine bb_iload_n dX8_read_81 rfl ?_
      obtain ⟨g82, h82, hf⟩ := bb_bind hf
      refine bb_iastore dX8_read_82 h82 ?_
      refine bb_aload_n dX8_read_83 rfl ?_
      obtain ⟨t84, h84, hf⟩ := bb_bind hf
      refine bb_getR fl_X8_7 dX8_read_84 h84 ?_
      refine bb_iconst (v := 1) dX8_read_87 (by decide) ?_
      refine bb_iload_n dX8_read_88 rfl ?_
      obtain ⟨g89, h89, hf⟩ := bb_bind hf
      refine bb_iastore dX8_read_89 h89 ?_
      refine bb_aload_n dX8_read_90 rfl ?_
      obtain ⟨t91, h91, hf⟩ := bb_bind hf
      refine bb_getR fl_X8_7 dX8_read_91 h91 ?_
      refine bb_iconst (v := 3) dX8_read_94 (by decide) ?_
      refine bb_iload_n dX8_read_95 rfl ?_
      obtain ⟨g96, h96, hf⟩ := bb_bind hf
      refine bb_iastore dX8_read_96 h96 ?_
      refine bb_aload_n dX8_read_97 rfl ?_
      obtain ⟨t98, h98, hf⟩ := bb_bind hf
      refine bb_getR fl_X8_7 dX8_read_98 h98 ?_
      refine bb_bipush (v := 40) dX8_read_101 (by decide) ?_
      refine bb_iconst (v := 0) dX8_read_103 (by decide) ?_
      obtain ⟨g104, h104, hf⟩ := bb_bind hf
      refine bb_iastore dX8_read_104 h104 ?_
      refine bb_iload_n dX8_read_105 rfl ?_
      obtain rfl := Option.some.inj hf
      exact bb_iret rfl rfl dX8_read_106
    rw [if_neg c55] at hf
    refine bb_aload_n dX8_read_58 rfl ?_
    obtain ⟨t59, h59, hf⟩ := bb_bind hf
    refine bb_getR fl_X8_7 dX8_read_59 h59 ?_
    refine bb_iload_n dX8_read_62 rfl ?_
    refine bb_aload_n dX8_read_63 rfl ?_
    obtain ⟨t64, h64, hf⟩ := bb_bind hf
    refine bb_getR fl_X8_19 dX8_read_64 h64 ?_
    refine bb_iload_n dX8_read_67 rfl ?_
    obtain ⟨t68, h68, hf⟩ := bb_bind hf
    refine bb_iaload dX8_read_68 h68 ?_
    obtain ⟨g69, h69, hf⟩ := bb_bind hf
    refine bb_iastore dX8_read_69 h69 ?_
    refine bb_iinc (v := x3 + 1) (L' := [.ref x0, .int x1, .int x2, .int (x3 + 1)]) dX8_read_70 rfl rfl (by decide) rfl rfl ?_
    refine bb_goto (tgt := 52) dX8_read_73 (by decide) ?_
    refine bb_fewer (L' := [.ref x0, .int x1, .int x2, .int (x3 + 1)]) (And.intro rfl (And.intro rfl (And.intro rfl (And.intro rfl trivial)))) ?_
    exact ih _ _ _ _ _ hf
set_option maxRecDepth 100000 in
set_option maxHeartbeats 4000000 in
theorem j_X8_read_2 {r : Int32 × bb_H} : ∀ (n : Nat) (x0 : Nat) (x1 : Int32) (h : bb_H), m_X8_read_2 n x0 x1 h = some r → bb_J RX8 cX8_read 4 (some .int) rm_X8_read (some (.int r.1), r.2) 2 [.ref x0, .int x1, .null, .null] [] h := by
  intro n
  induction n with
  | zero =>
    intro x0 x1 h hf
    exact absurd hf (fun z => by cases z)
  | succ n ih =>
    intro x0 x1 h hf
    unfold m_X8_read_2 at hf
    refine bb_iload_n dX8_read_2 rfl ?_
    refine bb_bipush (v := 40) dX8_read_3 (by decide) ?_
    refine bb_icmp_ge (tgt := 21) dX8_read_5 (by decide) (fun c5 => ?_) (fun c5 => ?_)
    · rw [if_pos c5] at hf
      refine bb_aload_n dX8_read_21 rfl ?_
      obtain ⟨r22, h22, hf⟩ := bb_bind hf
      obtain ⟨⟨v22, b22⟩, h22⟩ := bb_rcv_spec h22
      refine bb_invV (ci := 8) (as := []) iv_X8_110 (by unfold bb_rr; decide) rfl dX8_read_22 rfl rfl b22 (Nat.le_of_ble_eq_true rfl) (ok_X8_readsAll h22) ?_
      refine bb_istore_n (L' := [.ref x0, .int r22.1, .null, .null]) dX8_read_25 (by decide) rfl rfl ?_
      refine bb_aload_n dX8_read_26 rfl ?_
      refine bb_iconst (v := 0) dX8_read_27 (by decide) ?_
      obtain ⟨g28, h28, hf⟩ := bb_bind hf
      refine bb_putI fp_X8_85 dX8_read_28 h28 ?_
      refine bb_iload_n dX8_read_31 rfl ?_
      refine bb_if_ge (tgt := 43) dX8_read_32 (by decide) (fun c32 => ?_) (fun c32 => ?_)
      · rw [if_pos c32] at hf
        refine bb_aload_n dX8_read_43 rfl ?_
        obtain ⟨t44, h44, hf⟩ := bb_bind hf
        refine bb_getR fl_X8_7 dX8_read_44 h44 ?_
        refine bb_iconst (v := 3) dX8_read_47 (by decide) ?_
        obtain ⟨t48, h48, hf⟩ := bb_bind hf
        refine bb_iaload dX8_read_48 h48 ?_
        refine bb_istore_n (L' := [.ref x0, .int r22.1, .int t48, .null]) dX8_read_49 (by decide) rfl rfl ?_
        refine bb_iconst (v := 0) dX8_read_50 (by decide) ?_
        refine bb_istore_n (L' := [.ref x0, .int r22.1, .int t48, .int 0]) dX8_read_51 (by decide) rfl rfl ?_
        refine bb_fewer (L' := [.ref x0, .int r22.1, .int t48, .int 0]) (And.intro rfl (And.intro rfl (And.intro rfl (And.intro rfl trivial)))) ?_
        exact j_X8_read_52 _ _ _ _ _ _ hf
      rw [if_neg c32] at hf
      refine bb_bipush (v := (-20)) dX8_read_35 (by decide) ?_
      refine bb_aload_n dX8_read_37 rfl ?_
      obtain ⟨t38, h38, hf⟩ := bb_bind hf
      refine bb_getI fl_X8_89 dX8_read_38 h38 ?_
      refine bb_isub dX8_read_41 ?_
      obtain rfl := Option.some.inj hf
      exact bb_iret rfl rfl dX8_read_42
    rw [if_neg c5] at hf
    refine bb_aload_n dX8_read_8 rfl ?_
    obtain ⟨t9, h9, hf⟩ := bb_bind hf
    refine bb_getR fl_X8_19 dX8_read_9 h9 ?_
    refine bb_iload_n dX8_read_12 rfl ?_
    refine bb_iconst (v := 0) dX8_read_13 (by decide) ?_
    obtain ⟨g14, h14, hf⟩ := bb_bind hf
    refine bb_iastore dX8_read_14 h14 ?_
    refine bb_iinc (v := x1 + 1) (L' := [.ref x0, .int (x1 + 1), .null, .null]) dX8_read_15 rfl rfl (by decide) rfl rfl ?_
    refine bb_goto (tgt := 2) dX8_read_18 (by decide) ?_
    refine bb_fewer (L' := [.ref x0, .int (x1 + 1), .null, .null]) (And.intro rfl (And.intro rfl trivial)) ?_
    exact ih _ _ _ hf
set_option maxRecDepth 100000 in
set_option maxHeartbeats 4000000 in
theorem j_X8_read_0 {r : Int32 × bb_H} : ∀ (x0 : Nat) (h : bb_H), m_X8_read x0 h = some r → bb_J RX8 cX8_read 4 (some .int) rm_X8_read (some (.int r.1), r.2) 0 [.ref x0, .null, .null, .null] [] h := by
  intro x0 h hf
  unfold m_X8_read at hf
  refine bb_iconst (v := 0) dX8_read_0 (by decide) ?_
  refine bb_istore_n (L' := [.ref x0, .int 0, .null, .null]) dX8_read_1 (by decide) rfl rfl ?_
  refine bb_fewer (L' := [.ref x0, .int 0, .null, .null]) (And.intro rfl (And.intro rfl trivial)) ?_
  exact j_X8_read_2 _ _ _ _ hf
theorem ok_X8_read {x0 : Nat} {h : bb_H} {r : Int32 × bb_H} (hf : m_X8_read x0 h = some r) : bb_Ok yX8_read cX8_read 4 (some .int) rm_X8_read [.ref x0] h (some (.int r.1), r.2) :=
  bb_ok (L := [.ref x0, .null, .null, .null]) (by decide) (Nat.le_of_ble_eq_true rfl) rfl (bb_fewer (L' := [.ref x0, .null, .null, .null]) (And.intro rfl trivial) (j_X8_read_0 _ _ hf))
abbrev rm_X8_lives : Room := { frames := 0, cells := 0, slots := 0, locals := 0 }
set_option maxRecDepth 100000 in
set_option maxHeartbeats 4000000 in
theorem j_X8_lives_4 {r : Int32 × bb_H} : ∀ (n : Nat) (x0 : Nat) (x1 : Int32) (x2 : Int32) (h : bb_H), m_X8_lives_4 n x0 x1 x2 h = some r → bb_J RX8 cX8_lives 3 (some .int) rm_X8_lives (some (.int r.1), r.2) 4 [.ref x0, .int x1, .int x2] [] h := by
  intro n
  induction n with
  | zero =>
    intro x0 x1 x2 h hf
    exact absurd hf (fun z => by cases z)
  | succ n ih =>
    intro x0 x1 x2 h hf
    unfold m_X8_lives_4 at hf
    refine bb_iload_n dX8_lives_4 rfl ?_
    refine bb_aload_n dX8_lives_5 rfl ?_
    obtain ⟨t6, h6, hf⟩ := bb_bind hf
    refine bb_getR fl_X8_7 dX8_lives_6 h6 ?_
    refine bb_iconst (v := 0) dX8_lives_9 (by decide) ?_
    obtain ⟨t10, h10, hf⟩ := bb_bind hf
    refine bb_iaload dX8_lives_10 h10 ?_
    refine bb_icmp_ge (tgt := 31) dX8_lives_11 (by decide) (fun c11 => ?_) (fun c11 => ?_)
    · rw [if_pos c11] at hf
      refine bb_iload_n dX8_lives_31 rfl ?_
      obtain rfl := Option.some.inj hf
      exact bb_iret rfl rfl dX8_lives_32
    rw [if_neg c11] at hf
    refine bb_iload_n dX8_lives_14 rfl ?_
    refine bb_aload_n dX8_lives_15 rfl ?_
    obtain ⟨t16, h16, hf⟩ := bb_bind hf
    refine bb_getR fl_X8_7 dX8_lives_16 h16 ?_
    refine bb_iconst (v := 4) dX8_lives_19 (by decide) ?_
    refine bb_iload_n dX8_lives_20 rfl ?_
    refine bb_iadd dX8_lives_21 ?_
    obtain ⟨t22, h22, hf⟩ := bb_bind hf
    refine bb_iaload dX8_lives_22 h22 ?_
    refine bb_iadd dX8_lives_23 ?_
    refine bb_istore_n (L' := [.ref x0, .int (x1 + t22), .int x2]) dX8_lives_24 (by decide) rfl rfl ?_
    refine bb_iinc (v := x2 + 1) (L' := [.ref x0, .int (x1 + t22), .int (x2 + 1)]) dX8_lives_25 rfl rfl (by decide) rfl rfl ?_
    refine bb_goto (tgt := 4) dX8_lives_28 (by decide) ?_
    refine bb_fewer (L' := [.ref x0, .int (x1 + t22), .int (x2 + 1)]) (And.intro rfl (And.intro rfl (And.intro rfl trivial))) ?_
    exact ih _ _ _ _ hf
set_option maxRecDepth 100000 in
set_option maxHeartbeats 4000000 in
theorem j_X8_lives_0 {r : Int32 × bb_H} : ∀ (x0 : Nat) (h : bb_H), m_X8_lives x0 h = some r → bb_J RX8 cX8_lives 3 (some .int) rm_X8_lives (some (.int r.1), r.2) 0 [.ref x0, .null, .null] [] h := by
  intro x0 h hf
  unfold m_X8_lives at hf
  refine bb_iconst (v := 0) dX8_lives_0 (by decide) ?_
  refine bb_istore_n (L' := [.ref x0, .int 0, .null]) dX8_lives_1 (by decide) rfl rfl ?_
  refine bb_iconst (v := 0) dX8_lives_2 (by decide) ?_
  refine bb_istore_n (L' := [.ref x0, .int 0, .int 0]) dX8_lives_3 (by decide) rfl rfl ?_
  refine bb_fewer (L' := [.ref x0, .int 0, .int 0]) (And.intro rfl (And.intro rfl (And.intro rfl trivial))) ?_
  exact j_X8_lives_4 _ _ _ _ _ hf
theorem ok_X8_lives {x0 : Nat} {h : bb_H} {r : Int32 × bb_H} (hf : m_X8_lives x0 h = some r) : bb_Ok yX8_lives cX8_lives 3 (some .int) rm_X8_lives [.ref x0] h (some (.int r.1), r.2) :=
  bb_ok (L := [.ref x0, .null, .null]) (by decide) (Nat.le_of_ble_eq_true rfl) rfl (bb_fewer (L' := [.ref x0, .null, .null]) (And.intro rfl trivial) (j_X8_lives_0 _ _ hf))
abbrev rm_X8_wrong : Room := { frames := 1, cells := 0, slots := 0, locals := 29 }
set_option maxRecDepth 100000 in
set_option maxHeartbeats 4000000 in
theorem j_X8_wrong_47 {r : Int32 × bb_H} {k4 : Nat → Int32 → Int32 → bb_H → Option (Int32 × bb_H)} (hk4 : ∀ (x0 : Nat) (x1 : Int32) (x2 : Int32) (h : bb_H), k4 x0 x1 x2 h = some r → bb_J RX8 cX8_wrong 3 (some .int) rm_X8_wrong (some (.int r.1), r.2) 4 [.ref x0, .int x1, .int x2] [] h) : ∀ (x0 : Nat) (x2 : Int32) (z0 : Int32) (z1 : Int32) (h : bb_H), m_X8_wrong_47 k4 x0 x2 z0 z1 h = some r → bb_J RX8 cX8_wrong 3 (some .int) rm_X8_wrong (some (.int r.1), r.2) 47 [.ref x0, .null, .int x2] [.int z1, .int z0] h := by
  intro x0 x2 z0 z1 h hf
  unfold m_X8_wrong_47 at hf
  refine bb_iadd dX8_wrong_47 ?_
  refine bb_istore_n (L' := [.ref x0, .int (z0 + z1), .int x2]) dX8_wrong_48 (by decide) rfl rfl ?_
  refine bb_iinc (v := x2 + 1) (L' := [.ref x0, .int (z0 + z1), .int (x2 + 1)]) dX8_wrong_49 rfl rfl (by decide) rfl rfl ?_
  refine bb_goto (tgt := 4) dX8_wrong_52 (by decide) ?_
  refine bb_fewer (L' := [.ref x0, .int (z0 + z1), .int (x2 + 1)]) (And.intro rfl (And.intro rfl (And.intro rfl trivial))) ?_
  exact hk4 _ _ _ _ hf
set_option maxRecDepth 100000 in
set_option maxHeartbeats 4000000 in
theorem j_X8_wrong_4 {r : Int32 × bb_H} : ∀ (n : Nat) (x0 : Nat) (x1 : Int32) (x2 : Int32) (h : bb_H), m_X8_wrong_4 n x0 x1 x2 h = some r → bb_J RX8 cX8_wrong 3 (some .int) rm_X8_wrong (some (.int r.1), r.2) 4 [.ref x0, .int x1, .int x2] [] h := by
  intro n
  induction n with
  | zero =>
    intro x0 x1 x2 h hf
    exact absurd hf (fun z => by cases z)
  | succ n ih =>
    intro x0 x1 x2 h hf
    unfold m_X8_wrong_4 at hf
    refine bb_iload_n dX8_wrong_4 rfl ?_
    refine bb_aload_n dX8_wrong_5 rfl ?_
    obtain ⟨t6, h6, hf⟩ := bb_bind hf
    refine bb_getR fl_X8_7 dX8_wrong_6 h6 ?_
    refine bb_iconst (v := 1) dX8_wrong_9 (by decide) ?_
    obtain ⟨t10, h10, hf⟩ := bb_bind hf
    refine bb_iaload dX8_wrong_10 h10 ?_
    refine bb_icmp_ge (tgt := 55) dX8_wrong_11 (by decide) (fun c11 => ?_) (fun c11 => ?_)
    · rw [if_pos c11] at hf
      refine bb_iload_n dX8_wrong_55 rfl ?_
      obtain rfl := Option.some.inj hf
      exact bb_iret rfl rfl dX8_wrong_56
    rw [if_neg c11] at hf
    refine bb_iload_n dX8_wrong_14 rfl ?_
    refine bb_aload_n dX8_wrong_15 rfl ?_
    refine bb_aload_n dX8_wrong_16 rfl ?_
    obtain ⟨t17, h17, hf⟩ := bb_bind hf
    refine bb_getR fl_X8_7 dX8_wrong_17 h17 ?_
    refine bb_bipush (v := 10) dX8_wrong_20 (by decide) ?_
    refine bb_iload_n dX8_wrong_22 rfl ?_
    refine bb_iadd dX8_wrong_23 ?_
    refine bb_iconst (v := 1) dX8_wrong_24 (by decide) ?_
    refine bb_isub dX8_wrong_25 ?_
    obtain ⟨t26, h26, hf⟩ := bb_bind hf
    refine bb_iaload dX8_wrong_26 h26 ?_
    refine bb_aload_n dX8_wrong_27 rfl ?_
    obtain ⟨t28, h28, hf⟩ := bb_bind hf
    refine bb_getR fl_X8_7 dX8_wrong_28 h28 ?_
    refine bb_bipush (v := 10) dX8_wrong_31 (by decide) ?_
    refine bb_iload_n dX8_wrong_33 rfl ?_
    refine bb_iadd dX8_wrong_34 ?_
    obtain ⟨t35, h35, hf⟩ := bb_bind hf
    refine bb_iaload dX8_wrong_35 h35 ?_
    obtain ⟨r36, h36, hf⟩ := bb_bind hf
    obtain ⟨⟨v36, b36⟩, h36⟩ := bb_rcv_spec h36
    refine bb_invV (ci := 8) (as := [.int t26, .int t35]) iv_X8_56 (by unfold bb_rr; decide) rfl dX8_wrong_36 rfl rfl b36 (Nat.le_of_ble_eq_true rfl) (ok_X8_stoodBy h36) ?_
    refine bb_if_eq (tgt := 46) dX8_wrong_39 (by decide) (fun c39 => ?_) (fun c39 => ?_)
    · rw [if_pos c39] at hf
      refine bb_iconst (v := 1) dX8_wrong_46 (by decide) ?_
      refine bb_fewer (L' := [.ref x0, .null, .int x2]) (And.intro rfl (And.intro rfl trivial)) ?_
      exact j_X8_wrong_47 ih _ _ _ _ _ hf
    rw [if_neg c39] at hf
    refine bb_iconst (v := 0) dX8_wrong_42 (by decide) ?_
    refine bb_goto (tgt := 47) dX8_wrong_43 (by decide) ?_
    refine bb_fewer (L' := [.ref x0, .null, .int x2]) (And.intro rfl (And.intro rfl trivial)) ?_
    exact j_X8_wrong_47 ih _ _ _ _ _ hf
set_option maxRecDepth 100000 in
set_option maxHeartbeats 4000000 in
theorem j_X8_wrong_0 {r : Int32 × bb_H} : ∀ (x0 : Nat) (h : bb_H), m_X8_wrong x0 h = some r → bb_J RX8 cX8_wrong 3 (some .int) rm_X8_wrong (some (.int r.1), r.2) 0 [.ref x0, .null, .null] [] h := by
  intro x0 h hf
  unfold m_X8_wrong at hf
  refine bb_iconst (v := 0) dX8_wrong_0 (by decide) ?_
  refine bb_istore_n (L' := [.ref x0, .int 0, .null]) dX8_wrong_1 (by decide) rfl rfl ?_
  refine bb_iconst (v := 1) dX8_wrong_2 (by decide) ?_
  refine bb_istore_n (L' := [.ref x0, .int 0, .int 1]) dX8_wrong_3 (by decide) rfl rfl ?_
  refine bb_fewer (L' := [.ref x0, .int 0, .int 1]) (And.intro rfl (And.intro rfl (And.intro rfl trivial))) ?_
  exact j_X8_wrong_4 _ _ _ _ _ hf
theorem ok_X8_wrong {x0 : Nat} {h : bb_H} {r : Int32 × bb_H} (hf : m_X8_wrong x0 h = some r) : bb_Ok yX8_wrong cX8_wrong 3 (some .int) rm_X8_wrong [.ref x0] h (some (.int r.1), r.2) :=
  bb_ok (L := [.ref x0, .null, .null]) (by decide) (Nat.le_of_ble_eq_true rfl) rfl (bb_fewer (L' := [.ref x0, .null, .null]) (And.intro rfl trivial) (j_X8_wrong_0 _ _ hf))
abbrev rm_X8_count : Room := { frames := 2, cells := 0, slots := 0, locals := 51 }
set_option maxRecDepth 100000 in
set_option maxHeartbeats 4000000 in
theorem j_X8_count_0 {r : Int32 × bb_H} : ∀ (x0 : Nat) (x1 : Int32) (h : bb_H), m_X8_count x0 x1 h = some r → bb_J RX8 cX8_count 2 (some .int) rm_X8_count (some (.int r.1), r.2) 0 [.ref x0, .int x1] [] h := by
  intro x0 x1 h hf
  unfold m_X8_count at hf
  refine bb_iload_n dX8_count_0 rfl ?_
  by_cases c1_0 : x1 = 0
  · rw [if_pos c1_0] at hf
    refine bb_tableIn (tgt := 44) dX8_count_1 (by rw [c1_0]; decide) (by rw [c1_0]; decide) (off := 43) (by rw [c1_0]; decide) (by decide) ?_
    refine bb_aload_n dX8_count_44 rfl ?_
    obtain ⟨t45, h45, hf⟩ := bb_bind hf
    refine bb_getR fl_X8_7 dX8_count_45 h45 ?_
    refine bb_iconst (v := 0) dX8_count_48 (by decide) ?_
    obtain ⟨t49, h49, hf⟩ := bb_bind hf
    refine bb_iaload dX8_count_49 h49 ?_
    obtain rfl := Option.some.inj hf
    exact bb_iret rfl rfl dX8_count_50
  rw [if_neg c1_0] at hf
  by_cases c1_1 : x1 = 1
  · rw [if_pos c1_1] at hf
    refine bb_tableIn (tgt := 51) dX8_count_1 (by rw [c1_1]; decide) (by rw [c1_1]; decide) (off := 50) (by rw [c1_1]; decide) (by decide) ?_
    refine bb_aload_n dX8_count_51 rfl ?_
    obtain ⟨t52, h52, hf⟩ := bb_bind hf
    refine bb_getR fl_X8_7 dX8_count_52 h52 ?_
    refine bb_iconst (v := 1) dX8_count_55 (by decide) ?_
    obtain ⟨t56, h56, hf⟩ := bb_bind hf
    refine bb_iaload dX8_count_56 h56 ?_
    obtain rfl := Option.some.inj hf
    exact bb_iret rfl rfl dX8_count_57
  rw [if_neg c1_1] at hf
  by_cases c1_2 : x1 = 2
  · rw [if_pos c1_2] at hf
    refine bb_tableIn (tgt := 58) dX8_count_1 (by rw [c1_2]; decide) (by rw [c1_2]; decide) (off := 57) (by rw [c1_2]; decide) (by decide) ?_
    refine bb_aload_n dX8_count_58 rfl ?_
    obtain ⟨t59, h59, hf⟩ := bb_bind hf
    refine bb_getR fl_X8_7 dX8_count_59 h59 ?_
    refine bb_iconst (v := 2) dX8_count_62 (by decide) ?_
    obtain ⟨t63, h63, hf⟩ := bb_bind hf
    refine bb_iaload dX8_count_63 h63 ?_
    obtain rfl := Option.some.inj hf
    exact bb_iret rfl rfl dX8_count_64
  rw [if_neg c1_2] at hf
  by_cases c1_3 : x1 = 3
  · rw [if_pos c1_3] at hf
    refine bb_tableIn (tgt := 65) dX8_count_1 (by rw [c1_3]; decide) (by rw [c1_3]; decide) (off := 64) (by rw [c1_3]; decide) (by decide) ?_
    refine bb_aload_n dX8_count_65 rfl ?_
    obtain ⟨r66, h66, hf⟩ := bb_bind hf
    obtain ⟨⟨v66, b66⟩, h66⟩ := bb_rcv_spec h66
    refine bb_invV (ci := 8) (as := []) iv_X8_75 (by unfold bb_rr; decide) rfl dX8_count_66 rfl rfl b66 (Nat.le_of_ble_eq_true rfl) (ok_X8_bench h66) ?_
    obtain rfl := Option.some.inj hf
    exact bb_iret rfl rfl dX8_count_69
  rw [if_neg c1_3] at hf
  by_cases c1_4 : x1 = 4
  · rw [if_pos c1_4] at hf
    refine bb_tableIn (tgt := 70) dX8_count_1 (by rw [c1_4]; decide) (by rw [c1_4]; decide) (off := 69) (by rw [c1_4]; decide) (by decide) ?_
    refine bb_aload_n dX8_count_70 rfl ?_
    obtain ⟨r71, h71, hf⟩ := bb_bind hf
    obtain ⟨⟨v71, b71⟩, h71⟩ := bb_rcv_spec h71
    refine bb_invV (ci := 8) (as := []) iv_X8_113 (by unfold bb_rr; decide) rfl dX8_count_71 rfl rfl b71 (Nat.le_of_ble_eq_true rfl) (ok_X8_lives h71) ?_
    obtain rfl := Option.some.inj hf
    exact bb_iret rfl rfl dX8_count_74
  rw [if_neg c1_4] at hf
  by_cases c1_5 : x1 = 5
  · rw [if_pos c1_5] at hf
    refine bb_tableIn (tgt := 75) dX8_count_1 (by rw [c1_5]; decide) (by rw [c1_5]; decide) (off := 74) (by rw [c1_5]; decide) (by decide) ?_
    refine bb_aload_n dX8_count_75 rfl ?_
    obtain ⟨r76, h76, hf⟩ := bb_bind hf
    obtain ⟨⟨v76, b76⟩, h76⟩ := bb_rcv_spec h76
    refine bb_invV (ci := 8) (as := []) iv_X8_116 (by unfold bb_rr; decide) rfl dX8_count_76 rfl rfl b76 (Nat.le_of_ble_eq_true rfl) (ok_X8_wrong h76) ?_
    obtain rfl := Option.some.inj hf
    exact bb_iret rfl rfl dX8_count_79
  rw [if_neg c1_5] at hf
  by_cases c1_6 : x1 = 6
  · rw [if_pos c1_6] at hf
    refine bb_tableIn (tgt := 80) dX8_count_1 (by rw [c1_6]; decide) (by rw [c1_6]; decide) (off := 79) (by rw [c1_6]; decide) (by decide) ?_
    refine bb_aload_n dX8_count_80 rfl ?_
    obtain ⟨t81, h81, hf⟩ := bb_bind hf
    refine bb_getR fl_X8_7 dX8_count_81 h81 ?_
    refine bb_bipush (v := 40) dX8_count_84 (by decide) ?_
    obtain ⟨t86, h86, hf⟩ := bb_bind hf
    refine bb_iaload dX8_count_86 h86 ?_
    obtain rfl := Option.some.inj hf
    exact bb_iret rfl rfl dX8_count_87
  rw [if_neg c1_6] at hf
  refine bb_tableOut (tgt := 88) dX8_count_1 (bb_swout x1 0 6 (by decide) (fun n q1 q2 => by rcases (show n = 0 ∨ n = 1 ∨ n = 2 ∨ n = 3 ∨ n = 4 ∨ n = 5 ∨ n = 6 by omega) with rfl | rfl | rfl | rfl | rfl | rfl | rfl <;> assumption)) (by decide) ?_
  refine bb_iconst (v := (-1)) dX8_count_88 (by decide) ?_
  obtain rfl := Option.some.inj hf
  exact bb_iret rfl rfl dX8_count_89
theorem ok_X8_count {x0 : Nat} {x1 : Int32} {h : bb_H} {r : Int32 × bb_H} (hf : m_X8_count x0 x1 h = some r) : bb_Ok yX8_count cX8_count 2 (some .int) rm_X8_count [.ref x0, .int x1] h (some (.int r.1), r.2) :=
  bb_ok (L := [.ref x0, .int x1]) (by decide) (Nat.le_of_ble_eq_true rfl) rfl (bb_fewer (L' := [.ref x0, .int x1]) (And.intro rfl (And.intro rfl trivial)) (j_X8_count_0 _ _ _ hf))
abbrev rm_X8_keeps : Room := { frames := 0, cells := 0, slots := 0, locals := 0 }
set_option maxRecDepth 100000 in
set_option maxHeartbeats 4000000 in
theorem j_X8_keeps_56 {r : bb_H} : ∀ (n : Nat) (x0 : Nat) (x1 : Int32) (h : bb_H), m_X8_keeps_56 n x0 x1 h = some r → bb_J RX8 cX8_keeps 2 none rm_X8_keeps (none, r) 56 [.ref x0, .int x1] [] h := by
  intro n
  induction n with
  | zero =>
    intro x0 x1 h hf
    exact absurd hf (fun z => by cases z)
  | succ n ih =>
    intro x0 x1 h hf
    unfold m_X8_keeps_56 at hf
    refine bb_iload_n dX8_keeps_56 rfl ?_
    refine bb_bipush (v := 15) dX8_keeps_57 (by decide) ?_
    refine bb_icmp_ge (tgt := 96) dX8_keeps_59 (by decide) (fun c59 => ?_) (fun c59 => ?_)
    · rw [if_pos c59] at hf
      refine bb_aload_n dX8_keeps_96 rfl ?_
      obtain ⟨t97, h97, hf⟩ := bb_bind hf
      refine bb_getR fl_X8_7 dX8_keeps_97 h97 ?_
      refine bb_bipush (v := 40) dX8_keeps_100 (by decide) ?_
      refine bb_dup2 dX8_keeps_102 rfl rfl ?_
      obtain ⟨t103, h103, hf⟩ := bb_bind hf
      refine bb_iaload dX8_keeps_103 h103 ?_
      refine bb_iconst (v := 1) dX8_keeps_104 (by decide) ?_
      refine bb_iadd dX8_keeps_105 ?_
      obtain ⟨g106, h106, hf⟩ := bb_bind hf
      refine bb_iastore dX8_keeps_106 h106 ?_
      obtain rfl := Option.some.inj hf
      exact bb_vret rfl rfl dX8_keeps_107
    rw [if_neg c59] at hf
    refine bb_aload_n dX8_keeps_62 rfl ?_
    obtain ⟨t63, h63, hf⟩ := bb_bind hf
    refine bb_getR fl_X8_7 dX8_keeps_63 h63 ?_
    refine bb_bipush (v := 41) dX8_keeps_66 (by decide) ?_
    refine bb_bipush (v := 15) dX8_keeps_68 (by decide) ?_
    refine bb_aload_n dX8_keeps_70 rfl ?_
    obtain ⟨t71, h71, hf⟩ := bb_bind hf
    refine bb_getR fl_X8_7 dX8_keeps_71 h71 ?_
    refine bb_bipush (v := 40) dX8_keeps_74 (by decide) ?_
    obtain ⟨t76, h76, hf⟩ := bb_bind hf
    refine bb_iaload dX8_keeps_76 h76 ?_
    refine bb_imul dX8_keeps_77 ?_
    refine bb_iadd dX8_keeps_78 ?_
    refine bb_iload_n dX8_keeps_79 rfl ?_
    refine bb_iadd dX8_keeps_80 ?_
    refine bb_aload_n dX8_keeps_81 rfl ?_
    obtain ⟨t82, h82, hf⟩ := bb_bind hf
    refine bb_getR fl_X8_7 dX8_keeps_82 h82 ?_
    refine bb_iconst (v := 1) dX8_keeps_85 (by decide) ?_
    refine bb_iload_n dX8_keeps_86 rfl ?_
    refine bb_iadd dX8_keeps_87 ?_
    obtain ⟨t88, h88, hf⟩ := bb_bind hf
    refine bb_iaload dX8_keeps_88 h88 ?_
    obtain ⟨g89, h89, hf⟩ := bb_bind hf
    refine bb_iastore dX8_keeps_89 h89 ?_
    refine bb_iinc (v := x1 + 1) (L' := [.ref x0, .int (x1 + 1)]) dX8_keeps_90 rfl rfl (by decide) rfl rfl ?_
    refine bb_goto (tgt := 56) dX8_keeps_93 (by decide) ?_
    refine bb_fewer (L' := [.ref x0, .int (x1 + 1)]) (And.intro rfl (And.intro rfl trivial)) ?_
    exact ih _ _ _ hf
set_option maxRecDepth 100000 in
set_option maxHeartbeats 4000000 in
theorem j_X8_keeps_54 {r : bb_H} : ∀ (x0 : Nat) (h : bb_H), m_X8_keeps_54 x0 h = some r → bb_J RX8 cX8_keeps 2 none rm_X8_keeps (none, r) 54 [.ref x0, .null] [] h := by
  intro x0 h hf
  unfold m_X8_keeps_54 at hf
  refine bb_iconst (v := 0) dX8_keeps_54 (by decide) ?_
  refine bb_istore_n (L' := [.ref x0, .int 0]) dX8_keeps_55 (by decide) rfl rfl ?_
  refine bb_fewer (L' := [.ref x0, .int 0]) (And.intro rfl (And.intro rfl trivial)) ?_
  exact j_X8_keeps_56 _ _ _ _ hf
set_option maxRecDepth 100000 in
set_option maxHeartbeats 4000000 in
theorem j_X8_keeps_15 {r : bb_H} : ∀ (n : Nat) (x0 : Nat) (x1 : Int32) (h : bb_H), m_X8_keeps_15 n x0 x1 h = some r → bb_J RX8 cX8_keeps 2 none rm_X8_keeps (none, r) 15 [.ref x0, .int x1] [] h := by
  intro n
  induction n with
  | zero =>
    intro x0 x1 h hf
    exact absurd hf (fun z => by cases z)
  | succ n ih =>
    intro x0 x1 h hf
    unfold m_X8_keeps_15 at hf
    refine bb_iload_n dX8_keeps_15 rfl ?_
    refine bb_sipush (v := 146) dX8_keeps_16 (by decide) ?_
    refine bb_icmp_ge (tgt := 43) dX8_keeps_19 (by decide) (fun c19 => ?_) (fun c19 => ?_)
    · rw [if_pos c19] at hf
      refine bb_aload_n dX8_keeps_43 rfl ?_
      obtain ⟨t44, h44, hf⟩ := bb_bind hf
      refine bb_getR fl_X8_7 dX8_keeps_44 h44 ?_
      refine bb_bipush (v := 40) dX8_keeps_47 (by decide) ?_
      refine bb_dup2 dX8_keeps_49 rfl rfl ?_
      obtain ⟨t50, h50, hf⟩ := bb_bind hf
      refine bb_iaload dX8_keeps_50 h50 ?_
      refine bb_iconst (v := 1) dX8_keeps_51 (by decide) ?_
      refine bb_isub dX8_keeps_52 ?_
      obtain ⟨g53, h53, hf⟩ := bb_bind hf
      refine bb_iastore dX8_keeps_53 h53 ?_
      refine bb_fewer (L' := [.ref x0, .null]) (And.intro rfl trivial) ?_
      exact j_X8_keeps_54 _ _ hf
    rw [if_neg c19] at hf
    refine bb_aload_n dX8_keeps_22 rfl ?_
    obtain ⟨t23, h23, hf⟩ := bb_bind hf
    refine bb_getR fl_X8_7 dX8_keeps_23 h23 ?_
    refine bb_iload_n dX8_keeps_26 rfl ?_
    refine bb_aload_n dX8_keeps_27 rfl ?_
    obtain ⟨t28, h28, hf⟩ := bb_bind hf
    refine bb_getR fl_X8_7 dX8_keeps_28 h28 ?_
    refine bb_iload_n dX8_keeps_31 rfl ?_
    refine bb_bipush (v := 15) dX8_keeps_32 (by decide) ?_
    refine bb_iadd dX8_keeps_34 ?_
    obtain ⟨t35, h35, hf⟩ := bb_bind hf
    refine bb_iaload dX8_keeps_35 h35 ?_
    obtain ⟨g36, h36, hf⟩ := bb_bind hf
    refine bb_iastore dX8_keeps_36 h36 ?_
    refine bb_iinc (v := x1 + 1) (L' := [.ref x0, .int (x1 + 1)]) dX8_keeps_37 rfl rfl (by decide) rfl rfl ?_
    refine bb_goto (tgt := 15) dX8_keeps_40 (by decide) ?_
    refine bb_fewer (L' := [.ref x0, .int (x1 + 1)]) (And.intro rfl (And.intro rfl trivial)) ?_
    exact ih _ _ _ hf
set_option maxRecDepth 100000 in
set_option maxHeartbeats 4000000 in
theorem j_X8_keeps_0 {r : bb_H} : ∀ (x0 : Nat) (h : bb_H), m_X8_keeps x0 h = some r → bb_J RX8 cX8_keeps 2 none rm_X8_keeps (none, r) 0 [.ref x0, .null] [] h := by
  intro x0 h hf
  unfold m_X8_keeps at hf
  refine bb_aload_n dX8_keeps_0 rfl ?_
  obtain ⟨t1, h1, hf⟩ := bb_bind hf
  refine bb_getR fl_X8_7 dX8_keeps_1 h1 ?_
  refine bb_bipush (v := 40) dX8_keeps_4 (by decide) ?_
  obtain ⟨t6, h6, hf⟩ := bb_bind hf
  refine bb_iaload dX8_keeps_6 h6 ?_
  refine bb_bipush (v := 8) dX8_keeps_7 (by decide) ?_
  refine bb_icmp_ne (tgt := 54) dX8_keeps_9 (by decide) (fun c9 => ?_) (fun c9 => ?_)
  · rw [if_neg c9] at hf
    refine bb_fewer (L' := [.ref x0, .null]) (And.intro rfl trivial) ?_
    exact j_X8_keeps_54 _ _ hf
  rw [if_pos c9] at hf
  refine bb_bipush (v := 41) dX8_keeps_12 (by decide) ?_
  refine bb_istore_n (L' := [.ref x0, .int 41]) dX8_keeps_14 (by decide) rfl rfl ?_
  refine bb_fewer (L' := [.ref x0, .int 41]) (And.intro rfl (And.intro rfl trivial)) ?_
  exact j_X8_keeps_15 _ _ _ _ hf
theorem ok_X8_keeps {x0 : Nat} {h : bb_H} {r : bb_H} (hf : m_X8_keeps x0 h = some r) : bb_Ok yX8_keeps cX8_keeps 2 none rm_X8_keeps [.ref x0] h (none, r) :=
  bb_ok (L := [.ref x0, .null]) (by decide) (Nat.le_of_ble_eq_true rfl) rfl (bb_fewer (L' := [.ref x0, .null]) (And.intro rfl trivial) (j_X8_keeps_0 _ _ hf))
abbrev rm_X8_years : Room := { frames := 5, cells := 0, slots := 0, locals := 113 }
set_option maxRecDepth 100000 in
set_option maxHeartbeats 4000000 in
theorem j_X8_years_31 {r : Int32 × bb_H} : ∀ (n : Nat) (x0 : Nat) (x1 : Int32) (x2 : Int32) (h : bb_H), m_X8_years_31 n x0 x1 x2 h = some r → bb_J RX8 cX8_years 3 (some .int) rm_X8_years (some (.int r.1), r.2) 31 [.ref x0, .int x1, .int x2] [] h := by
  intro n
  induction n with
  | zero =>
    intro x0 x1 x2 h hf
    exact absurd hf (fun z => by cases z)
  | succ n ih =>
    intro x0 x1 x2 h hf
    unfold m_X8_years_31 at hf
    refine bb_iload_n dX8_years_31 rfl ?_
    refine bb_iload_n dX8_years_32 rfl ?_
    refine bb_icmp_ge (tgt := 50) dX8_years_33 (by decide) (fun c33 => ?_) (fun c33 => ?_)
    · rw [if_pos c33] at hf
      refine bb_aload_n dX8_years_50 rfl ?_
      obtain ⟨r51, h51, hf⟩ := bb_bind hf
      obtain ⟨⟨v51, b51⟩, h51⟩ := bb_rcv_spec h51
      refine bb_invV (ci := 8) (as := []) iv_X8_75 (by unfold bb_rr; decide) rfl dX8_years_51 rfl rfl b51 (Nat.le_of_ble_eq_true rfl) (ok_X8_bench h51) ?_
      obtain rfl := Option.some.inj hf
      exact bb_iret rfl rfl dX8_years_54
    rw [if_neg c33] at hf
    refine bb_aload_n dX8_years_36 rfl ?_
    obtain ⟨g37, h37, hf⟩ := bb_bind hf
    obtain ⟨⟨v37, b37⟩, h37⟩ := bb_rcv_spec h37
    refine bb_invV (ci := 8) (as := []) iv_X8_119 (by unfold bb_rr; decide) rfl dX8_years_37 rfl rfl b37 (Nat.le_of_ble_eq_true rfl) (ok_X8_keeps h37) ?_
    refine bb_aload_n dX8_years_40 rfl ?_
    obtain ⟨g41, h41, hf⟩ := bb_bind hf
    obtain ⟨⟨v41, b41⟩, h41⟩ := bb_rcv_spec h41
    refine bb_invV (ci := 8) (as := []) iv_X8_122 (by unfold bb_rr; decide) rfl dX8_years_41 rfl rfl b41 (Nat.le_of_ble_eq_true rfl) (ok_X8_passes h41) ?_
    refine bb_iinc (v := x2 + 1) (L' := [.ref x0, .int x1, .int (x2 + 1)]) dX8_years_44 rfl rfl (by decide) rfl rfl ?_
    refine bb_goto (tgt := 31) dX8_years_47 (by decide) ?_
    refine bb_fewer (L' := [.ref x0, .int x1, .int (x2 + 1)]) (And.intro rfl (And.intro rfl (And.intro rfl trivial))) ?_
    exact ih _ _ _ _ hf
set_option maxRecDepth 100000 in
set_option maxHeartbeats 4000000 in
theorem j_X8_years_0 {r : Int32 × bb_H} : ∀ (x0 : Nat) (x1 : Int32) (h : bb_H), m_X8_years x0 x1 h = some r → bb_J RX8 cX8_years 3 (some .int) rm_X8_years (some (.int r.1), r.2) 0 [.ref x0, .int x1, .null] [] h := by
  intro x0 x1 h hf
  unfold m_X8_years at hf
  refine bb_iload_n dX8_years_0 rfl ?_
  refine bb_iconst (v := 1) dX8_years_1 (by decide) ?_
  refine bb_bipush (v := 40) dX8_years_2 (by decide) ?_
  obtain ⟨r4, h4, hf⟩ := bb_bind hf
  refine bb_invS (as := [.int x1, .int 1, .int 40]) is_X8_44 (by unfold bb_rr; decide) dX8_years_4 rfl rfl (Nat.le_of_ble_eq_true rfl) (ok_X8_in h4) ?_
  refine bb_if_ne (tgt := 12) dX8_years_7 (by decide) (fun c7 => ?_) (fun c7 => ?_)
  · rw [if_neg c7] at hf
    refine bb_aload_n dX8_years_12 rfl ?_
    obtain ⟨t13, h13, hf⟩ := bb_bind hf
    refine bb_getR fl_X8_7 dX8_years_13 h13 ?_
    refine bb_iconst (v := 2) dX8_years_16 (by decide) ?_
    obtain ⟨t17, h17, hf⟩ := bb_bind hf
    refine bb_iaload dX8_years_17 h17 ?_
    refine bb_iload_n dX8_years_18 rfl ?_
    refine bb_iadd dX8_years_19 ?_
    refine bb_sipush (v := 9999) dX8_years_20 (by decide) ?_
    refine bb_icmp_le (tgt := 29) dX8_years_23 (by decide) (fun c23 => ?_) (fun c23 => ?_)
    · rw [if_pos c23] at hf
      refine bb_iconst (v := 0) dX8_years_29 (by decide) ?_
      refine bb_istore_n (L' := [.ref x0, .int x1, .int 0]) dX8_years_30 (by decide) rfl rfl ?_
      refine bb_fewer (L' := [.ref x0, .int x1, .int 0]) (And.intro rfl (And.intro rfl (And.intro rfl trivial))) ?_
      exact j_X8_years_31 _ _ _ _ _ hf
    rw [if_neg c23] at hf
    refine bb_bipush (v := (-3)) dX8_years_26 (by decide) ?_
    obtain rfl := Option.some.inj hf
    exact bb_iret rfl rfl dX8_years_28
  rw [if_pos c7] at hf
  refine bb_iconst (v := (-1)) dX8_years_10 (by decide) ?_
  obtain rfl := Option.some.inj hf
  exact bb_iret rfl rfl dX8_years_11
theorem ok_X8_years {x0 : Nat} {x1 : Int32} {h : bb_H} {r : Int32 × bb_H} (hf : m_X8_years x0 x1 h = some r) : bb_Ok yX8_years cX8_years 3 (some .int) rm_X8_years [.ref x0, .int x1] h (some (.int r.1), r.2) :=
  bb_ok (L := [.ref x0, .int x1, .null]) (by decide) (Nat.le_of_ble_eq_true rfl) rfl (bb_fewer (L' := [.ref x0, .int x1, .null]) (And.intro rfl (And.intro rfl trivial)) (j_X8_years_0 _ _ _ hf))
abbrev rm_X8_changes : Room := { frames := 0, cells := 0, slots := 0, locals := 0 }
set_option maxRecDepth 100000 in
set_option maxHeartbeats 4000000 in
theorem j_X8_changes_0 {r : bb_H} : ∀ (x0 : Nat) (x1 : Int32) (h : bb_H), m_X8_changes x0 x1 h = some r → bb_J RX8 cX8_changes 3 none rm_X8_changes (none, r) 0 [.ref x0, .int x1, .null] [] h := by
  intro x0 x1 h hf
  unfold m_X8_changes at hf
  refine bb_aload_n dX8_changes_0 rfl ?_
  obtain ⟨t1, h1, hf⟩ := bb_bind hf
  refine bb_getR fl_X8_7 dX8_changes_1 h1 ?_
  refine bb_bipush (v := 10) dX8_changes_4 (by decide) ?_
  refine bb_iload_n dX8_changes_6 rfl ?_
  refine bb_iadd dX8_changes_7 ?_
  obtain ⟨t8, h8, hf⟩ := bb_bind hf
  refine bb_iaload dX8_changes_8 h8 ?_
  refine bb_istore_n (L' := [.ref x0, .int x1, .int t8]) dX8_changes_9 (by decide) rfl rfl ?_
  refine bb_aload_n dX8_changes_10 rfl ?_
  obtain ⟨t11, h11, hf⟩ := bb_bind hf
  refine bb_getR fl_X8_7 dX8_changes_11 h11 ?_
  refine bb_bipush (v := 10) dX8_changes_14 (by decide) ?_
  refine bb_iload_n dX8_changes_16 rfl ?_
  refine bb_iadd dX8_changes_17 ?_
  refine bb_aload_n dX8_changes_18 rfl ?_
  obtain ⟨t19, h19, hf⟩ := bb_bind hf
  refine bb_getR fl_X8_7 dX8_changes_19 h19 ?_
  refine bb_bipush (v := 10) dX8_changes_22 (by decide) ?_
  refine bb_iload_n dX8_changes_24 rfl ?_
  refine bb_iadd dX8_changes_25 ?_
  refine bb_iconst (v := 1) dX8_changes_26 (by decide) ?_
  refine bb_iadd dX8_changes_27 ?_
  obtain ⟨t28, h28, hf⟩ := bb_bind hf
  refine bb_iaload dX8_changes_28 h28 ?_
  obtain ⟨g29, h29, hf⟩ := bb_bind hf
  refine bb_iastore dX8_changes_29 h29 ?_
  refine bb_aload_n dX8_changes_30 rfl ?_
  obtain ⟨t31, h31, hf⟩ := bb_bind hf
  refine bb_getR fl_X8_7 dX8_changes_31 h31 ?_
  refine bb_bipush (v := 10) dX8_changes_34 (by decide) ?_
  refine bb_iload_n dX8_changes_36 rfl ?_
  refine bb_iadd dX8_changes_37 ?_
  refine bb_iconst (v := 1) dX8_changes_38 (by decide) ?_
  refine bb_iadd dX8_changes_39 ?_
  refine bb_iload_n dX8_changes_40 rfl ?_
  obtain ⟨g41, h41, hf⟩ := bb_bind hf
  refine bb_iastore dX8_changes_41 h41 ?_
  obtain rfl := Option.some.inj hf
  exact bb_vret rfl rfl dX8_changes_42
theorem ok_X8_changes {x0 : Nat} {x1 : Int32} {h : bb_H} {r : bb_H} (hf : m_X8_changes x0 x1 h = some r) : bb_Ok yX8_changes cX8_changes 3 none rm_X8_changes [.ref x0, .int x1] h (none, r) :=
  bb_ok (L := [.ref x0, .int x1, .null]) (by decide) (Nat.le_of_ble_eq_true rfl) rfl (bb_fewer (L' := [.ref x0, .int x1, .null]) (And.intro rfl (And.intro rfl trivial)) (j_X8_changes_0 _ _ _ hf))
abbrev rm_X8_move : Room := { frames := 1, cells := 0, slots := 0, locals := 22 }
set_option maxRecDepth 100000 in
set_option maxHeartbeats 4000000 in
theorem j_X8_move_0 {r : Int32 × bb_H} : ∀ (x0 : Nat) (x1 : Int32) (h : bb_H), m_X8_move x0 x1 h = some r → bb_J RX8 cX8_move 2 (some .int) rm_X8_move (some (.int r.1), r.2) 0 [.ref x0, .int x1] [] h := by
  intro x0 x1 h hf
  unfold m_X8_move at hf
  refine bb_iload_n dX8_move_0 rfl ?_
  refine bb_iconst (v := 0) dX8_move_1 (by decide) ?_
  refine bb_aload_n dX8_move_2 rfl ?_
  obtain ⟨t3, h3, hf⟩ := bb_bind hf
  refine bb_getR fl_X8_7 dX8_move_3 h3 ?_
  refine bb_iconst (v := 1) dX8_move_6 (by decide) ?_
  obtain ⟨t7, h7, hf⟩ := bb_bind hf
  refine bb_iaload dX8_move_7 h7 ?_
  refine bb_iconst (v := 2) dX8_move_8 (by decide) ?_
  refine bb_isub dX8_move_9 ?_
  obtain ⟨r10, h10, hf⟩ := bb_bind hf
  refine bb_invS (as := [.int x1, .int 0, .int (t7 - 2)]) is_X8_44 (by unfold bb_rr; decide) dX8_move_10 rfl rfl (Nat.le_of_ble_eq_true rfl) (ok_X8_in h10) ?_
  refine bb_if_ne (tgt := 18) dX8_move_13 (by decide) (fun c13 => ?_) (fun c13 => ?_)
  · rw [if_neg c13] at hf
    refine bb_aload_n dX8_move_18 rfl ?_
    obtain ⟨g19, h19, hf⟩ := bb_bind hf
    obtain ⟨⟨v19, b19⟩, h19⟩ := bb_rcv_spec h19
    refine bb_invV (ci := 8) (as := []) iv_X8_119 (by unfold bb_rr; decide) rfl dX8_move_19 rfl rfl b19 (Nat.le_of_ble_eq_true rfl) (ok_X8_keeps h19) ?_
    refine bb_aload_n dX8_move_22 rfl ?_
    refine bb_iload_n dX8_move_23 rfl ?_
    obtain ⟨g24, h24, hf⟩ := bb_bind hf
    obtain ⟨⟨v24, b24⟩, h24⟩ := bb_rcv_spec h24
    refine bb_invV (ci := 8) (as := [.int x1]) iv_X8_125 (by unfold bb_rr; decide) rfl dX8_move_24 rfl rfl b24 (Nat.le_of_ble_eq_true rfl) (ok_X8_changes h24) ?_
    refine bb_aload_n dX8_move_27 rfl ?_
    obtain ⟨t28, h28, hf⟩ := bb_bind hf
    refine bb_getR fl_X8_7 dX8_move_28 h28 ?_
    refine bb_bipush (v := 10) dX8_move_31 (by decide) ?_
    refine bb_iload_n dX8_move_33 rfl ?_
    refine bb_iadd dX8_move_34 ?_
    obtain ⟨t35, h35, hf⟩ := bb_bind hf
    refine bb_iaload dX8_move_35 h35 ?_
    obtain rfl := Option.some.inj hf
    exact bb_iret rfl rfl dX8_move_36
  rw [if_pos c13] at hf
  refine bb_iconst (v := (-1)) dX8_move_16 (by decide) ?_
  obtain rfl := Option.some.inj hf
  exact bb_iret rfl rfl dX8_move_17
theorem ok_X8_move {x0 : Nat} {x1 : Int32} {h : bb_H} {r : Int32 × bb_H} (hf : m_X8_move x0 x1 h = some r) : bb_Ok yX8_move cX8_move 2 (some .int) rm_X8_move [.ref x0, .int x1] h (some (.int r.1), r.2) :=
  bb_ok (L := [.ref x0, .int x1]) (by decide) (Nat.le_of_ble_eq_true rfl) rfl (bb_fewer (L' := [.ref x0, .int x1]) (And.intro rfl (And.intro rfl trivial)) (j_X8_move_0 _ _ _ hf))
abbrev rm_X8_nurse : Room := { frames := 2, cells := 0, slots := 0, locals := 43 }
set_option maxRecDepth 100000 in
set_option maxHeartbeats 4000000 in
theorem j_X8_nurse_18 {r : Int32 × bb_H} : ∀ (h : bb_H), m_X8_nurse_18 h = some r → bb_J RX8 cX8_nurse 4 (some .int) rm_X8_nurse (some (.int r.1), r.2) 18 [.null, .null, .null, .null] [] h := by
  intro h hf
  unfold m_X8_nurse_18 at hf
  refine bb_iconst (v := (-1)) dX8_nurse_18 (by decide) ?_
  obtain rfl := Option.some.inj hf
  exact bb_iret rfl rfl dX8_nurse_19
set_option maxRecDepth 100000 in
set_option maxHeartbeats 4000000 in
theorem j_X8_nurse_67 {r : Int32 × bb_H} : ∀ (x0 : Nat) (x1 : Int32) (z0 : Nat) (z1 : Int32) (z2 : Int32) (h : bb_H), m_X8_nurse_67 x0 x1 z0 z1 z2 h = some r → bb_J RX8 cX8_nurse 4 (some .int) rm_X8_nurse (some (.int r.1), r.2) 67 [.ref x0, .int x1, .null, .null] [.int z2, .int z1, .ref z0] h := by
  intro x0 x1 z0 z1 z2 h hf
  unfold m_X8_nurse_67 at hf
  obtain ⟨g67, h67, hf⟩ := bb_bind hf
  refine bb_iastore dX8_nurse_67 h67 ?_
  refine bb_aload_n dX8_nurse_68 rfl ?_
  obtain ⟨t69, h69, hf⟩ := bb_bind hf
  refine bb_getR fl_X8_7 dX8_nurse_69 h69 ?_
  refine bb_iconst (v := 4) dX8_nurse_72 (by decide) ?_
  refine bb_iload_n dX8_nurse_73 rfl ?_
  refine bb_iadd dX8_nurse_74 ?_
  obtain ⟨t75, h75, hf⟩ := bb_bind hf
  refine bb_iaload dX8_nurse_75 h75 ?_
  obtain rfl := Option.some.inj hf
  exact bb_iret rfl rfl dX8_nurse_76
set_option maxRecDepth 100000 in
set_option maxHeartbeats 4000000 in
theorem j_X8_nurse_0 {r : Int32 × bb_H} : ∀ (x0 : Nat) (x1 : Int32) (x2 : Int32) (h : bb_H), m_X8_nurse x0 x1 x2 h = some r → bb_J RX8 cX8_nurse 4 (some .int) rm_X8_nurse (some (.int r.1), r.2) 0 [.ref x0, .int x1, .int x2, .null] [] h := by
  intro x0 x1 x2 h hf
  unfold m_X8_nurse at hf
  refine bb_aload_n dX8_nurse_0 rfl ?_
  refine bb_iload_n dX8_nurse_1 rfl ?_
  obtain ⟨r2, h2, hf⟩ := bb_bind hf
  obtain ⟨⟨v2, b2⟩, h2⟩ := bb_rcv_spec h2
  refine bb_invV (ci := 8) (as := [.int x1]) iv_X8_52 (by unfold bb_rr; decide) rfl dX8_nurse_2 rfl rfl b2 (Nat.le_of_ble_eq_true rfl) (ok_X8_isMan h2) ?_
  refine bb_if_eq (tgt := 18) dX8_nurse_5 (by decide) (fun c5 => ?_) (fun c5 => ?_)
  · rw [if_pos c5] at hf
    refine bb_fewer (L' := [.null, .null, .null, .null]) trivial ?_
    exact j_X8_nurse_18 _ hf
  rw [if_neg c5] at hf
  refine bb_iload_n dX8_nurse_8 rfl ?_
  refine bb_iconst (v := 1) dX8_nurse_9 (by decide) ?_
  refine bb_bipush (v := 60) dX8_nurse_10 (by decide) ?_
  obtain ⟨r12, h12, hf⟩ := bb_bind hf
  refine bb_invS (as := [.int x2, .int 1, .int 60]) is_X8_44 (by unfold bb_rr; decide) dX8_nurse_12 rfl rfl (Nat.le_of_ble_eq_true rfl) (ok_X8_in h12) ?_
  refine bb_if_ne (tgt := 20) dX8_nurse_15 (by decide) (fun c15 => ?_) (fun c15 => ?_)
  · rw [if_neg c15] at hf
    refine bb_aload_n dX8_nurse_20 rfl ?_
    refine bb_iload_n dX8_nurse_21 rfl ?_
    obtain ⟨r22, h22, hf⟩ := bb_bind hf
    obtain ⟨⟨v22, b22⟩, h22⟩ := bb_rcv_spec h22
    refine bb_invV (ci := 8) (as := [.int x1]) iv_X8_59 (by unfold bb_rr; decide) rfl dX8_nurse_22 rfl rfl b22 (Nat.le_of_ble_eq_true rfl) (ok_X8_seatOf h22) ?_
    refine bb_bipush (v := (-4)) dX8_nurse_25 (by decide) ?_
    refine bb_icmp_ne (tgt := 33) dX8_nurse_27 (by decide) (fun c27 => ?_) (fun c27 => ?_)
    · rw [if_neg c27] at hf
      refine bb_aload_n dX8_nurse_33 rfl ?_
      obtain ⟨g34, h34, hf⟩ := bb_bind hf
      obtain ⟨⟨v34, b34⟩, h34⟩ := bb_rcv_spec h34
      refine bb_invV (ci := 8) (as := []) iv_X8_119 (by unfold bb_rr; decide) rfl dX8_nurse_34 rfl rfl b34 (Nat.le_of_ble_eq_true rfl) (ok_X8_keeps h34) ?_
      refine bb_aload_n dX8_nurse_37 rfl ?_
      obtain ⟨t38, h38, hf⟩ := bb_bind hf
      refine bb_getR fl_X8_7 dX8_nurse_38 h38 ?_
      refine bb_iconst (v := 4) dX8_nurse_41 (by decide) ?_
      refine bb_iload_n dX8_nurse_42 rfl ?_
      refine bb_iadd dX8_nurse_43 ?_
      obtain ⟨t44, h44, hf⟩ := bb_bind hf
      refine bb_iaload dX8_nurse_44 h44 ?_
      refine bb_iload_n dX8_nurse_45 rfl ?_
      refine bb_iadd dX8_nurse_46 ?_
      refine bb_istore_n (L' := [.ref x0, .int x1, .int x2, .int (t44 + x2)]) dX8_nurse_47 (by decide) rfl rfl ?_
      refine bb_aload_n dX8_nurse_48 rfl ?_
      obtain ⟨t49, h49, hf⟩ := bb_bind hf
      refine bb_getR fl_X8_7 dX8_nurse_49 h49 ?_
      refine bb_iconst (v := 4) dX8_nurse_52 (by decide) ?_
      refine bb_iload_n dX8_nurse_53 rfl ?_
      refine bb_iadd dX8_nurse_54 ?_
      refine bb_iload_n dX8_nurse_55 rfl ?_
      refine bb_bipush (v := 60) dX8_nurse_56 (by decide) ?_
      refine bb_icmp_le (tgt := 66) dX8_nurse_58 (by decide) (fun c58 => ?_) (fun c58 => ?_)
      · rw [if_pos c58] at hf
        refine bb_iload_n dX8_nurse_66 rfl ?_
        refine bb_fewer (L' := [.ref x0, .int x1, .null, .null]) (And.intro rfl (And.intro rfl trivial)) ?_
        exact j_X8_nurse_67 _ _ _ _ _ _ hf
      rw [if_neg c58] at hf
      refine bb_bipush (v := 60) dX8_nurse_61 (by decide) ?_
      refine bb_goto (tgt := 67) dX8_nurse_63 (by decide) ?_
      refine bb_fewer (L' := [.ref x0, .int x1, .null, .null]) (And.intro rfl (And.intro rfl trivial)) ?_
      exact j_X8_nurse_67 _ _ _ _ _ _ hf
    rw [if_pos c27] at hf
    refine bb_bipush (v := (-2)) dX8_nurse_30 (by decide) ?_
    obtain rfl := Option.some.inj hf
    exact bb_iret rfl rfl dX8_nurse_32
  rw [if_pos c15] at hf
  refine bb_fewer (L' := [.null, .null, .null, .null]) trivial ?_
  exact j_X8_nurse_18 _ hf
theorem ok_X8_nurse {x0 : Nat} {x1 : Int32} {x2 : Int32} {h : bb_H} {r : Int32 × bb_H} (hf : m_X8_nurse x0 x1 x2 h = some r) : bb_Ok yX8_nurse cX8_nurse 4 (some .int) rm_X8_nurse [.ref x0, .int x1, .int x2] h (some (.int r.1), r.2) :=
  bb_ok (L := [.ref x0, .int x1, .int x2, .null]) (by decide) (Nat.le_of_ble_eq_true rfl) rfl (bb_fewer (L' := [.ref x0, .int x1, .int x2, .null]) (And.intro rfl (And.intro rfl (And.intro rfl trivial))) (j_X8_nurse_0 _ _ _ _ hf))
abbrev rm_X8_drift : Room := { frames := 5, cells := 0, slots := 0, locals := 113 }
set_option maxRecDepth 100000 in
set_option maxHeartbeats 4000000 in
theorem j_X8_drift_94 {r : Int32 × bb_H} {k31 : Nat → Int32 → Int32 → bb_H → Option (Int32 × bb_H)} (hk31 : ∀ (x0 : Nat) (x1 : Int32) (x2 : Int32) (h : bb_H), k31 x0 x1 x2 h = some r → bb_J RX8 cX8_drift 3 (some .int) rm_X8_drift (some (.int r.1), r.2) 31 [.ref x0, .int x1, .int x2] [] h) : ∀ (x0 : Nat) (x1 : Int32) (x2 : Int32) (h : bb_H), m_X8_drift_94 k31 x0 x1 x2 h = some r → bb_J RX8 cX8_drift 3 (some .int) rm_X8_drift (some (.int r.1), r.2) 94 [.ref x0, .int x1, .int x2] [] h := by
  intro x0 x1 x2 h hf
  unfold m_X8_drift_94 at hf
  refine bb_aload_n dX8_drift_94 rfl ?_
  obtain ⟨g95, h95, hf⟩ := bb_bind hf
  obtain ⟨⟨v95, b95⟩, h95⟩ := bb_rcv_spec h95
  refine bb_invV (ci := 8) (as := []) iv_X8_122 (by unfold bb_rr; decide) rfl dX8_drift_95 rfl rfl b95 (Nat.le_of_ble_eq_true rfl) (ok_X8_passes h95) ?_
  refine bb_iinc (v := x2 + 1) (L' := [.ref x0, .int x1, .int (x2 + 1)]) dX8_drift_98 rfl rfl (by decide) rfl rfl ?_
  refine bb_goto (tgt := 31) dX8_drift_101 (by decide) ?_
  refine bb_fewer (L' := [.ref x0, .int x1, .int (x2 + 1)]) (And.intro rfl (And.intro rfl (And.intro rfl trivial))) ?_
  exact hk31 _ _ _ _ hf
set_option maxRecDepth 100000 in
set_option maxHeartbeats 4000000 in
theorem j_X8_drift_31 {r : Int32 × bb_H} : ∀ (n : Nat) (x0 : Nat) (x1 : Int32) (x2 : Int32) (h : bb_H), m_X8_drift_31 n x0 x1 x2 h = some r → bb_J RX8 cX8_drift 3 (some .int) rm_X8_drift (some (.int r.1), r.2) 31 [.ref x0, .int x1, .int x2] [] h := by
  intro n
  induction n with
  | zero =>
    intro x0 x1 x2 h hf
    exact absurd hf (fun z => by cases z)
  | succ n ih =>
    intro x0 x1 x2 h hf
    unfold m_X8_drift_31 at hf
    refine bb_iload_n dX8_drift_31 rfl ?_
    refine bb_iload_n dX8_drift_32 rfl ?_
    refine bb_icmp_ge (tgt := 104) dX8_drift_33 (by decide) (fun c33 => ?_) (fun c33 => ?_)
    · rw [if_pos c33] at hf
      refine bb_aload_n dX8_drift_104 rfl ?_
      obtain ⟨r105, h105, hf⟩ := bb_bind hf
      obtain ⟨⟨v105, b105⟩, h105⟩ := bb_rcv_spec h105
      refine bb_invV (ci := 8) (as := []) iv_X8_75 (by unfold bb_rr; decide) rfl dX8_drift_105 rfl rfl b105 (Nat.le_of_ble_eq_true rfl) (ok_X8_bench h105) ?_
      obtain rfl := Option.some.inj hf
      exact bb_iret rfl rfl dX8_drift_108
    rw [if_neg c33] at hf
    refine bb_aload_n dX8_drift_36 rfl ?_
    obtain ⟨g37, h37, hf⟩ := bb_bind hf
    obtain ⟨⟨v37, b37⟩, h37⟩ := bb_rcv_spec h37
    refine bb_invV (ci := 8) (as := []) iv_X8_119 (by unfold bb_rr; decide) rfl dX8_drift_37 rfl rfl b37 (Nat.le_of_ble_eq_true rfl) (ok_X8_keeps h37) ?_
    refine bb_aload_n dX8_drift_40 rfl ?_
    obtain ⟨t41, h41, hf⟩ := bb_bind hf
    refine bb_getR fl_X8_7 dX8_drift_41 h41 ?_
    refine bb_iconst (v := 3) dX8_drift_44 (by decide) ?_
    refine bb_aload_n dX8_drift_45 rfl ?_
    obtain ⟨t46, h46, hf⟩ := bb_bind hf
    refine bb_getR fl_X8_7 dX8_drift_46 h46 ?_
    refine bb_iconst (v := 3) dX8_drift_49 (by decide) ?_
    obtain ⟨t50, h50, hf⟩ := bb_bind hf
    refine bb_iaload dX8_drift_50 h50 ?_
    refine bb_ldc (v := 1103515245) co_X8_129 dX8_drift_51 ?_
    refine bb_imul dX8_drift_53 ?_
    refine bb_sipush (v := 12345) dX8_drift_54 (by decide) ?_
    refine bb_iadd dX8_drift_57 ?_
    refine bb_ldc (v := 2147483647) co_X8_130 dX8_drift_58 ?_
    refine bb_iand dX8_drift_60 ?_
    obtain ⟨g61, h61, hf⟩ := bb_bind hf
    refine bb_iastore dX8_drift_61 h61 ?_
    refine bb_aload_n dX8_drift_62 rfl ?_
    obtain ⟨t63, h63, hf⟩ := bb_bind hf
    refine bb_getR fl_X8_7 dX8_drift_63 h63 ?_
    refine bb_iconst (v := 1) dX8_drift_66 (by decide) ?_
    obtain ⟨t67, h67, hf⟩ := bb_bind hf
    refine bb_iaload dX8_drift_67 h67 ?_
    refine bb_iconst (v := 1) dX8_drift_68 (by decide) ?_
    refine bb_icmp_le (tgt := 94) dX8_drift_69 (by decide) (fun c69 => ?_) (fun c69 => ?_)
    · rw [if_pos c69] at hf
      refine bb_fewer (L' := [.ref x0, .int x1, .int x2]) (And.intro rfl (And.intro rfl (And.intro rfl trivial))) ?_
      exact j_X8_drift_94 ih _ _ _ _ hf
    rw [if_neg c69] at hf
    refine bb_aload_n dX8_drift_72 rfl ?_
    refine bb_aload_n dX8_drift_73 rfl ?_
    obtain ⟨t74, h74, hf⟩ := bb_bind hf
    refine bb_getR fl_X8_7 dX8_drift_74 h74 ?_
    refine bb_iconst (v := 3) dX8_drift_77 (by decide) ?_
    obtain ⟨t78, h78, hf⟩ := bb_bind hf
    refine bb_iaload dX8_drift_78 h78 ?_
    refine bb_ldc (v := 65536) co_X8_131 dX8_drift_79 ?_
    refine bb_idiv dX8_drift_81 (by decide) ?_
    refine bb_aload_n dX8_drift_82 rfl ?_
    obtain ⟨t83, h83, hf⟩ := bb_bind hf
    refine bb_getR fl_X8_7 dX8_drift_83 h83 ?_
    refine bb_iconst (v := 1) dX8_drift_86 (by decide) ?_
    obtain ⟨t87, h87, hf⟩ := bb_bind hf
    refine bb_iaload dX8_drift_87 h87 ?_
    refine bb_iconst (v := 1) dX8_drift_88 (by decide) ?_
    refine bb_isub dX8_drift_89 ?_
    by_cases c90 : (t87 - 1) = 0
    · rw [if_pos c90] at hf; cases hf
    rw [if_neg c90] at hf
    refine bb_irem dX8_drift_90 c90 ?_
    obtain ⟨g91, h91, hf⟩ := bb_bind hf
    obtain ⟨⟨v91, b91⟩, h91⟩ := bb_rcv_spec h91
    refine bb_invV (ci := 8) (as := [.int ((t78 / 65536) - (t78 / 65536) / (t87 - 1) * (t87 - 1))]) iv_X8_125 (by unfold bb_rr; decide) rfl dX8_drift_91 rfl rfl b91 (Nat.le_of_ble_eq_true rfl) (ok_X8_changes h91) ?_
    refine bb_fewer (L' := [.ref x0, .int x1, .int x2]) (And.intro rfl (And.intro rfl (And.intro rfl trivial))) ?_
    exact j_X8_drift_94 ih _ _ _ _ hf
set_option maxRecDepth 100000 in
set_option maxHeartbeats 4000000 in
theorem j_X8_drift_0 {r : Int32 × bb_H} : ∀ (x0 : Nat) (x1 : Int32) (h : bb_H), m_X8_drift x0 x1 h = some r → bb_J RX8 cX8_drift 3 (some .int) rm_X8_drift (some (.int r.1), r.2) 0 [.ref x0, .int x1, .null] [] h := by
  intro x0 x1 h hf
  unfold m_X8_drift at hf
  refine bb_iload_n dX8_drift_0 rfl ?_
  refine bb_iconst (v := 1) dX8_drift_1 (by decide) ?_
  refine bb_bipush (v := 40) dX8_drift_2 (by decide) ?_
  obtain ⟨r4, h4, hf⟩ := bb_bind hf
  refine bb_invS (as := [.int x1, .int 1, .int 40]) is_X8_44 (by unfold bb_rr; decide) dX8_drift_4 rfl rfl (Nat.le_of_ble_eq_true rfl) (ok_X8_in h4) ?_
  refine bb_if_ne (tgt := 12) dX8_drift_7 (by decide) (fun c7 => ?_) (fun c7 => ?_)
  · rw [if_neg c7] at hf
    refine bb_aload_n dX8_drift_12 rfl ?_
    obtain ⟨t13, h13, hf⟩ := bb_bind hf
    refine bb_getR fl_X8_7 dX8_drift_13 h13 ?_
    refine bb_iconst (v := 2) dX8_drift_16 (by decide) ?_
    obtain ⟨t17, h17, hf⟩ := bb_bind hf
    refine bb_iaload dX8_drift_17 h17 ?_
    refine bb_iload_n dX8_drift_18 rfl ?_
    refine bb_iadd dX8_drift_19 ?_
    refine bb_sipush (v := 9999) dX8_drift_20 (by decide) ?_
    refine bb_icmp_le (tgt := 29) dX8_drift_23 (by decide) (fun c23 => ?_) (fun c23 => ?_)
    · rw [if_pos c23] at hf
      refine bb_iconst (v := 0) dX8_drift_29 (by decide) ?_
      refine bb_istore_n (L' := [.ref x0, .int x1, .int 0]) dX8_drift_30 (by decide) rfl rfl ?_
      refine bb_fewer (L' := [.ref x0, .int x1, .int 0]) (And.intro rfl (And.intro rfl (And.intro rfl trivial))) ?_
      exact j_X8_drift_31 _ _ _ _ _ hf
    rw [if_neg c23] at hf
    refine bb_bipush (v := (-3)) dX8_drift_26 (by decide) ?_
    obtain rfl := Option.some.inj hf
    exact bb_iret rfl rfl dX8_drift_28
  rw [if_pos c7] at hf
  refine bb_iconst (v := (-1)) dX8_drift_10 (by decide) ?_
  obtain rfl := Option.some.inj hf
  exact bb_iret rfl rfl dX8_drift_11
theorem ok_X8_drift {x0 : Nat} {x1 : Int32} {h : bb_H} {r : Int32 × bb_H} (hf : m_X8_drift x0 x1 h = some r) : bb_Ok yX8_drift cX8_drift 3 (some .int) rm_X8_drift [.ref x0, .int x1] h (some (.int r.1), r.2) :=
  bb_ok (L := [.ref x0, .int x1, .null]) (by decide) (Nat.le_of_ble_eq_true rfl) rfl (bb_fewer (L' := [.ref x0, .int x1, .null]) (And.intro rfl (And.intro rfl trivial)) (j_X8_drift_0 _ _ _ hf))
abbrev rm_X8_undo : Room := { frames := 0, cells := 0, slots := 0, locals := 0 }
set_option maxRecDepth 100000 in
set_option maxHeartbeats 4000000 in
theorem j_X8_undo_26 {r : Int32 × bb_H} : ∀ (n : Nat) (x0 : Nat) (x1 : Int32) (h : bb_H), m_X8_undo_26 n x0 x1 h = some r → bb_J RX8 cX8_undo 2 (some .int) rm_X8_undo (some (.int r.1), r.2) 26 [.ref x0, .int x1] [] h := by
  intro n
  induction n with
  | zero =>
    intro x0 x1 h hf
    exact absurd hf (fun z => by cases z)
  | succ n ih =>
    intro x0 x1 h hf
    unfold m_X8_undo_26 at hf
    refine bb_iload_n dX8_undo_26 rfl ?_
    refine bb_bipush (v := 15) dX8_undo_27 (by decide) ?_
    refine bb_icmp_ge (tgt := 66) dX8_undo_29 (by decide) (fun c29 => ?_) (fun c29 => ?_)
    · rw [if_pos c29] at hf
      refine bb_aload_n dX8_undo_66 rfl ?_
      obtain ⟨t67, h67, hf⟩ := bb_bind hf
      refine bb_getR fl_X8_7 dX8_undo_67 h67 ?_
      refine bb_bipush (v := 40) dX8_undo_70 (by decide) ?_
      obtain ⟨t72, h72, hf⟩ := bb_bind hf
      refine bb_iaload dX8_undo_72 h72 ?_
      obtain rfl := Option.some.inj hf
      exact bb_iret rfl rfl dX8_undo_73
    rw [if_neg c29] at hf
    refine bb_aload_n dX8_undo_32 rfl ?_
    obtain ⟨t33, h33, hf⟩ := bb_bind hf
    refine bb_getR fl_X8_7 dX8_undo_33 h33 ?_
    refine bb_iconst (v := 1) dX8_undo_36 (by decide) ?_
    refine bb_iload_n dX8_undo_37 rfl ?_
    refine bb_iadd dX8_undo_38 ?_
    refine bb_aload_n dX8_undo_39 rfl ?_
    obtain ⟨t40, h40, hf⟩ := bb_bind hf
    refine bb_getR fl_X8_7 dX8_undo_40 h40 ?_
    refine bb_bipush (v := 41) dX8_undo_43 (by decide) ?_
    refine bb_bipush (v := 15) dX8_undo_45 (by decide) ?_
    refine bb_aload_n dX8_undo_47 rfl ?_
    obtain ⟨t48, h48, hf⟩ := bb_bind hf
    refine bb_getR fl_X8_7 dX8_undo_48 h48 ?_
    refine bb_bipush (v := 40) dX8_undo_51 (by decide) ?_
    obtain ⟨t53, h53, hf⟩ := bb_bind hf
    refine bb_iaload dX8_undo_53 h53 ?_
    refine bb_imul dX8_undo_54 ?_
    refine bb_iadd dX8_undo_55 ?_
    refine bb_iload_n dX8_undo_56 rfl ?_
    refine bb_iadd dX8_undo_57 ?_
    obtain ⟨t58, h58, hf⟩ := bb_bind hf
    refine bb_iaload dX8_undo_58 h58 ?_
    obtain ⟨g59, h59, hf⟩ := bb_bind hf
    refine bb_iastore dX8_undo_59 h59 ?_
    refine bb_iinc (v := x1 + 1) (L' := [.ref x0, .int (x1 + 1)]) dX8_undo_60 rfl rfl (by decide) rfl rfl ?_
    refine bb_goto (tgt := 26) dX8_undo_63 (by decide) ?_
    refine bb_fewer (L' := [.ref x0, .int (x1 + 1)]) (And.intro rfl (And.intro rfl trivial)) ?_
    exact ih _ _ _ hf
set_option maxRecDepth 100000 in
set_option maxHeartbeats 4000000 in
theorem j_X8_undo_0 {r : Int32 × bb_H} : ∀ (x0 : Nat) (h : bb_H), m_X8_undo x0 h = some r → bb_J RX8 cX8_undo 2 (some .int) rm_X8_undo (some (.int r.1), r.2) 0 [.ref x0, .null] [] h := by
  intro x0 h hf
  unfold m_X8_undo at hf
  refine bb_aload_n dX8_undo_0 rfl ?_
  obtain ⟨t1, h1, hf⟩ := bb_bind hf
  refine bb_getR fl_X8_7 dX8_undo_1 h1 ?_
  refine bb_bipush (v := 40) dX8_undo_4 (by decide) ?_
  obtain ⟨t6, h6, hf⟩ := bb_bind hf
  refine bb_iaload dX8_undo_6 h6 ?_
  refine bb_if_ne (tgt := 13) dX8_undo_7 (by decide) (fun c7 => ?_) (fun c7 => ?_)
  · rw [if_neg c7] at hf
    refine bb_aload_n dX8_undo_13 rfl ?_
    obtain ⟨t14, h14, hf⟩ := bb_bind hf
    refine bb_getR fl_X8_7 dX8_undo_14 h14 ?_
    refine bb_bipush (v := 40) dX8_undo_17 (by decide) ?_
    refine bb_dup2 dX8_undo_19 rfl rfl ?_
    obtain ⟨t20, h20, hf⟩ := bb_bind hf
    refine bb_iaload dX8_undo_20 h20 ?_
    refine bb_iconst (v := 1) dX8_undo_21 (by decide) ?_
    refine bb_isub dX8_undo_22 ?_
    obtain ⟨g23, h23, hf⟩ := bb_bind hf
    refine bb_iastore dX8_undo_23 h23 ?_
    refine bb_iconst (v := 0) dX8_undo_24 (by decide) ?_
    refine bb_istore_n (L' := [.ref x0, .int 0]) dX8_undo_25 (by decide) rfl rfl ?_
    refine bb_fewer (L' := [.ref x0, .int 0]) (And.intro rfl (And.intro rfl trivial)) ?_
    exact j_X8_undo_26 _ _ _ _ hf
  rw [if_pos c7] at hf
  refine bb_bipush (v := (-4)) dX8_undo_10 (by decide) ?_
  obtain rfl := Option.some.inj hf
  exact bb_iret rfl rfl dX8_undo_12
theorem ok_X8_undo {x0 : Nat} {h : bb_H} {r : Int32 × bb_H} (hf : m_X8_undo x0 h = some r) : bb_Ok yX8_undo cX8_undo 2 (some .int) rm_X8_undo [.ref x0] h (some (.int r.1), r.2) :=
  bb_ok (L := [.ref x0, .null]) (by decide) (Nat.le_of_ble_eq_true rfl) rfl (bb_fewer (L' := [.ref x0, .null]) (And.intro rfl trivial) (j_X8_undo_0 _ _ hf))
abbrev rm_X8_seed : Room := { frames := 0, cells := 0, slots := 0, locals := 0 }
set_option maxRecDepth 100000 in
set_option maxHeartbeats 4000000 in
theorem j_X8_seed_0 {r : Int32 × bb_H} : ∀ (x0 : Nat) (x1 : Int32) (h : bb_H), m_X8_seed x0 x1 h = some r → bb_J RX8 cX8_seed 3 (some .int) rm_X8_seed (some (.int r.1), r.2) 0 [.ref x0, .int x1, .null] [] h := by
  intro x0 x1 h hf
  unfold m_X8_seed at hf
  refine bb_iload_n dX8_seed_0 rfl ?_
  refine bb_if_ge (tgt := 6) dX8_seed_1 (by decide) (fun c1 => ?_) (fun c1 => ?_)
  · rw [if_pos c1] at hf
    refine bb_aload_n dX8_seed_6 rfl ?_
    obtain ⟨t7, h7, hf⟩ := bb_bind hf
    refine bb_getR fl_X8_7 dX8_seed_7 h7 ?_
    refine bb_iconst (v := 3) dX8_seed_10 (by decide) ?_
    obtain ⟨t11, h11, hf⟩ := bb_bind hf
    refine bb_iaload dX8_seed_11 h11 ?_
    refine bb_istore_n (L' := [.ref x0, .int x1, .int t11]) dX8_seed_12 (by decide) rfl rfl ?_
    refine bb_aload_n dX8_seed_13 rfl ?_
    obtain ⟨t14, h14, hf⟩ := bb_bind hf
    refine bb_getR fl_X8_7 dX8_seed_14 h14 ?_
    refine bb_iconst (v := 3) dX8_seed_17 (by decide) ?_
    refine bb_iload_n dX8_seed_18 rfl ?_
    obtain ⟨g19, h19, hf⟩ := bb_bind hf
    refine bb_iastore dX8_seed_19 h19 ?_
    refine bb_iload_n dX8_seed_20 rfl ?_
    obtain rfl := Option.some.inj hf
    exact bb_iret rfl rfl dX8_seed_21
  rw [if_neg c1] at hf
  refine bb_iconst (v := (-1)) dX8_seed_4 (by decide) ?_
  obtain rfl := Option.some.inj hf
  exact bb_iret rfl rfl dX8_seed_5
theorem ok_X8_seed {x0 : Nat} {x1 : Int32} {h : bb_H} {r : Int32 × bb_H} (hf : m_X8_seed x0 x1 h = some r) : bb_Ok yX8_seed cX8_seed 3 (some .int) rm_X8_seed [.ref x0, .int x1] h (some (.int r.1), r.2) :=
  bb_ok (L := [.ref x0, .int x1, .null]) (by decide) (Nat.le_of_ble_eq_true rfl) rfl (bb_fewer (L' := [.ref x0, .int x1, .null]) (And.intro rfl (And.intro rfl trivial)) (j_X8_seed_0 _ _ _ hf))
abbrev rm_X8_holds : Room := { frames := 0, cells := 0, slots := 0, locals := 0 }
set_option maxRecDepth 100000 in
set_option maxHeartbeats 4000000 in
theorem j_X8_holds_2 {r : bb_H} : ∀ (n : Nat) (x0 : Nat) (x1 : Int32) (h : bb_H), m_X8_holds_2 n x0 x1 h = some r → bb_J RX8 cX8_holds 2 none rm_X8_holds (none, r) 2 [.ref x0, .int x1] [] h := by
  intro n
  induction n with
  | zero =>
    intro x0 x1 h hf
    exact absurd hf (fun z => by cases z)
  | succ n ih =>
    intro x0 x1 h hf
    unfold m_X8_holds_2 at hf
    refine bb_iload_n dX8_holds_2 rfl ?_
    refine bb_bipush (v := 40) dX8_holds_3 (by decide) ?_
    refine bb_icmp_ge (tgt := 26) dX8_holds_5 (by decide) (fun c5 => ?_) (fun c5 => ?_)
    · rw [if_pos c5] at hf
      obtain rfl := Option.some.inj hf
      exact bb_vret rfl rfl dX8_holds_26
    rw [if_neg c5] at hf
    refine bb_aload_n dX8_holds_8 rfl ?_
    obtain ⟨t9, h9, hf⟩ := bb_bind hf
    refine bb_getR fl_X8_38 dX8_holds_9 h9 ?_
    refine bb_iload_n dX8_holds_12 rfl ?_
    refine bb_aload_n dX8_holds_13 rfl ?_
    obtain ⟨t14, h14, hf⟩ := bb_bind hf
    refine bb_getR fl_X8_7 dX8_holds_14 h14 ?_
    refine bb_iload_n dX8_holds_17 rfl ?_
    obtain ⟨t18, h18, hf⟩ := bb_bind hf
    refine bb_iaload dX8_holds_18 h18 ?_
    obtain ⟨g19, h19, hf⟩ := bb_bind hf
    refine bb_iastore dX8_holds_19 h19 ?_
    refine bb_iinc (v := x1 + 1) (L' := [.ref x0, .int (x1 + 1)]) dX8_holds_20 rfl rfl (by decide) rfl rfl ?_
    refine bb_goto (tgt := 2) dX8_holds_23 (by decide) ?_
    refine bb_fewer (L' := [.ref x0, .int (x1 + 1)]) (And.intro rfl (And.intro rfl trivial)) ?_
    exact ih _ _ _ hf
set_option maxRecDepth 100000 in
set_option maxHeartbeats 4000000 in
theorem j_X8_holds_0 {r : bb_H} : ∀ (x0 : Nat) (h : bb_H), m_X8_holds x0 h = some r → bb_J RX8 cX8_holds 2 none rm_X8_holds (none, r) 0 [.ref x0, .null] [] h := by
  intro x0 h hf
  unfold m_X8_holds at hf
  refine bb_iconst (v := 0) dX8_holds_0 (by decide) ?_
  refine bb_istore_n (L' := [.ref x0, .int 0]) dX8_holds_1 (by decide) rfl rfl ?_
  refine bb_fewer (L' := [.ref x0, .int 0]) (And.intro rfl (And.intro rfl trivial)) ?_
  exact j_X8_holds_2 _ _ _ _ hf
theorem ok_X8_holds {x0 : Nat} {h : bb_H} {r : bb_H} (hf : m_X8_holds x0 h = some r) : bb_Ok yX8_holds cX8_holds 2 none rm_X8_holds [.ref x0] h (none, r) :=
  bb_ok (L := [.ref x0, .null]) (by decide) (Nat.le_of_ble_eq_true rfl) rfl (bb_fewer (L' := [.ref x0, .null]) (And.intro rfl trivial) (j_X8_holds_0 _ _ hf))
abbrev rm_X8_lets : Room := { frames := 0, cells := 0, slots := 0, locals := 0 }
set_option maxRecDepth 100000 in
set_option maxHeartbeats 4000000 in
theorem j_X8_lets_2 {r : bb_H} : ∀ (n : Nat) (x0 : Nat) (x1 : Int32) (h : bb_H), m_X8_lets_2 n x0 x1 h = some r → bb_J RX8 cX8_lets 2 none rm_X8_lets (none, r) 2 [.ref x0, .int x1] [] h := by
  intro n
  induction n with
  | zero =>
    intro x0 x1 h hf
    exact absurd hf (fun z => by cases z)
  | succ n ih =>
    intro x0 x1 h hf
    unfold m_X8_lets_2 at hf
    refine bb_iload_n dX8_lets_2 rfl ?_
    refine bb_bipush (v := 40) dX8_lets_3 (by decide) ?_
    refine bb_icmp_ge (tgt := 26) dX8_lets_5 (by decide) (fun c5 => ?_) (fun c5 => ?_)
    · rw [if_pos c5] at hf
      obtain rfl := Option.some.inj hf
      exact bb_vret rfl rfl dX8_lets_26
    rw [if_neg c5] at hf
    refine bb_aload_n dX8_lets_8 rfl ?_
    obtain ⟨t9, h9, hf⟩ := bb_bind hf
    refine bb_getR fl_X8_7 dX8_lets_9 h9 ?_
    refine bb_iload_n dX8_lets_12 rfl ?_
    refine bb_aload_n dX8_lets_13 rfl ?_
    obtain ⟨t14, h14, hf⟩ := bb_bind hf
    refine bb_getR fl_X8_38 dX8_lets_14 h14 ?_
    refine bb_iload_n dX8_lets_17 rfl ?_
    obtain ⟨t18, h18, hf⟩ := bb_bind hf
    refine bb_iaload dX8_lets_18 h18 ?_
    obtain ⟨g19, h19, hf⟩ := bb_bind hf
    refine bb_iastore dX8_lets_19 h19 ?_
    refine bb_iinc (v := x1 + 1) (L' := [.ref x0, .int (x1 + 1)]) dX8_lets_20 rfl rfl (by decide) rfl rfl ?_
    refine bb_goto (tgt := 2) dX8_lets_23 (by decide) ?_
    refine bb_fewer (L' := [.ref x0, .int (x1 + 1)]) (And.intro rfl (And.intro rfl trivial)) ?_
    exact ih _ _ _ hf
set_option maxRecDepth 100000 in
set_option maxHeartbeats 4000000 in
theorem j_X8_lets_0 {r : bb_H} : ∀ (x0 : Nat) (h : bb_H), m_X8_lets x0 h = some r → bb_J RX8 cX8_lets 2 none rm_X8_lets (none, r) 0 [.ref x0, .null] [] h := by
  intro x0 h hf
  unfold m_X8_lets at hf
  refine bb_iconst (v := 0) dX8_lets_0 (by decide) ?_
  refine bb_istore_n (L' := [.ref x0, .int 0]) dX8_lets_1 (by decide) rfl rfl ?_
  refine bb_fewer (L' := [.ref x0, .int 0]) (And.intro rfl (And.intro rfl trivial)) ?_
  exact j_X8_lets_2 _ _ _ _ hf
theorem ok_X8_lets {x0 : Nat} {h : bb_H} {r : bb_H} (hf : m_X8_lets x0 h = some r) : bb_Ok yX8_lets cX8_lets 2 none rm_X8_lets [.ref x0] h (none, r) :=
  bb_ok (L := [.ref x0, .null]) (by decide) (Nat.le_of_ble_eq_true rfl) rfl (bb_fewer (L' := [.ref x0, .null]) (And.intro rfl trivial) (j_X8_lets_0 _ _ hf))
abbrev rm_X8_ahead : Room := { frames := 5, cells := 0, slots := 0, locals := 113 }
set_option maxRecDepth 100000 in
set_option maxHeartbeats 4000000 in
theorem j_X8_ahead_18 {r : Int32 × bb_H} : ∀ (h : bb_H), m_X8_ahead_18 h = some r → bb_J RX8 cX8_ahead 4 (some .int) rm_X8_ahead (some (.int r.1), r.2) 18 [.null, .null, .null, .null] [] h := by
  intro h hf
  unfold m_X8_ahead_18 at hf
  refine bb_iconst (v := (-1)) dX8_ahead_18 (by decide) ?_
  obtain rfl := Option.some.inj hf
  exact bb_iret rfl rfl dX8_ahead_19
set_option maxRecDepth 100000 in
set_option maxHeartbeats 4000000 in
theorem j_X8_ahead_26 {r : Int32 × bb_H} : ∀ (n : Nat) (x0 : Nat) (x1 : Int32) (x2 : Int32) (x3 : Int32) (h : bb_H), m_X8_ahead_26 n x0 x1 x2 x3 h = some r → bb_J RX8 cX8_ahead 4 (some .int) rm_X8_ahead (some (.int r.1), r.2) 26 [.ref x0, .int x1, .int x2, .int x3] [] h := by
  intro n
  induction n with
  | zero =>
    intro x0 x1 x2 x3 h hf
    exact absurd hf (fun z => by cases z)
  | succ n ih =>
    intro x0 x1 x2 x3 h hf
    unfold m_X8_ahead_26 at hf
    refine bb_iload_n dX8_ahead_26 rfl ?_
    refine bb_iload_n dX8_ahead_27 rfl ?_
    refine bb_icmp_ge (tgt := 41) dX8_ahead_28 (by decide) (fun c28 => ?_) (fun c28 => ?_)
    · rw [if_pos c28] at hf
      refine bb_aload_n dX8_ahead_41 rfl ?_
      obtain ⟨t42, h42, hf⟩ := bb_bind hf
      refine bb_getR fl_X8_7 dX8_ahead_42 h42 ?_
      refine bb_iconst (v := 4) dX8_ahead_45 (by decide) ?_
      refine bb_iload_n dX8_ahead_46 rfl ?_
      refine bb_iadd dX8_ahead_47 ?_
      obtain ⟨t48, h48, hf⟩ := bb_bind hf
      refine bb_iaload dX8_ahead_48 h48 ?_
      refine bb_istore_n (L' := [.ref x0, .int x1, .int x2, .int t48]) dX8_ahead_49 (by decide) rfl rfl ?_
      refine bb_aload_n dX8_ahead_50 rfl ?_
      obtain ⟨g51, h51, hf⟩ := bb_bind hf
      obtain ⟨⟨v51, b51⟩, h51⟩ := bb_rcv_spec h51
      refine bb_invV (ci := 8) (as := []) iv_X8_135 (by unfold bb_rr; decide) rfl dX8_ahead_51 rfl rfl b51 (Nat.le_of_ble_eq_true rfl) (ok_X8_lets h51) ?_
      refine bb_iload_n dX8_ahead_54 rfl ?_
      obtain rfl := Option.some.inj hf
      exact bb_iret rfl rfl dX8_ahead_55
    rw [if_neg c28] at hf
    refine bb_aload_n dX8_ahead_31 rfl ?_
    obtain ⟨g32, h32, hf⟩ := bb_bind hf
    obtain ⟨⟨v32, b32⟩, h32⟩ := bb_rcv_spec h32
    refine bb_invV (ci := 8) (as := []) iv_X8_122 (by unfold bb_rr; decide) rfl dX8_ahead_32 rfl rfl b32 (Nat.le_of_ble_eq_true rfl) (ok_X8_passes h32) ?_
    refine bb_iinc (v := x3 + 1) (L' := [.ref x0, .int x1, .int x2, .int (x3 + 1)]) dX8_ahead_35 rfl rfl (by decide) rfl rfl ?_
    refine bb_goto (tgt := 26) dX8_ahead_38 (by decide) ?_
    refine bb_fewer (L' := [.ref x0, .int x1, .int x2, .int (x3 + 1)]) (And.intro rfl (And.intro rfl (And.intro rfl (And.intro rfl trivial)))) ?_
    exact ih _ _ _ _ _ hf
set_option maxRecDepth 100000 in
set_option maxHeartbeats 4000000 in
theorem j_X8_ahead_0 {r : Int32 × bb_H} : ∀ (x0 : Nat) (x1 : Int32) (x2 : Int32) (h : bb_H), m_X8_ahead x0 x1 x2 h = some r → bb_J RX8 cX8_ahead 4 (some .int) rm_X8_ahead (some (.int r.1), r.2) 0 [.ref x0, .int x1, .int x2, .null] [] h := by
  intro x0 x1 x2 h hf
  unfold m_X8_ahead at hf
  refine bb_aload_n dX8_ahead_0 rfl ?_
  refine bb_iload_n dX8_ahead_1 rfl ?_
  obtain ⟨r2, h2, hf⟩ := bb_bind hf
  obtain ⟨⟨v2, b2⟩, h2⟩ := bb_rcv_spec h2
  refine bb_invV (ci := 8) (as := [.int x1]) iv_X8_52 (by unfold bb_rr; decide) rfl dX8_ahead_2 rfl rfl b2 (Nat.le_of_ble_eq_true rfl) (ok_X8_isMan h2) ?_
  refine bb_if_eq (tgt := 18) dX8_ahead_5 (by decide) (fun c5 => ?_) (fun c5 => ?_)
  · rw [if_pos c5] at hf
    refine bb_fewer (L' := [.null, .null, .null, .null]) trivial ?_
    exact j_X8_ahead_18 _ hf
  rw [if_neg c5] at hf
  refine bb_iload_n dX8_ahead_8 rfl ?_
  refine bb_iconst (v := 0) dX8_ahead_9 (by decide) ?_
  refine bb_bipush (v := 60) dX8_ahead_10 (by decide) ?_
  obtain ⟨r12, h12, hf⟩ := bb_bind hf
  refine bb_invS (as := [.int x2, .int 0, .int 60]) is_X8_44 (by unfold bb_rr; decide) dX8_ahead_12 rfl rfl (Nat.le_of_ble_eq_true rfl) (ok_X8_in h12) ?_
  refine bb_if_ne (tgt := 20) dX8_ahead_15 (by decide) (fun c15 => ?_) (fun c15 => ?_)
  · rw [if_neg c15] at hf
    refine bb_aload_n dX8_ahead_20 rfl ?_
    obtain ⟨g21, h21, hf⟩ := bb_bind hf
    obtain ⟨⟨v21, b21⟩, h21⟩ := bb_rcv_spec h21
    refine bb_invV (ci := 8) (as := []) iv_X8_132 (by unfold bb_rr; decide) rfl dX8_ahead_21 rfl rfl b21 (Nat.le_of_ble_eq_true rfl) (ok_X8_holds h21) ?_
    refine bb_iconst (v := 0) dX8_ahead_24 (by decide) ?_
    refine bb_istore_n (L' := [.ref x0, .int x1, .int x2, .int 0]) dX8_ahead_25 (by decide) rfl rfl ?_
    refine bb_fewer (L' := [.ref x0, .int x1, .int x2, .int 0]) (And.intro rfl (And.intro rfl (And.intro rfl (And.intro rfl trivial)))) ?_
    exact j_X8_ahead_26 _ _ _ _ _ _ hf
  rw [if_pos c15] at hf
  refine bb_fewer (L' := [.null, .null, .null, .null]) trivial ?_
  exact j_X8_ahead_18 _ hf
theorem ok_X8_ahead {x0 : Nat} {x1 : Int32} {x2 : Int32} {h : bb_H} {r : Int32 × bb_H} (hf : m_X8_ahead x0 x1 x2 h = some r) : bb_Ok yX8_ahead cX8_ahead 4 (some .int) rm_X8_ahead [.ref x0, .int x1, .int x2] h (some (.int r.1), r.2) :=
  bb_ok (L := [.ref x0, .int x1, .int x2, .null]) (by decide) (Nat.le_of_ble_eq_true rfl) rfl (bb_fewer (L' := [.ref x0, .int x1, .int x2, .null]) (And.intro rfl (And.intro rfl (And.intro rfl trivial))) (j_X8_ahead_0 _ _ _ _ hf))
abbrev rm_X8_then : Room := { frames := 5, cells := 0, slots := 0, locals := 113 }
set_option maxRecDepth 100000 in
set_option maxHeartbeats 4000000 in
theorem j_X8_then_18 {r : Int32 × bb_H} : ∀ (n : Nat) (x0 : Nat) (x1 : Int32) (x2 : Int32) (h : bb_H), m_X8_then_18 n x0 x1 x2 h = some r → bb_J RX8 cX8_then 3 (some .int) rm_X8_then (some (.int r.1), r.2) 18 [.ref x0, .int x1, .int x2] [] h := by
  intro n
  induction n with
  | zero =>
    intro x0 x1 x2 h hf
    exact absurd hf (fun z => by cases z)
  | succ n ih =>
    intro x0 x1 x2 h hf
    unfold m_X8_then_18 at hf
    refine bb_iload_n dX8_then_18 rfl ?_
    refine bb_iload_n dX8_then_19 rfl ?_
    refine bb_icmp_ge (tgt := 33) dX8_then_20 (by decide) (fun c20 => ?_) (fun c20 => ?_)
    · rw [if_pos c20] at hf
      refine bb_aload_n dX8_then_33 rfl ?_
      obtain ⟨r34, h34, hf⟩ := bb_bind hf
      obtain ⟨⟨v34, b34⟩, h34⟩ := bb_rcv_spec h34
      refine bb_invV (ci := 8) (as := []) iv_X8_75 (by unfold bb_rr; decide) rfl dX8_then_34 rfl rfl b34 (Nat.le_of_ble_eq_true rfl) (ok_X8_bench h34) ?_
      refine bb_istore_n (L' := [.ref x0, .int x1, .int r34.1]) dX8_then_37 (by decide) rfl rfl ?_
      refine bb_aload_n dX8_then_38 rfl ?_
      obtain ⟨g39, h39, hf⟩ := bb_bind hf
      obtain ⟨⟨v39, b39⟩, h39⟩ := bb_rcv_spec h39
      refine bb_invV (ci := 8) (as := []) iv_X8_135 (by unfold bb_rr; decide) rfl dX8_then_39 rfl rfl b39 (Nat.le_of_ble_eq_true rfl) (ok_X8_lets h39) ?_
      refine bb_iload_n dX8_then_42 rfl ?_
      obtain rfl := Option.some.inj hf
      exact bb_iret rfl rfl dX8_then_43
    rw [if_neg c20] at hf
    refine bb_aload_n dX8_then_23 rfl ?_
    obtain ⟨g24, h24, hf⟩ := bb_bind hf
    obtain ⟨⟨v24, b24⟩, h24⟩ := bb_rcv_spec h24
    refine bb_invV (ci := 8) (as := []) iv_X8_122 (by unfold bb_rr; decide) rfl dX8_then_24 rfl rfl b24 (Nat.le_of_ble_eq_true rfl) (ok_X8_passes h24) ?_
    refine bb_iinc (v := x2 + 1) (L' := [.ref x0, .int x1, .int (x2 + 1)]) dX8_then_27 rfl rfl (by decide) rfl rfl ?_
    refine bb_goto (tgt := 18) dX8_then_30 (by decide) ?_
    refine bb_fewer (L' := [.ref x0, .int x1, .int (x2 + 1)]) (And.intro rfl (And.intro rfl (And.intro rfl trivial))) ?_
    exact ih _ _ _ _ hf
set_option maxRecDepth 100000 in
set_option maxHeartbeats 4000000 in
theorem j_X8_then_0 {r : Int32 × bb_H} : ∀ (x0 : Nat) (x1 : Int32) (h : bb_H), m_X8_then x0 x1 h = some r → bb_J RX8 cX8_then 3 (some .int) rm_X8_then (some (.int r.1), r.2) 0 [.ref x0, .int x1, .null] [] h := by
  intro x0 x1 h hf
  unfold m_X8_then at hf
  refine bb_iload_n dX8_then_0 rfl ?_
  refine bb_iconst (v := 0) dX8_then_1 (by decide) ?_
  refine bb_bipush (v := 60) dX8_then_2 (by decide) ?_
  obtain ⟨r4, h4, hf⟩ := bb_bind hf
  refine bb_invS (as := [.int x1, .int 0, .int 60]) is_X8_44 (by unfold bb_rr; decide) dX8_then_4 rfl rfl (Nat.le_of_ble_eq_true rfl) (ok_X8_in h4) ?_
  refine bb_if_ne (tgt := 12) dX8_then_7 (by decide) (fun c7 => ?_) (fun c7 => ?_)
  · rw [if_neg c7] at hf
    refine bb_aload_n dX8_then_12 rfl ?_
    obtain ⟨g13, h13, hf⟩ := bb_bind hf
    obtain ⟨⟨v13, b13⟩, h13⟩ := bb_rcv_spec h13
    refine bb_invV (ci := 8) (as := []) iv_X8_132 (by unfold bb_rr; decide) rfl dX8_then_13 rfl rfl b13 (Nat.le_of_ble_eq_true rfl) (ok_X8_holds h13) ?_
    refine bb_iconst (v := 0) dX8_then_16 (by decide) ?_
    refine bb_istore_n (L' := [.ref x0, .int x1, .int 0]) dX8_then_17 (by decide) rfl rfl ?_
    refine bb_fewer (L' := [.ref x0, .int x1, .int 0]) (And.intro rfl (And.intro rfl (And.intro rfl trivial))) ?_
    exact j_X8_then_18 _ _ _ _ _ hf
  rw [if_pos c7] at hf
  refine bb_iconst (v := (-1)) dX8_then_10 (by decide) ?_
  obtain rfl := Option.some.inj hf
  exact bb_iret rfl rfl dX8_then_11
theorem ok_X8_then {x0 : Nat} {x1 : Int32} {h : bb_H} {r : Int32 × bb_H} (hf : m_X8_then x0 x1 h = some r) : bb_Ok yX8_then cX8_then 3 (some .int) rm_X8_then [.ref x0, .int x1] h (some (.int r.1), r.2) :=
  bb_ok (L := [.ref x0, .int x1, .null]) (by decide) (Nat.le_of_ble_eq_true rfl) rfl (bb_fewer (L' := [.ref x0, .int x1, .null]) (And.intro rfl (And.intro rfl trivial)) (j_X8_then_0 _ _ _ hf))
abbrev rm_X8_ends : Room := { frames := 5, cells := 0, slots := 0, locals := 113 }
set_option maxRecDepth 100000 in
set_option maxHeartbeats 4000000 in
theorem j_X8_ends_58 {r : Int32 × bb_H} : ∀ (z0 : Int32) (h : bb_H), m_X8_ends_58 z0 h = some r → bb_J RX8 cX8_ends 3 (some .int) rm_X8_ends (some (.int r.1), r.2) 58 [.null, .null, .null] [.int z0] h := by
  intro z0 h hf
  unfold m_X8_ends_58 at hf
  obtain rfl := Option.some.inj hf
  exact bb_iret rfl rfl dX8_ends_58
set_option maxRecDepth 100000 in
set_option maxHeartbeats 4000000 in
theorem j_X8_ends_42 {r : Int32 × bb_H} : ∀ (x0 : Nat) (x2 : Int32) (h : bb_H), m_X8_ends_42 x0 x2 h = some r → bb_J RX8 cX8_ends 3 (some .int) rm_X8_ends (some (.int r.1), r.2) 42 [.ref x0, .null, .int x2] [] h := by
  intro x0 x2 h hf
  unfold m_X8_ends_42 at hf
  refine bb_aload_n dX8_ends_42 rfl ?_
  obtain ⟨g43, h43, hf⟩ := bb_bind hf
  obtain ⟨⟨v43, b43⟩, h43⟩ := bb_rcv_spec h43
  refine bb_invV (ci := 8) (as := []) iv_X8_135 (by unfold bb_rr; decide) rfl dX8_ends_43 rfl rfl b43 (Nat.le_of_ble_eq_true rfl) (ok_X8_lets h43) ?_
  refine bb_iload_n dX8_ends_46 rfl ?_
  refine bb_bipush (v := 60) dX8_ends_47 (by decide) ?_
  refine bb_icmp_le (tgt := 57) dX8_ends_49 (by decide) (fun c49 => ?_) (fun c49 => ?_)
  · rw [if_pos c49] at hf
    refine bb_iload_n dX8_ends_57 rfl ?_
    refine bb_fewer (L' := [.null, .null, .null]) trivial ?_
    exact j_X8_ends_58 _ _ hf
  rw [if_neg c49] at hf
  refine bb_bipush (v := (-4)) dX8_ends_52 (by decide) ?_
  refine bb_goto (tgt := 58) dX8_ends_54 (by decide) ?_
  refine bb_fewer (L' := [.null, .null, .null]) trivial ?_
  exact j_X8_ends_58 _ _ hf
set_option maxRecDepth 100000 in
set_option maxHeartbeats 4000000 in
theorem j_X8_ends_16 {r : Int32 × bb_H} : ∀ (n : Nat) (x0 : Nat) (x1 : Int32) (x2 : Int32) (h : bb_H), m_X8_ends_16 n x0 x1 x2 h = some r → bb_J RX8 cX8_ends 3 (some .int) rm_X8_ends (some (.int r.1), r.2) 16 [.ref x0, .int x1, .int x2] [] h := by
  intro n
  induction n with
  | zero =>
    intro x0 x1 x2 h hf
    exact absurd hf (fun z => by cases z)
  | succ n ih =>
    intro x0 x1 x2 h hf
    unfold m_X8_ends_16 at hf
    refine bb_iload_n dX8_ends_16 rfl ?_
    refine bb_bipush (v := 60) dX8_ends_17 (by decide) ?_
    refine bb_icmp_gt (tgt := 42) dX8_ends_19 (by decide) (fun c19 => ?_) (fun c19 => ?_)
    · rw [if_pos c19] at hf
      refine bb_fewer (L' := [.ref x0, .null, .int x2]) (And.intro rfl (And.intro rfl trivial)) ?_
      exact j_X8_ends_42 _ _ _ hf
    rw [if_neg c19] at hf
    refine bb_aload_n dX8_ends_22 rfl ?_
    refine bb_iload_n dX8_ends_23 rfl ?_
    obtain ⟨r24, h24, hf⟩ := bb_bind hf
    obtain ⟨⟨v24, b24⟩, h24⟩ := bb_rcv_spec h24
    refine bb_invV (ci := 8) (as := [.int x1]) iv_X8_59 (by unfold bb_rr; decide) rfl dX8_ends_24 rfl rfl b24 (Nat.le_of_ble_eq_true rfl) (ok_X8_seatOf h24) ?_
    refine bb_bipush (v := (-4)) dX8_ends_27 (by decide) ?_
    refine bb_icmp_eq (tgt := 42) dX8_ends_29 (by decide) (fun c29 => ?_) (fun c29 => ?_)
    · rw [if_pos c29] at hf
      refine bb_fewer (L' := [.ref x0, .null, .int x2]) (And.intro rfl (And.intro rfl trivial)) ?_
      exact j_X8_ends_42 _ _ _ hf
    rw [if_neg c29] at hf
    refine bb_aload_n dX8_ends_32 rfl ?_
    obtain ⟨g33, h33, hf⟩ := bb_bind hf
    obtain ⟨⟨v33, b33⟩, h33⟩ := bb_rcv_spec h33
    refine bb_invV (ci := 8) (as := []) iv_X8_122 (by unfold bb_rr; decide) rfl dX8_ends_33 rfl rfl b33 (Nat.le_of_ble_eq_true rfl) (ok_X8_passes h33) ?_
    refine bb_iinc (v := x2 + 1) (L' := [.ref x0, .int x1, .int (x2 + 1)]) dX8_ends_36 rfl rfl (by decide) rfl rfl ?_
    refine bb_goto (tgt := 16) dX8_ends_39 (by decide) ?_
    refine bb_fewer (L' := [.ref x0, .int x1, .int (x2 + 1)]) (And.intro rfl (And.intro rfl (And.intro rfl trivial))) ?_
    exact ih _ _ _ _ hf
set_option maxRecDepth 100000 in
set_option maxHeartbeats 4000000 in
theorem j_X8_ends_0 {r : Int32 × bb_H} : ∀ (x0 : Nat) (x1 : Int32) (h : bb_H), m_X8_ends x0 x1 h = some r → bb_J RX8 cX8_ends 3 (some .int) rm_X8_ends (some (.int r.1), r.2) 0 [.ref x0, .int x1, .null] [] h := by
  intro x0 x1 h hf
  unfold m_X8_ends at hf
  refine bb_aload_n dX8_ends_0 rfl ?_
  refine bb_iload_n dX8_ends_1 rfl ?_
  obtain ⟨r2, h2, hf⟩ := bb_bind hf
  obtain ⟨⟨v2, b2⟩, h2⟩ := bb_rcv_spec h2
  refine bb_invV (ci := 8) (as := [.int x1]) iv_X8_52 (by unfold bb_rr; decide) rfl dX8_ends_2 rfl rfl b2 (Nat.le_of_ble_eq_true rfl) (ok_X8_isMan h2) ?_
  refine bb_if_ne (tgt := 10) dX8_ends_5 (by decide) (fun c5 => ?_) (fun c5 => ?_)
  · rw [if_neg c5] at hf
    refine bb_aload_n dX8_ends_10 rfl ?_
    obtain ⟨g11, h11, hf⟩ := bb_bind hf
    obtain ⟨⟨v11, b11⟩, h11⟩ := bb_rcv_spec h11
    refine bb_invV (ci := 8) (as := []) iv_X8_132 (by unfold bb_rr; decide) rfl dX8_ends_11 rfl rfl b11 (Nat.le_of_ble_eq_true rfl) (ok_X8_holds h11) ?_
    refine bb_iconst (v := 0) dX8_ends_14 (by decide) ?_
    refine bb_istore_n (L' := [.ref x0, .int x1, .int 0]) dX8_ends_15 (by decide) rfl rfl ?_
    refine bb_fewer (L' := [.ref x0, .int x1, .int 0]) (And.intro rfl (And.intro rfl (And.intro rfl trivial))) ?_
    exact j_X8_ends_16 _ _ _ _ _ hf
  rw [if_pos c5] at hf
  refine bb_iconst (v := (-1)) dX8_ends_8 (by decide) ?_
  obtain rfl := Option.some.inj hf
  exact bb_iret rfl rfl dX8_ends_9
theorem ok_X8_ends {x0 : Nat} {x1 : Int32} {h : bb_H} {r : Int32 × bb_H} (hf : m_X8_ends x0 x1 h = some r) : bb_Ok yX8_ends cX8_ends 3 (some .int) rm_X8_ends [.ref x0, .int x1] h (some (.int r.1), r.2) :=
  bb_ok (L := [.ref x0, .int x1, .null]) (by decide) (Nat.le_of_ble_eq_true rfl) rfl (bb_fewer (L' := [.ref x0, .int x1, .null]) (And.intro rfl (And.intro rfl trivial)) (j_X8_ends_0 _ _ _ hf))
abbrev rm_X8_lonely : Room := { frames := 5, cells := 0, slots := 0, locals := 113 }
set_option maxRecDepth 100000 in
set_option maxHeartbeats 4000000 in
theorem j_X8_lonely_48 {r : Int32 × bb_H} : ∀ (z0 : Int32) (h : bb_H), m_X8_lonely_48 z0 h = some r → bb_J RX8 cX8_lonely 2 (some .int) rm_X8_lonely (some (.int r.1), r.2) 48 [.null, .null] [.int z0] h := by
  intro z0 h hf
  unfold m_X8_lonely_48 at hf
  obtain rfl := Option.some.inj hf
  exact bb_iret rfl rfl dX8_lonely_48
set_option maxRecDepth 100000 in
set_option maxHeartbeats 4000000 in
theorem j_X8_lonely_32 {r : Int32 × bb_H} : ∀ (x0 : Nat) (x1 : Int32) (h : bb_H), m_X8_lonely_32 x0 x1 h = some r → bb_J RX8 cX8_lonely 2 (some .int) rm_X8_lonely (some (.int r.1), r.2) 32 [.ref x0, .int x1] [] h := by
  intro x0 x1 h hf
  unfold m_X8_lonely_32 at hf
  refine bb_aload_n dX8_lonely_32 rfl ?_
  obtain ⟨g33, h33, hf⟩ := bb_bind hf
  obtain ⟨⟨v33, b33⟩, h33⟩ := bb_rcv_spec h33
  refine bb_invV (ci := 8) (as := []) iv_X8_135 (by unfold bb_rr; decide) rfl dX8_lonely_33 rfl rfl b33 (Nat.le_of_ble_eq_true rfl) (ok_X8_lets h33) ?_
  refine bb_iload_n dX8_lonely_36 rfl ?_
  refine bb_bipush (v := 60) dX8_lonely_37 (by decide) ?_
  refine bb_icmp_le (tgt := 47) dX8_lonely_39 (by decide) (fun c39 => ?_) (fun c39 => ?_)
  · rw [if_pos c39] at hf
    refine bb_iload_n dX8_lonely_47 rfl ?_
    refine bb_fewer (L' := [.null, .null]) trivial ?_
    exact j_X8_lonely_48 _ _ hf
  rw [if_neg c39] at hf
  refine bb_bipush (v := (-4)) dX8_lonely_42 (by decide) ?_
  refine bb_goto (tgt := 48) dX8_lonely_44 (by decide) ?_
  refine bb_fewer (L' := [.null, .null]) trivial ?_
  exact j_X8_lonely_48 _ _ hf
set_option maxRecDepth 100000 in
set_option maxHeartbeats 4000000 in
theorem j_X8_lonely_6 {r : Int32 × bb_H} : ∀ (n : Nat) (x0 : Nat) (x1 : Int32) (h : bb_H), m_X8_lonely_6 n x0 x1 h = some r → bb_J RX8 cX8_lonely 2 (some .int) rm_X8_lonely (some (.int r.1), r.2) 6 [.ref x0, .int x1] [] h := by
  intro n
  induction n with
  | zero =>
    intro x0 x1 h hf
    exact absurd hf (fun z => by cases z)
  | succ n ih =>
    intro x0 x1 h hf
    unfold m_X8_lonely_6 at hf
    refine bb_iload_n dX8_lonely_6 rfl ?_
    refine bb_bipush (v := 60) dX8_lonely_7 (by decide) ?_
    refine bb_icmp_gt (tgt := 32) dX8_lonely_9 (by decide) (fun c9 => ?_) (fun c9 => ?_)
    · rw [if_pos c9] at hf
      refine bb_fewer (L' := [.ref x0, .int x1]) (And.intro rfl (And.intro rfl trivial)) ?_
      exact j_X8_lonely_32 _ _ _ hf
    rw [if_neg c9] at hf
    refine bb_aload_n dX8_lonely_12 rfl ?_
    obtain ⟨t13, h13, hf⟩ := bb_bind hf
    refine bb_getR fl_X8_7 dX8_lonely_13 h13 ?_
    refine bb_iconst (v := 1) dX8_lonely_16 (by decide) ?_
    obtain ⟨t17, h17, hf⟩ := bb_bind hf
    refine bb_iaload dX8_lonely_17 h17 ?_
    refine bb_iconst (v := 1) dX8_lonely_18 (by decide) ?_
    refine bb_icmp_le (tgt := 32) dX8_lonely_19 (by decide) (fun c19 => ?_) (fun c19 => ?_)
    · rw [if_pos c19] at hf
      refine bb_fewer (L' := [.ref x0, .int x1]) (And.intro rfl (And.intro rfl trivial)) ?_
      exact j_X8_lonely_32 _ _ _ hf
    rw [if_neg c19] at hf
    refine bb_aload_n dX8_lonely_22 rfl ?_
    obtain ⟨g23, h23, hf⟩ := bb_bind hf
    obtain ⟨⟨v23, b23⟩, h23⟩ := bb_rcv_spec h23
    refine bb_invV (ci := 8) (as := []) iv_X8_122 (by unfold bb_rr; decide) rfl dX8_lonely_23 rfl rfl b23 (Nat.le_of_ble_eq_true rfl) (ok_X8_passes h23) ?_
    refine bb_iinc (v := x1 + 1) (L' := [.ref x0, .int (x1 + 1)]) dX8_lonely_26 rfl rfl (by decide) rfl rfl ?_
    refine bb_goto (tgt := 6) dX8_lonely_29 (by decide) ?_
    refine bb_fewer (L' := [.ref x0, .int (x1 + 1)]) (And.intro rfl (And.intro rfl trivial)) ?_
    exact ih _ _ _ hf
set_option maxRecDepth 100000 in
set_option maxHeartbeats 4000000 in
theorem j_X8_lonely_0 {r : Int32 × bb_H} : ∀ (x0 : Nat) (h : bb_H), m_X8_lonely x0 h = some r → bb_J RX8 cX8_lonely 2 (some .int) rm_X8_lonely (some (.int r.1), r.2) 0 [.ref x0, .null] [] h := by
  intro x0 h hf
  unfold m_X8_lonely at hf
  refine bb_aload_n dX8_lonely_0 rfl ?_
  obtain ⟨g1, h1, hf⟩ := bb_bind hf
  obtain ⟨⟨v1, b1⟩, h1⟩ := bb_rcv_spec h1
  refine bb_invV (ci := 8) (as := []) iv_X8_132 (by unfold bb_rr; decide) rfl dX8_lonely_1 rfl rfl b1 (Nat.le_of_ble_eq_true rfl) (ok_X8_holds h1) ?_
  refine bb_iconst (v := 0) dX8_lonely_4 (by decide) ?_
  refine bb_istore_n (L' := [.ref x0, .int 0]) dX8_lonely_5 (by decide) rfl rfl ?_
  refine bb_fewer (L' := [.ref x0, .int 0]) (And.intro rfl (And.intro rfl trivial)) ?_
  exact j_X8_lonely_6 _ _ _ _ hf
theorem ok_X8_lonely {x0 : Nat} {h : bb_H} {r : Int32 × bb_H} (hf : m_X8_lonely x0 h = some r) : bb_Ok yX8_lonely cX8_lonely 2 (some .int) rm_X8_lonely [.ref x0] h (some (.int r.1), r.2) :=
  bb_ok (L := [.ref x0, .null]) (by decide) (Nat.le_of_ble_eq_true rfl) rfl (bb_fewer (L' := [.ref x0, .null]) (And.intro rfl trivial) (j_X8_lonely_0 _ _ hf))
abbrev rm_X8_close : Room := { frames := 5, cells := 0, slots := 0, locals := 113 }
set_option maxRecDepth 100000 in
set_option maxHeartbeats 4000000 in
theorem j_X8_close_21 {r : Int32 × bb_H} : ∀ (h : bb_H), m_X8_close_21 h = some r → bb_J RX8 cX8_close 4 (some .int) rm_X8_close (some (.int r.1), r.2) 21 [.null, .null, .null, .null] [] h := by
  intro h hf
  unfold m_X8_close_21 at hf
  refine bb_iconst (v := (-1)) dX8_close_21 (by decide) ?_
  obtain rfl := Option.some.inj hf
  exact bb_iret rfl rfl dX8_close_22
set_option maxRecDepth 100000 in
set_option maxHeartbeats 4000000 in
theorem j_X8_close_73 {r : Int32 × bb_H} : ∀ (z0 : Int32) (h : bb_H), m_X8_close_73 z0 h = some r → bb_J RX8 cX8_close 4 (some .int) rm_X8_close (some (.int r.1), r.2) 73 [.null, .null, .null, .null] [.int z0] h := by
  intro z0 h hf
  unfold m_X8_close_73 at hf
  obtain rfl := Option.some.inj hf
  exact bb_iret rfl rfl dX8_close_73
set_option maxRecDepth 100000 in
set_option maxHeartbeats 4000000 in
theorem j_X8_close_57 {r : Int32 × bb_H} : ∀ (x0 : Nat) (x3 : Int32) (h : bb_H), m_X8_close_57 x0 x3 h = some r → bb_J RX8 cX8_close 4 (some .int) rm_X8_close (some (.int r.1), r.2) 57 [.ref x0, .null, .null, .int x3] [] h := by
  intro x0 x3 h hf
  unfold m_X8_close_57 at hf
  refine bb_aload_n dX8_close_57 rfl ?_
  obtain ⟨g58, h58, hf⟩ := bb_bind hf
  obtain ⟨⟨v58, b58⟩, h58⟩ := bb_rcv_spec h58
  refine bb_invV (ci := 8) (as := []) iv_X8_135 (by unfold bb_rr; decide) rfl dX8_close_58 rfl rfl b58 (Nat.le_of_ble_eq_true rfl) (ok_X8_lets h58) ?_
  refine bb_iload_n dX8_close_61 rfl ?_
  refine bb_bipush (v := 60) dX8_close_62 (by decide) ?_
  refine bb_icmp_le (tgt := 72) dX8_close_64 (by decide) (fun c64 => ?_) (fun c64 => ?_)
  · rw [if_pos c64] at hf
    refine bb_iload_n dX8_close_72 rfl ?_
    refine bb_fewer (L' := [.null, .null, .null, .null]) trivial ?_
    exact j_X8_close_73 _ _ hf
  rw [if_neg c64] at hf
  refine bb_bipush (v := (-4)) dX8_close_67 (by decide) ?_
  refine bb_goto (tgt := 73) dX8_close_69 (by decide) ?_
  refine bb_fewer (L' := [.null, .null, .null, .null]) trivial ?_
  exact j_X8_close_73 _ _ hf
set_option maxRecDepth 100000 in
set_option maxHeartbeats 4000000 in
theorem j_X8_close_29 {r : Int32 × bb_H} : ∀ (n : Nat) (x0 : Nat) (x1 : Int32) (x2 : Int32) (x3 : Int32) (h : bb_H), m_X8_close_29 n x0 x1 x2 x3 h = some r → bb_J RX8 cX8_close 4 (some .int) rm_X8_close (some (.int r.1), r.2) 29 [.ref x0, .int x1, .int x2, .int x3] [] h := by
  intro n
  induction n with
  | zero =>
    intro x0 x1 x2 x3 h hf
    exact absurd hf (fun z => by cases z)
  | succ n ih =>
    intro x0 x1 x2 x3 h hf
    unfold m_X8_close_29 at hf
    refine bb_iload_n dX8_close_29 rfl ?_
    refine bb_bipush (v := 60) dX8_close_30 (by decide) ?_
    refine bb_icmp_gt (tgt := 57) dX8_close_32 (by decide) (fun c32 => ?_) (fun c32 => ?_)
    · rw [if_pos c32] at hf
      refine bb_fewer (L' := [.ref x0, .null, .null, .int x3]) (And.intro rfl (And.intro rfl trivial)) ?_
      exact j_X8_close_57 _ _ _ hf
    rw [if_neg c32] at hf
    refine bb_aload_n dX8_close_35 rfl ?_
    refine bb_iload_n dX8_close_36 rfl ?_
    obtain ⟨r37, h37, hf⟩ := bb_bind hf
    obtain ⟨⟨v37, b37⟩, h37⟩ := bb_rcv_spec h37
    refine bb_invV (ci := 8) (as := [.int x1]) iv_X8_66 (by unfold bb_rr; decide) rfl dX8_close_37 rfl rfl b37 (Nat.le_of_ble_eq_true rfl) (ok_X8_allSitBy h37) ?_
    refine bb_iload_n dX8_close_40 rfl ?_
    obtain ⟨r41, h41, hf⟩ := bb_bind hf
    refine bb_invS (as := [.int r37.1, .int x2]) is_X8_79 (by unfold bb_rr; decide) dX8_close_41 rfl rfl (Nat.le_of_ble_eq_true rfl) (ok_X8_has h41) ?_
    refine bb_if_ne (tgt := 57) dX8_close_44 (by decide) (fun c44 => ?_) (fun c44 => ?_)
    · rw [if_neg c44] at hf
      refine bb_fewer (L' := [.ref x0, .null, .null, .int x3]) (And.intro rfl (And.intro rfl trivial)) ?_
      exact j_X8_close_57 _ _ _ hf
    rw [if_pos c44] at hf
    refine bb_aload_n dX8_close_47 rfl ?_
    obtain ⟨g48, h48, hf⟩ := bb_bind hf
    obtain ⟨⟨v48, b48⟩, h48⟩ := bb_rcv_spec h48
    refine bb_invV (ci := 8) (as := []) iv_X8_122 (by unfold bb_rr; decide) rfl dX8_close_48 rfl rfl b48 (Nat.le_of_ble_eq_true rfl) (ok_X8_passes h48) ?_
    refine bb_iinc (v := x3 + 1) (L' := [.ref x0, .int x1, .int x2, .int (x3 + 1)]) dX8_close_51 rfl rfl (by decide) rfl rfl ?_
    refine bb_goto (tgt := 29) dX8_close_54 (by decide) ?_
    refine bb_fewer (L' := [.ref x0, .int x1, .int x2, .int (x3 + 1)]) (And.intro rfl (And.intro rfl (And.intro rfl (And.intro rfl trivial)))) ?_
    exact ih _ _ _ _ _ hf
set_option maxRecDepth 100000 in
set_option maxHeartbeats 4000000 in
theorem j_X8_close_0 {r : Int32 × bb_H} : ∀ (x0 : Nat) (x1 : Int32) (x2 : Int32) (h : bb_H), m_X8_close x0 x1 x2 h = some r → bb_J RX8 cX8_close 4 (some .int) rm_X8_close (some (.int r.1), r.2) 0 [.ref x0, .int x1, .int x2, .null] [] h := by
  intro x0 x1 x2 h hf
  unfold m_X8_close at hf
  refine bb_aload_n dX8_close_0 rfl ?_
  refine bb_iload_n dX8_close_1 rfl ?_
  obtain ⟨r2, h2, hf⟩ := bb_bind hf
  obtain ⟨⟨v2, b2⟩, h2⟩ := bb_rcv_spec h2
  refine bb_invV (ci := 8) (as := [.int x1]) iv_X8_52 (by unfold bb_rr; decide) rfl dX8_close_2 rfl rfl b2 (Nat.le_of_ble_eq_true rfl) (ok_X8_isMan h2) ?_
  refine bb_if_eq (tgt := 21) dX8_close_5 (by decide) (fun c5 => ?_) (fun c5 => ?_)
  · rw [if_pos c5] at hf
    refine bb_fewer (L' := [.null, .null, .null, .null]) trivial ?_
    exact j_X8_close_21 _ hf
  rw [if_neg c5] at hf
  refine bb_aload_n dX8_close_8 rfl ?_
  refine bb_iload_n dX8_close_9 rfl ?_
  obtain ⟨r10, h10, hf⟩ := bb_bind hf
  obtain ⟨⟨v10, b10⟩, h10⟩ := bb_rcv_spec h10
  refine bb_invV (ci := 8) (as := [.int x2]) iv_X8_52 (by unfold bb_rr; decide) rfl dX8_close_10 rfl rfl b10 (Nat.le_of_ble_eq_true rfl) (ok_X8_isMan h10) ?_
  refine bb_if_eq (tgt := 21) dX8_close_13 (by decide) (fun c13 => ?_) (fun c13 => ?_)
  · rw [if_pos c13] at hf
    refine bb_fewer (L' := [.null, .null, .null, .null]) trivial ?_
    exact j_X8_close_21 _ hf
  rw [if_neg c13] at hf
  refine bb_iload_n dX8_close_16 rfl ?_
  refine bb_iload_n dX8_close_17 rfl ?_
  refine bb_icmp_ne (tgt := 23) dX8_close_18 (by decide) (fun c18 => ?_) (fun c18 => ?_)
  · rw [if_neg c18] at hf
    refine bb_aload_n dX8_close_23 rfl ?_
    obtain ⟨g24, h24, hf⟩ := bb_bind hf
    obtain ⟨⟨v24, b24⟩, h24⟩ := bb_rcv_spec h24
    refine bb_invV (ci := 8) (as := []) iv_X8_132 (by unfold bb_rr; decide) rfl dX8_close_24 rfl rfl b24 (Nat.le_of_ble_eq_true rfl) (ok_X8_holds h24) ?_
    refine bb_iconst (v := 0) dX8_close_27 (by decide) ?_
    refine bb_istore_n (L' := [.ref x0, .int x1, .int x2, .int 0]) dX8_close_28 (by decide) rfl rfl ?_
    refine bb_fewer (L' := [.ref x0, .int x1, .int x2, .int 0]) (And.intro rfl (And.intro rfl (And.intro rfl (And.intro rfl trivial)))) ?_
    exact j_X8_close_29 _ _ _ _ _ _ hf
  rw [if_pos c18] at hf
  refine bb_fewer (L' := [.null, .null, .null, .null]) trivial ?_
  exact j_X8_close_21 _ hf
theorem ok_X8_close {x0 : Nat} {x1 : Int32} {x2 : Int32} {h : bb_H} {r : Int32 × bb_H} (hf : m_X8_close x0 x1 x2 h = some r) : bb_Ok yX8_close cX8_close 4 (some .int) rm_X8_close [.ref x0, .int x1, .int x2] h (some (.int r.1), r.2) :=
  bb_ok (L := [.ref x0, .int x1, .int x2, .null]) (by decide) (Nat.le_of_ble_eq_true rfl) rfl (bb_fewer (L' := [.ref x0, .int x1, .int x2, .null]) (And.intro rfl (And.intro rfl (And.intro rfl trivial))) (j_X8_close_0 _ _ _ _ hf))
abbrev rm_X8_placeOn : Room := { frames := 0, cells := 0, slots := 0, locals := 0 }
set_option maxRecDepth 100000 in
set_option maxHeartbeats 4000000 in
theorem j_X8_placeOn_0 {r : Int32 × bb_H} : ∀ (x0 : Nat) (x1 : Int32) (x2 : Int32) (h : bb_H), m_X8_placeOn x0 x1 x2 h = some r → bb_J RX8 cX8_placeOn 3 (some .int) rm_X8_placeOn (some (.int r.1), r.2) 0 [.ref x0, .int x1, .int x2] [] h := by
  intro x0 x1 x2 h hf
  unfold m_X8_placeOn at hf
  refine bb_aload_n dX8_placeOn_0 rfl ?_
  obtain ⟨t1, h1, hf⟩ := bb_bind hf
  refine bb_getR fl_X8_7 dX8_placeOn_1 h1 ?_
  refine bb_bipush (v := 22) dX8_placeOn_4 (by decide) ?_
  refine bb_iconst (v := 3) dX8_placeOn_6 (by decide) ?_
  refine bb_aload_n dX8_placeOn_7 rfl ?_
  obtain ⟨t8, h8, hf⟩ := bb_bind hf
  refine bb_getR fl_X8_7 dX8_placeOn_8 h8 ?_
  refine bb_bipush (v := 10) dX8_placeOn_11 (by decide) ?_
  refine bb_iload_n dX8_placeOn_13 rfl ?_
  refine bb_iadd dX8_placeOn_14 ?_
  obtain ⟨t15, h15, hf⟩ := bb_bind hf
  refine bb_iaload dX8_placeOn_15 h15 ?_
  refine bb_imul dX8_placeOn_16 ?_
  refine bb_iadd dX8_placeOn_17 ?_
  refine bb_iload_n dX8_placeOn_18 rfl ?_
  refine bb_iadd dX8_placeOn_19 ?_
  obtain ⟨t20, h20, hf⟩ := bb_bind hf
  refine bb_iaload dX8_placeOn_20 h20 ?_
  obtain rfl := Option.some.inj hf
  exact bb_iret rfl rfl dX8_placeOn_21
theorem ok_X8_placeOn {x0 : Nat} {x1 : Int32} {x2 : Int32} {h : bb_H} {r : Int32 × bb_H} (hf : m_X8_placeOn x0 x1 x2 h = some r) : bb_Ok yX8_placeOn cX8_placeOn 3 (some .int) rm_X8_placeOn [.ref x0, .int x1, .int x2] h (some (.int r.1), r.2) :=
  bb_ok (L := [.ref x0, .int x1, .int x2]) (by decide) (Nat.le_of_ble_eq_true rfl) rfl (bb_fewer (L' := [.ref x0, .int x1, .int x2]) (And.intro rfl (And.intro rfl (And.intro rfl trivial))) (j_X8_placeOn_0 _ _ _ _ hf))
abbrev rm_X8_swaps : Room := { frames := 1, cells := 0, slots := 0, locals := 22 }
set_option maxRecDepth 100000 in
set_option maxHeartbeats 4000000 in
theorem j_X8_swaps_63 {r : Int32 × bb_H} {k15 : Nat → Int32 → Int32 → Int32 → bb_H → Option (Int32 × bb_H)} {k30 : Nat → Int32 → Int32 → Int32 → Int32 → bb_H → Option (Int32 × bb_H)} (hk15 : ∀ (x0 : Nat) (x1 : Int32) (x2 : Int32) (x3 : Int32) (h : bb_H), k15 x0 x1 x2 x3 h = some r → bb_J RX8 cX8_swaps 5 (some .int) rm_X8_swaps (some (.int r.1), r.2) 15 [.ref x0, .int x1, .int x2, .int x3, .null] [] h) (hk30 : ∀ (x0 : Nat) (x1 : Int32) (x2 : Int32) (x3 : Int32) (x4 : Int32) (h : bb_H), k30 x0 x1 x2 x3 x4 h = some r → bb_J RX8 cX8_swaps 5 (some .int) rm_X8_swaps (some (.int r.1), r.2) 30 [.ref x0, .int x1, .int x2, .int x3, .int x4] [] h) : ∀ (x0 : Nat) (x1 : Int32) (x3 : Int32) (x4 : Int32) (z0 : Int32) (z1 : Int32) (h : bb_H), m_X8_swaps_63 k15 k30 x0 x1 x3 x4 z0 z1 h = some r → bb_J RX8 cX8_swaps 5 (some .int) rm_X8_swaps (some (.int r.1), r.2) 63 [.ref x0, .int x1, .null, .int x3, .int x4] [.int z1, .int z0] h := by
  intro x0 x1 x3 x4 z0 z1 h hf
  unfold m_X8_swaps_63 at hf
  refine bb_iadd dX8_swaps_63 ?_
  refine bb_istore_n (L' := [.ref x0, .int x1, .int (z0 + z1), .int x3, .int x4]) dX8_swaps_64 (by decide) rfl rfl ?_
  refine bb_iinc (v := x4 + 1) (L' := [.ref x0, .int x1, .int (z0 + z1), .int x3, .int (x4 + 1)]) dX8_swaps_65 rfl rfl (by decide) rfl rfl ?_
  refine bb_goto (tgt := 30) dX8_swaps_68 (by decide) ?_
  refine bb_fewer (L' := [.ref x0, .int x1, .int (z0 + z1), .int x3, .int (x4 + 1)]) (And.intro rfl (And.intro rfl (And.intro rfl (And.intro rfl (And.intro rfl trivial))))) ?_
  exact hk30 _ _ _ _ _ _ hf
set_option maxRecDepth 100000 in
set_option maxHeartbeats 4000000 in
theorem j_X8_swaps_30 {r : Int32 × bb_H} {k15 : Nat → Int32 → Int32 → Int32 → bb_H → Option (Int32 × bb_H)} (hk15 : ∀ (x0 : Nat) (x1 : Int32) (x2 : Int32) (x3 : Int32) (h : bb_H), k15 x0 x1 x2 x3 h = some r → bb_J RX8 cX8_swaps 5 (some .int) rm_X8_swaps (some (.int r.1), r.2) 15 [.ref x0, .int x1, .int x2, .int x3, .null] [] h) : ∀ (n : Nat) (x0 : Nat) (x1 : Int32) (x2 : Int32) (x3 : Int32) (x4 : Int32) (h : bb_H), m_X8_swaps_30 k15 n x0 x1 x2 x3 x4 h = some r → bb_J RX8 cX8_swaps 5 (some .int) rm_X8_swaps (some (.int r.1), r.2) 30 [.ref x0, .int x1, .int x2, .int x3, .int x4] [] h := by
  intro n
  induction n with
  | zero =>
    intro x0 x1 x2 x3 x4 h hf
    exact absurd hf (fun z => by cases z)
  | succ n ih =>
    intro x0 x1 x2 x3 x4 h hf
    unfold m_X8_swaps_30 at hf
    refine bb_iload dX8_swaps_30 rfl ?_
    refine bb_aload_n dX8_swaps_32 rfl ?_
    obtain ⟨t33, h33, hf⟩ := bb_bind hf
    refine bb_getR fl_X8_7 dX8_swaps_33 h33 ?_
    refine bb_iconst (v := 1) dX8_swaps_36 (by decide) ?_
    obtain ⟨t37, h37, hf⟩ := bb_bind hf
    refine bb_iaload dX8_swaps_37 h37 ?_
    refine bb_icmp_ge (tgt := 71) dX8_swaps_38 (by decide) (fun c38 => ?_) (fun c38 => ?_)
    · rw [if_pos c38] at hf
      refine bb_iinc (v := x3 + 1) (L' := [.ref x0, .int x1, .int x2, .int (x3 + 1), .int x4]) dX8_swaps_71 rfl rfl (by decide) rfl rfl ?_
      refine bb_goto (tgt := 15) dX8_swaps_74 (by decide) ?_
      refine bb_fewer (L' := [.ref x0, .int x1, .int x2, .int (x3 + 1), .null]) (And.intro rfl (And.intro rfl (And.intro rfl (And.intro rfl trivial)))) ?_
      exact hk15 _ _ _ _ _ hf
    rw [if_neg c38] at hf
    refine bb_iload_n dX8_swaps_41 rfl ?_
    refine bb_aload_n dX8_swaps_42 rfl ?_
    refine bb_iload_n dX8_swaps_43 rfl ?_
    refine bb_iload_n dX8_swaps_44 rfl ?_
    obtain ⟨r45, h45, hf⟩ := bb_bind hf
    obtain ⟨⟨v45, b45⟩, h45⟩ := bb_rcv_spec h45
    refine bb_invV (ci := 8) (as := [.int x3, .int x1]) iv_X8_138 (by unfold bb_rr; decide) rfl dX8_swaps_45 rfl rfl b45 (Nat.le_of_ble_eq_true rfl) (ok_X8_placeOn h45) ?_
    refine bb_aload_n dX8_swaps_48 rfl ?_
    refine bb_iload dX8_swaps_49 rfl ?_
    refine bb_iload_n dX8_swaps_51 rfl ?_
    obtain ⟨r52, h52, hf⟩ := bb_bind hf
    obtain ⟨⟨v52, b52⟩, h52⟩ := bb_rcv_spec h52
    refine bb_invV (ci := 8) (as := [.int x4, .int x1]) iv_X8_138 (by unfold bb_rr; decide) rfl dX8_swaps_52 rfl rfl b52 (Nat.le_of_ble_eq_true rfl) (ok_X8_placeOn h52) ?_
    refine bb_icmp_le (tgt := 62) dX8_swaps_55 (by decide) (fun c55 => ?_) (fun c55 => ?_)
    · rw [if_pos c55] at hf
      refine bb_iconst (v := 0) dX8_swaps_62 (by decide) ?_
      refine bb_fewer (L' := [.ref x0, .int x1, .null, .int x3, .int x4]) (And.intro rfl (And.intro rfl (And.intro rfl (And.intro rfl trivial)))) ?_
      exact j_X8_swaps_63 hk15 ih _ _ _ _ _ _ _ hf
    rw [if_neg c55] at hf
    refine bb_iconst (v := 1) dX8_swaps_58 (by decide) ?_
    refine bb_goto (tgt := 63) dX8_swaps_59 (by decide) ?_
    refine bb_fewer (L' := [.ref x0, .int x1, .null, .int x3, .int x4]) (And.intro rfl (And.intro rfl (And.intro rfl (And.intro rfl trivial)))) ?_
    exact j_X8_swaps_63 hk15 ih _ _ _ _ _ _ _ hf
set_option maxRecDepth 100000 in
set_option maxHeartbeats 4000000 in
theorem j_X8_swaps_15 {r : Int32 × bb_H} : ∀ (n : Nat) (x0 : Nat) (x1 : Int32) (x2 : Int32) (x3 : Int32) (h : bb_H), m_X8_swaps_15 n x0 x1 x2 x3 h = some r → bb_J RX8 cX8_swaps 5 (some .int) rm_X8_swaps (some (.int r.1), r.2) 15 [.ref x0, .int x1, .int x2, .int x3, .null] [] h := by
  intro n
  induction n with
  | zero =>
    intro x0 x1 x2 x3 h hf
    exact absurd hf (fun z => by cases z)
  | succ n ih =>
    intro x0 x1 x2 x3 h hf
    unfold m_X8_swaps_15 at hf
    refine bb_iload_n dX8_swaps_15 rfl ?_
    refine bb_aload_n dX8_swaps_16 rfl ?_
    obtain ⟨t17, h17, hf⟩ := bb_bind hf
    refine bb_getR fl_X8_7 dX8_swaps_17 h17 ?_
    refine bb_iconst (v := 1) dX8_swaps_20 (by decide) ?_
    obtain ⟨t21, h21, hf⟩ := bb_bind hf
    refine bb_iaload dX8_swaps_21 h21 ?_
    refine bb_icmp_ge (tgt := 77) dX8_swaps_22 (by decide) (fun c22 => ?_) (fun c22 => ?_)
    · rw [if_pos c22] at hf
      refine bb_iload_n dX8_swaps_77 rfl ?_
      obtain rfl := Option.some.inj hf
      exact bb_iret rfl rfl dX8_swaps_78
    rw [if_neg c22] at hf
    refine bb_iload_n dX8_swaps_25 rfl ?_
    refine bb_iconst (v := 1) dX8_swaps_26 (by decide) ?_
    refine bb_iadd dX8_swaps_27 ?_
    refine bb_istore (L' := [.ref x0, .int x1, .int x2, .int x3, .int (x3 + 1)]) dX8_swaps_28 (by decide) rfl rfl ?_
    refine bb_fewer (L' := [.ref x0, .int x1, .int x2, .int x3, .int (x3 + 1)]) (And.intro rfl (And.intro rfl (And.intro rfl (And.intro rfl (And.intro rfl trivial))))) ?_
    exact j_X8_swaps_30 ih _ _ _ _ _ _ _ hf
set_option maxRecDepth 100000 in
set_option maxHeartbeats 4000000 in
theorem j_X8_swaps_0 {r : Int32 × bb_H} : ∀ (x0 : Nat) (x1 : Int32) (h : bb_H), m_X8_swaps x0 x1 h = some r → bb_J RX8 cX8_swaps 5 (some .int) rm_X8_swaps (some (.int r.1), r.2) 0 [.ref x0, .int x1, .null, .null, .null] [] h := by
  intro x0 x1 h hf
  unfold m_X8_swaps at hf
  refine bb_iload_n dX8_swaps_0 rfl ?_
  refine bb_iconst (v := 0) dX8_swaps_1 (by decide) ?_
  refine bb_iconst (v := 2) dX8_swaps_2 (by decide) ?_
  obtain ⟨r3, h3, hf⟩ := bb_bind hf
  refine bb_invS (as := [.int x1, .int 0, .int 2]) is_X8_44 (by unfold bb_rr; decide) dX8_swaps_3 rfl rfl (Nat.le_of_ble_eq_true rfl) (ok_X8_in h3) ?_
  refine bb_if_ne (tgt := 11) dX8_swaps_6 (by decide) (fun c6 => ?_) (fun c6 => ?_)
  · rw [if_neg c6] at hf
    refine bb_iconst (v := 0) dX8_swaps_11 (by decide) ?_
    refine bb_istore_n (L' := [.ref x0, .int x1, .int 0, .null, .null]) dX8_swaps_12 (by decide) rfl rfl ?_
    refine bb_iconst (v := 0) dX8_swaps_13 (by decide) ?_
    refine bb_istore_n (L' := [.ref x0, .int x1, .int 0, .int 0, .null]) dX8_swaps_14 (by decide) rfl rfl ?_
    refine bb_fewer (L' := [.ref x0, .int x1, .int 0, .int 0, .null]) (And.intro rfl (And.intro rfl (And.intro rfl (And.intro rfl trivial)))) ?_
    exact j_X8_swaps_15 _ _ _ _ _ _ hf
  rw [if_pos c6] at hf
  refine bb_iconst (v := (-1)) dX8_swaps_9 (by decide) ?_
  obtain rfl := Option.some.inj hf
  exact bb_iret rfl rfl dX8_swaps_10
theorem ok_X8_swaps {x0 : Nat} {x1 : Int32} {h : bb_H} {r : Int32 × bb_H} (hf : m_X8_swaps x0 x1 h = some r) : bb_Ok yX8_swaps cX8_swaps 5 (some .int) rm_X8_swaps [.ref x0, .int x1] h (some (.int r.1), r.2) :=
  bb_ok (L := [.ref x0, .int x1, .null, .null, .null]) (by decide) (Nat.le_of_ble_eq_true rfl) rfl (bb_fewer (L' := [.ref x0, .int x1, .null, .null, .null]) (And.intro rfl (And.intro rfl trivial)) (j_X8_swaps_0 _ _ _ hf))
abbrev rm_X8_isOrder : Room := { frames := 1, cells := 0, slots := 0, locals := 22 }
set_option maxRecDepth 100000 in
set_option maxHeartbeats 4000000 in
theorem j_X8_isOrder_59 {r : Int32 × bb_H} {k8 : Nat → Int32 → Int32 → Int32 → Int32 → Int32 → bb_H → Option (Int32 × bb_H)} (hk8 : ∀ (x0 : Nat) (x1 : Int32) (x2 : Int32) (x3 : Int32) (x4 : Int32) (x5 : Int32) (h : bb_H), k8 x0 x1 x2 x3 x4 x5 h = some r → bb_J RX8 cX8_isOrder 6 (some .boolean) rm_X8_isOrder (some (.int r.1), r.2) 8 [.ref x0, .int x1, .int x2, .int x3, .int x4, .int x5] [] h) : ∀ (x0 : Nat) (x1 : Int32) (x2 : Int32) (x3 : Int32) (x4 : Int32) (x5 : Int32) (h : bb_H), m_X8_isOrder_59 k8 x0 x1 x2 x3 x4 x5 h = some r → bb_J RX8 cX8_isOrder 6 (some .boolean) rm_X8_isOrder (some (.int r.1), r.2) 59 [.ref x0, .int x1, .int x2, .int x3, .int x4, .int x5] [] h := by
  intro x0 x1 x2 x3 x4 x5 h hf
  unfold m_X8_isOrder_59 at hf
  refine bb_iinc (v := x5 + 1) (L' := [.ref x0, .int x1, .int x2, .int x3, .int x4, .int (x5 + 1)]) dX8_isOrder_59 rfl rfl (by decide) rfl rfl ?_
  refine bb_goto (tgt := 8) dX8_isOrder_62 (by decide) ?_
  refine bb_fewer (L' := [.ref x0, .int x1, .int x2, .int x3, .int x4, .int (x5 + 1)]) (And.intro rfl (And.intro rfl (And.intro rfl (And.intro rfl (And.intro rfl (And.intro rfl trivial)))))) ?_
  exact hk8 _ _ _ _ _ _ _ hf
set_option maxRecDepth 100000 in
set_option maxHeartbeats 4000000 in
theorem j_X8_isOrder_49 {r : Int32 × bb_H} {k8 : Nat → Int32 → Int32 → Int32 → Int32 → Int32 → bb_H → Option (Int32 × bb_H)} (hk8 : ∀ (x0 : Nat) (x1 : Int32) (x2 : Int32) (x3 : Int32) (x4 : Int32) (x5 : Int32) (h : bb_H), k8 x0 x1 x2 x3 x4 x5 h = some r → bb_J RX8 cX8_isOrder 6 (some .boolean) rm_X8_isOrder (some (.int r.1), r.2) 8 [.ref x0, .int x1, .int x2, .int x3, .int x4, .int x5] [] h) : ∀ (x0 : Nat) (x1 : Int32) (x2 : Int32) (x5 : Int32) (z0 : Int32) (h : bb_H), m_X8_isOrder_49 k8 x0 x1 x2 x5 z0 h = some r → bb_J RX8 cX8_isOrder 6 (some .boolean) rm_X8_isOrder (some (.int r.1), r.2) 49 [.ref x0, .int x1, .int x2, .null, .null, .int x5] [.int z0] h := by
  intro x0 x1 x2 x5 z0 h hf
  unfold m_X8_isOrder_49 at hf
  refine bb_istore_n (L' := [.ref x0, .int x1, .int x2, .int z0, .null, .int x5]) dX8_isOrder_49 (by decide) rfl rfl ?_
  refine bb_aload_n dX8_isOrder_50 rfl ?_
  refine bb_iload dX8_isOrder_51 rfl ?_
  refine bb_iload_n dX8_isOrder_53 rfl ?_
  obtain ⟨r54, h54, hf⟩ := bb_bind hf
  obtain ⟨⟨v54, b54⟩, h54⟩ := bb_rcv_spec h54
  refine bb_invV (ci := 8) (as := [.int x5, .int x2]) iv_X8_138 (by unfold bb_rr; decide) rfl dX8_isOrder_54 rfl rfl b54 (Nat.le_of_ble_eq_true rfl) (ok_X8_placeOn h54) ?_
  refine bb_istore (L' := [.ref x0, .int x1, .int x2, .int z0, .int r54.1, .int x5]) dX8_isOrder_57 (by decide) rfl rfl ?_
  refine bb_fewer (L' := [.ref x0, .int x1, .int x2, .int z0, .int r54.1, .int x5]) (And.intro rfl (And.intro rfl (And.intro rfl (And.intro rfl (And.intro rfl (And.intro rfl trivial)))))) ?_
  exact j_X8_isOrder_59 hk8 _ _ _ _ _ _ _ hf
set_option maxRecDepth 100000 in
set_option maxHeartbeats 4000000 in
theorem j_X8_isOrder_48 {r : Int32 × bb_H} {k8 : Nat → Int32 → Int32 → Int32 → Int32 → Int32 → bb_H → Option (Int32 × bb_H)} (hk8 : ∀ (x0 : Nat) (x1 : Int32) (x2 : Int32) (x3 : Int32) (x4 : Int32) (x5 : Int32) (h : bb_H), k8 x0 x1 x2 x3 x4 x5 h = some r → bb_J RX8 cX8_isOrder 6 (some .boolean) rm_X8_isOrder (some (.int r.1), r.2) 8 [.ref x0, .int x1, .int x2, .int x3, .int x4, .int x5] [] h) : ∀ (x0 : Nat) (x1 : Int32) (x2 : Int32) (x5 : Int32) (h : bb_H), m_X8_isOrder_48 k8 x0 x1 x2 x5 h = some r → bb_J RX8 cX8_isOrder 6 (some .boolean) rm_X8_isOrder (some (.int r.1), r.2) 48 [.ref x0, .int x1, .int x2, .null, .null, .int x5] [] h := by
  intro x0 x1 x2 x5 h hf
  unfold m_X8_isOrder_48 at hf
  refine bb_iconst (v := 0) dX8_isOrder_48 (by decide) ?_
  refine bb_fewer (L' := [.ref x0, .int x1, .int x2, .null, .null, .int x5]) (And.intro rfl (And.intro rfl (And.intro rfl (And.intro rfl trivial)))) ?_
  exact j_X8_isOrder_49 hk8 _ _ _ _ _ _ hf
set_option maxRecDepth 100000 in
set_option maxHeartbeats 4000000 in
theorem j_X8_isOrder_8 {r : Int32 × bb_H} : ∀ (n : Nat) (x0 : Nat) (x1 : Int32) (x2 : Int32) (x3 : Int32) (x4 : Int32) (x5 : Int32) (h : bb_H), m_X8_isOrder_8 n x0 x1 x2 x3 x4 x5 h = some r → bb_J RX8 cX8_isOrder 6 (some .boolean) rm_X8_isOrder (some (.int r.1), r.2) 8 [.ref x0, .int x1, .int x2, .int x3, .int x4, .int x5] [] h := by
  intro n
  induction n with
  | zero =>
    intro x0 x1 x2 x3 x4 x5 h hf
    exact absurd hf (fun z => by cases z)
  | succ n ih =>
    intro x0 x1 x2 x3 x4 x5 h hf
    unfold m_X8_isOrder_8 at hf
    refine bb_iload dX8_isOrder_8 rfl ?_
    refine bb_aload_n dX8_isOrder_10 rfl ?_
    obtain ⟨t11, h11, hf⟩ := bb_bind hf
    refine bb_getR fl_X8_7 dX8_isOrder_11 h11 ?_
    refine bb_iconst (v := 1) dX8_isOrder_14 (by decide) ?_
    obtain ⟨t15, h15, hf⟩ := bb_bind hf
    refine bb_iaload dX8_isOrder_15 h15 ?_
    refine bb_icmp_ge (tgt := 65) dX8_isOrder_16 (by decide) (fun c16 => ?_) (fun c16 => ?_)
    · rw [if_pos c16] at hf
      refine bb_iload_n dX8_isOrder_65 rfl ?_
      obtain ⟨hn, rfl⟩ := bb_rz_spec hf
      exact bb_zret rfl hn rfl dX8_isOrder_66
    rw [if_neg c16] at hf
    refine bb_iload_n dX8_isOrder_19 rfl ?_
    refine bb_iload dX8_isOrder_20 rfl ?_
    obtain ⟨r22, h22, hf⟩ := bb_bind hf
    refine bb_invS (as := [.int x1, .int x5]) is_X8_79 (by unfold bb_rr; decide) dX8_isOrder_22 rfl rfl (Nat.le_of_ble_eq_true rfl) (ok_X8_has h22) ?_
    refine bb_if_eq (tgt := 59) dX8_isOrder_25 (by decide) (fun c25 => ?_) (fun c25 => ?_)
    · rw [if_pos c25] at hf
      refine bb_fewer (L' := [.ref x0, .int x1, .int x2, .int x3, .int x4, .int x5]) (And.intro rfl (And.intro rfl (And.intro rfl (And.intro rfl (And.intro rfl (And.intro rfl trivial)))))) ?_
      exact j_X8_isOrder_59 ih _ _ _ _ _ _ _ hf
    rw [if_neg c25] at hf
    refine bb_iload_n dX8_isOrder_28 rfl ?_
    refine bb_if_eq (tgt := 48) dX8_isOrder_29 (by decide) (fun c29 => ?_) (fun c29 => ?_)
    · rw [if_pos c29] at hf
      refine bb_fewer (L' := [.ref x0, .int x1, .int x2, .null, .null, .int x5]) (And.intro rfl (And.intro rfl (And.intro rfl (And.intro rfl trivial)))) ?_
      exact j_X8_isOrder_48 ih _ _ _ _ _ hf
    rw [if_neg c29] at hf
    refine bb_aload_n dX8_isOrder_32 rfl ?_
    refine bb_iload dX8_isOrder_33 rfl ?_
    refine bb_iload_n dX8_isOrder_35 rfl ?_
    obtain ⟨r36, h36, hf⟩ := bb_bind hf
    obtain ⟨⟨v36, b36⟩, h36⟩ := bb_rcv_spec h36
    refine bb_invV (ci := 8) (as := [.int x5, .int x2]) iv_X8_138 (by unfold bb_rr; decide) rfl dX8_isOrder_36 rfl rfl b36 (Nat.le_of_ble_eq_true rfl) (ok_X8_placeOn h36) ?_
    refine bb_iload dX8_isOrder_39 rfl ?_
    refine bb_icmp_le (tgt := 48) dX8_isOrder_41 (by decide) (fun c41 => ?_) (fun c41 => ?_)
    · rw [if_pos c41] at hf
      refine bb_fewer (L' := [.ref x0, .int x1, .int x2, .null, .null, .int x5]) (And.intro rfl (And.intro rfl (And.intro rfl (And.intro rfl trivial)))) ?_
      exact j_X8_isOrder_48 ih _ _ _ _ _ hf
    rw [if_neg c41] at hf
    refine bb_iconst (v := 1) dX8_isOrder_44 (by decide) ?_
    refine bb_goto (tgt := 49) dX8_isOrder_45 (by decide) ?_
    refine bb_fewer (L' := [.ref x0, .int x1, .int x2, .null, .null, .int x5]) (And.intro rfl (And.intro rfl (And.intro rfl (And.intro rfl trivial)))) ?_
    exact j_X8_isOrder_49 ih _ _ _ _ _ _ hf
set_option maxRecDepth 100000 in
set_option maxHeartbeats 4000000 in
theorem j_X8_isOrder_0 {r : Int32 × bb_H} : ∀ (x0 : Nat) (x1 : Int32) (x2 : Int32) (h : bb_H), m_X8_isOrder x0 x1 x2 h = some r → bb_J RX8 cX8_isOrder 6 (some .boolean) rm_X8_isOrder (some (.int r.1), r.2) 0 [.ref x0, .int x1, .int x2, .null, .null, .null] [] h := by
  intro x0 x1 x2 h hf
  unfold m_X8_isOrder at hf
  refine bb_iconst (v := 1) dX8_isOrder_0 (by decide) ?_
  refine bb_istore_n (L' := [.ref x0, .int x1, .int x2, .int 1, .null, .null]) dX8_isOrder_1 (by decide) rfl rfl ?_
  refine bb_iconst (v := (-1)) dX8_isOrder_2 (by decide) ?_
  refine bb_istore (L' := [.ref x0, .int x1, .int x2, .int 1, .int (-1), .null]) dX8_isOrder_3 (by decide) rfl rfl ?_
  refine bb_iconst (v := 0) dX8_isOrder_5 (by decide) ?_
  refine bb_istore (L' := [.ref x0, .int x1, .int x2, .int 1, .int (-1), .int 0]) dX8_isOrder_6 (by decide) rfl rfl ?_
  refine bb_fewer (L' := [.ref x0, .int x1, .int x2, .int 1, .int (-1), .int 0]) (And.intro rfl (And.intro rfl (And.intro rfl (And.intro rfl (And.intro rfl (And.intro rfl trivial)))))) ?_
  exact j_X8_isOrder_8 _ _ _ _ _ _ _ _ hf
theorem ok_X8_isOrder {x0 : Nat} {x1 : Int32} {x2 : Int32} {h : bb_H} {r : Int32 × bb_H} (hf : m_X8_isOrder x0 x1 x2 h = some r) : bb_Ok yX8_isOrder cX8_isOrder 6 (some .boolean) rm_X8_isOrder [.ref x0, .int x1, .int x2] h (some (.int r.1), r.2) :=
  bb_ok (L := [.ref x0, .int x1, .int x2, .null, .null, .null]) (by decide) (Nat.le_of_ble_eq_true rfl) rfl (bb_fewer (L' := [.ref x0, .int x1, .int x2, .null, .null, .null]) (And.intro rfl (And.intro rfl (And.intro rfl trivial))) (j_X8_isOrder_0 _ _ _ _ hf))
abbrev rm_X8_isAhead : Room := { frames := 0, cells := 0, slots := 0, locals := 0 }
set_option maxRecDepth 100000 in
set_option maxHeartbeats 4000000 in
theorem j_X8_isAhead_18 {r : Int32 × bb_H} : ∀ (z0 : Int32) (h : bb_H), m_X8_isAhead_18 z0 h = some r → bb_J RX8 cX8_isAhead 3 (some .boolean) rm_X8_isAhead (some (.int r.1), r.2) 18 [.null, .null, .null] [.int z0] h := by
  intro z0 h hf
  unfold m_X8_isAhead_18 at hf
  obtain ⟨hn, rfl⟩ := bb_rz_spec hf
  exact bb_zret rfl hn rfl dX8_isAhead_18
set_option maxRecDepth 100000 in
set_option maxHeartbeats 4000000 in
theorem j_X8_isAhead_0 {r : Int32 × bb_H} : ∀ (x0 : Int32) (x1 : Int32) (h : bb_H), m_X8_isAhead x0 x1 h = some r → bb_J RX8 cX8_isAhead 3 (some .boolean) rm_X8_isAhead (some (.int r.1), r.2) 0 [.int x0, .int x1, .null] [] h := by
  intro x0 x1 h hf
  unfold m_X8_isAhead at hf
  refine bb_iload_n dX8_isAhead_0 rfl ?_
  refine bb_iload_n dX8_isAhead_1 rfl ?_
  refine bb_ixor dX8_isAhead_2 ?_
  refine bb_istore_n (L' := [.int x0, .int x1, .int (x0 ^^^ x1)]) dX8_isAhead_3 (by decide) rfl rfl ?_
  refine bb_iload_n dX8_isAhead_4 rfl ?_
  refine bb_iload_n dX8_isAhead_5 rfl ?_
  refine bb_ineg dX8_isAhead_6 ?_
  refine bb_iand dX8_isAhead_7 ?_
  refine bb_iload_n dX8_isAhead_8 rfl ?_
  refine bb_iand dX8_isAhead_9 ?_
  refine bb_if_eq (tgt := 17) dX8_isAhead_10 (by decide) (fun c10 => ?_) (fun c10 => ?_)
  · rw [if_pos c10] at hf
    refine bb_iconst (v := 0) dX8_isAhead_17 (by decide) ?_
    refine bb_fewer (L' := [.null, .null, .null]) trivial ?_
    exact j_X8_isAhead_18 _ _ hf
  rw [if_neg c10] at hf
  refine bb_iconst (v := 1) dX8_isAhead_13 (by decide) ?_
  refine bb_goto (tgt := 18) dX8_isAhead_14 (by decide) ?_
  refine bb_fewer (L' := [.null, .null, .null]) trivial ?_
  exact j_X8_isAhead_18 _ _ hf
theorem ok_X8_isAhead {x0 : Int32} {x1 : Int32} {h : bb_H} {r : Int32 × bb_H} (hf : m_X8_isAhead x0 x1 h = some r) : bb_Ok yX8_isAhead cX8_isAhead 3 (some .boolean) rm_X8_isAhead [.int x0, .int x1] h (some (.int r.1), r.2) :=
  bb_ok (L := [.int x0, .int x1, .null]) (by decide) (Nat.le_of_ble_eq_true rfl) rfl (bb_fewer (L' := [.int x0, .int x1, .null]) (And.intro rfl (And.intro rfl trivial)) (j_X8_isAhead_0 _ _ _ hf))
abbrev rm_X8_stay : Room := { frames := 2, cells := 0, slots := 0, locals := 47 }
set_option maxRecDepth 100000 in
set_option maxHeartbeats 4000000 in
theorem j_X8_stay_18 {r : Int32 × bb_H} : ∀ (h : bb_H), m_X8_stay_18 h = some r → bb_J RX8 cX8_stay 6 (some .int) rm_X8_stay (some (.int r.1), r.2) 18 [.null, .null, .null, .null, .null, .null] [] h := by
  intro h hf
  unfold m_X8_stay_18 at hf
  refine bb_iconst (v := (-1)) dX8_stay_18 (by decide) ?_
  obtain rfl := Option.some.inj hf
  exact bb_iret rfl rfl dX8_stay_19
set_option maxRecDepth 100000 in
set_option maxHeartbeats 4000000 in
theorem j_X8_stay_99 {r : Int32 × bb_H} {k25 : Nat → Int32 → Int32 → Int32 → Int32 → bb_H → Option (Int32 × bb_H)} (hk25 : ∀ (x0 : Nat) (x1 : Int32) (x2 : Int32) (x3 : Int32) (x4 : Int32) (h : bb_H), k25 x0 x1 x2 x3 x4 h = some r → bb_J RX8 cX8_stay 6 (some .int) rm_X8_stay (some (.int r.1), r.2) 25 [.ref x0, .int x1, .int x2, .int x3, .int x4, .null] [] h) : ∀ (x0 : Nat) (x1 : Int32) (x2 : Int32) (x4 : Int32) (z0 : Int32) (h : bb_H), m_X8_stay_99 k25 x0 x1 x2 x4 z0 h = some r → bb_J RX8 cX8_stay 6 (some .int) rm_X8_stay (some (.int r.1), r.2) 99 [.ref x0, .int x1, .int x2, .null, .int x4, .null] [.int z0] h := by
  intro x0 x1 x2 x4 z0 h hf
  unfold m_X8_stay_99 at hf
  refine bb_istore_n (L' := [.ref x0, .int x1, .int x2, .int z0, .int x4, .null]) dX8_stay_99 (by decide) rfl rfl ?_
  refine bb_iinc (v := x4 + 1) (L' := [.ref x0, .int x1, .int x2, .int z0, .int (x4 + 1), .null]) dX8_stay_100 rfl rfl (by decide) rfl rfl ?_
  refine bb_goto (tgt := 25) dX8_stay_103 (by decide) ?_
  refine bb_fewer (L' := [.ref x0, .int x1, .int x2, .int z0, .int (x4 + 1), .null]) (And.intro rfl (And.intro rfl (And.intro rfl (And.intro rfl (And.intro rfl trivial))))) ?_
  exact hk25 _ _ _ _ _ _ hf
set_option maxRecDepth 100000 in
set_option maxHeartbeats 4000000 in
theorem j_X8_stay_98 {r : Int32 × bb_H} {k25 : Nat → Int32 → Int32 → Int32 → Int32 → bb_H → Option (Int32 × bb_H)} (hk25 : ∀ (x0 : Nat) (x1 : Int32) (x2 : Int32) (x3 : Int32) (x4 : Int32) (h : bb_H), k25 x0 x1 x2 x3 x4 h = some r → bb_J RX8 cX8_stay 6 (some .int) rm_X8_stay (some (.int r.1), r.2) 25 [.ref x0, .int x1, .int x2, .int x3, .int x4, .null] [] h) : ∀ (x0 : Nat) (x1 : Int32) (x2 : Int32) (x3 : Int32) (x4 : Int32) (h : bb_H), m_X8_stay_98 k25 x0 x1 x2 x3 x4 h = some r → bb_J RX8 cX8_stay 6 (some .int) rm_X8_stay (some (.int r.1), r.2) 98 [.ref x0, .int x1, .int x2, .int x3, .int x4, .null] [] h := by
  intro x0 x1 x2 x3 x4 h hf
  unfold m_X8_stay_98 at hf
  refine bb_iload_n dX8_stay_98 rfl ?_
  refine bb_fewer (L' := [.ref x0, .int x1, .int x2, .null, .int x4, .null]) (And.intro rfl (And.intro rfl (And.intro rfl (And.intro rfl trivial)))) ?_
  exact j_X8_stay_99 hk25 _ _ _ _ _ _ hf
set_option maxRecDepth 100000 in
set_option maxHeartbeats 4000000 in
theorem j_X8_stay_76 {r : Int32 × bb_H} {k25 : Nat → Int32 → Int32 → Int32 → Int32 → bb_H → Option (Int32 × bb_H)} (hk25 : ∀ (x0 : Nat) (x1 : Int32) (x2 : Int32) (x3 : Int32) (x4 : Int32) (h : bb_H), k25 x0 x1 x2 x3 x4 h = some r → bb_J RX8 cX8_stay 6 (some .int) rm_X8_stay (some (.int r.1), r.2) 25 [.ref x0, .int x1, .int x2, .int x3, .int x4, .null] [] h) : ∀ (x0 : Nat) (x1 : Int32) (x2 : Int32) (x3 : Int32) (x4 : Int32) (z0 : Int32) (h : bb_H), m_X8_stay_76 k25 x0 x1 x2 x3 x4 z0 h = some r → bb_J RX8 cX8_stay 6 (some .int) rm_X8_stay (some (.int r.1), r.2) 76 [.ref x0, .int x1, .int x2, .int x3, .int x4, .null] [.int z0] h := by
  intro x0 x1 x2 x3 x4 z0 h hf
  unfold m_X8_stay_76 at hf
  refine bb_istore (L' := [.ref x0, .int x1, .int x2, .int x3, .int x4, .int z0]) dX8_stay_76 (by decide) rfl rfl ?_
  refine bb_iload dX8_stay_78 rfl ?_
  refine bb_if_eq (tgt := 98) dX8_stay_80 (by decide) (fun c80 => ?_) (fun c80 => ?_)
  · rw [if_pos c80] at hf
    refine bb_fewer (L' := [.ref x0, .int x1, .int x2, .int x3, .int x4, .null]) (And.intro rfl (And.intro rfl (And.intro rfl (And.intro rfl (And.intro rfl trivial))))) ?_
    exact j_X8_stay_98 hk25 _ _ _ _ _ _ hf
  rw [if_neg c80] at hf
  refine bb_aload_n dX8_stay_83 rfl ?_
  refine bb_iload dX8_stay_84 rfl ?_
  refine bb_iload_n dX8_stay_86 rfl ?_
  obtain ⟨r87, h87, hf⟩ := bb_bind hf
  obtain ⟨⟨v87, b87⟩, h87⟩ := bb_rcv_spec h87
  refine bb_invV (ci := 8) (as := [.int x4, .int x1]) iv_X8_145 (by unfold bb_rr; decide) rfl dX8_stay_87 rfl rfl b87 (Nat.le_of_ble_eq_true rfl) (ok_X8_isOrder h87) ?_
  refine bb_if_eq (tgt := 98) dX8_stay_90 (by decide) (fun c90 => ?_) (fun c90 => ?_)
  · rw [if_pos c90] at hf
    refine bb_fewer (L' := [.ref x0, .int x1, .int x2, .int x3, .int x4, .null]) (And.intro rfl (And.intro rfl (And.intro rfl (And.intro rfl (And.intro rfl trivial))))) ?_
    exact j_X8_stay_98 hk25 _ _ _ _ _ _ hf
  rw [if_neg c90] at hf
  refine bb_iload dX8_stay_93 rfl ?_
  refine bb_goto (tgt := 99) dX8_stay_95 (by decide) ?_
  refine bb_fewer (L' := [.ref x0, .int x1, .int x2, .null, .int x4, .null]) (And.intro rfl (And.intro rfl (And.intro rfl (And.intro rfl trivial)))) ?_
  exact j_X8_stay_99 hk25 _ _ _ _ _ _ hf
set_option maxRecDepth 100000 in
set_option maxHeartbeats 4000000 in
theorem j_X8_stay_71 {r : Int32 × bb_H} {k25 : Nat → Int32 → Int32 → Int32 → Int32 → bb_H → Option (Int32 × bb_H)} (hk25 : ∀ (x0 : Nat) (x1 : Int32) (x2 : Int32) (x3 : Int32) (x4 : Int32) (h : bb_H), k25 x0 x1 x2 x3 x4 h = some r → bb_J RX8 cX8_stay 6 (some .int) rm_X8_stay (some (.int r.1), r.2) 25 [.ref x0, .int x1, .int x2, .int x3, .int x4, .null] [] h) : ∀ (x0 : Nat) (x1 : Int32) (x2 : Int32) (x3 : Int32) (x4 : Int32) (h : bb_H), m_X8_stay_71 k25 x0 x1 x2 x3 x4 h = some r → bb_J RX8 cX8_stay 6 (some .int) rm_X8_stay (some (.int r.1), r.2) 71 [.ref x0, .int x1, .int x2, .int x3, .int x4, .null] [] h := by
  intro x0 x1 x2 x3 x4 h hf
  unfold m_X8_stay_71 at hf
  refine bb_iconst (v := 1) dX8_stay_71 (by decide) ?_
  refine bb_goto (tgt := 76) dX8_stay_72 (by decide) ?_
  refine bb_fewer (L' := [.ref x0, .int x1, .int x2, .int x3, .int x4, .null]) (And.intro rfl (And.intro rfl (And.intro rfl (And.intro rfl (And.intro rfl trivial))))) ?_
  exact j_X8_stay_76 hk25 _ _ _ _ _ _ _ hf
set_option maxRecDepth 100000 in
set_option maxHeartbeats 4000000 in
theorem j_X8_stay_75 {r : Int32 × bb_H} {k25 : Nat → Int32 → Int32 → Int32 → Int32 → bb_H → Option (Int32 × bb_H)} (hk25 : ∀ (x0 : Nat) (x1 : Int32) (x2 : Int32) (x3 : Int32) (x4 : Int32) (h : bb_H), k25 x0 x1 x2 x3 x4 h = some r → bb_J RX8 cX8_stay 6 (some .int) rm_X8_stay (some (.int r.1), r.2) 25 [.ref x0, .int x1, .int x2, .int x3, .int x4, .null] [] h) : ∀ (x0 : Nat) (x1 : Int32) (x2 : Int32) (x3 : Int32) (x4 : Int32) (h : bb_H), m_X8_stay_75 k25 x0 x1 x2 x3 x4 h = some r → bb_J RX8 cX8_stay 6 (some .int) rm_X8_stay (some (.int r.1), r.2) 75 [.ref x0, .int x1, .int x2, .int x3, .int x4, .null] [] h := by
  intro x0 x1 x2 x3 x4 h hf
  unfold m_X8_stay_75 at hf
  refine bb_iconst (v := 0) dX8_stay_75 (by decide) ?_
  refine bb_fewer (L' := [.ref x0, .int x1, .int x2, .int x3, .int x4, .null]) (And.intro rfl (And.intro rfl (And.intro rfl (And.intro rfl (And.intro rfl trivial))))) ?_
  exact j_X8_stay_76 hk25 _ _ _ _ _ _ _ hf
set_option maxRecDepth 100000 in
set_option maxHeartbeats 4000000 in
theorem j_X8_stay_150 {r : Int32 × bb_H} {k112 : Nat → Int32 → Int32 → Int32 → Int32 → bb_H → Option (Int32 × bb_H)} (hk112 : ∀ (x0 : Nat) (x2 : Int32) (x3 : Int32) (x4 : Int32) (x5 : Int32) (h : bb_H), k112 x0 x2 x3 x4 x5 h = some r → bb_J RX8 cX8_stay 6 (some .int) rm_X8_stay (some (.int r.1), r.2) 112 [.ref x0, .null, .int x2, .int x3, .int x4, .int x5] [] h) : ∀ (x0 : Nat) (x2 : Int32) (x3 : Int32) (x5 : Int32) (z0 : Int32) (z1 : Int32) (h : bb_H), m_X8_stay_150 k112 x0 x2 x3 x5 z0 z1 h = some r → bb_J RX8 cX8_stay 6 (some .int) rm_X8_stay (some (.int r.1), r.2) 150 [.ref x0, .null, .int x2, .int x3, .null, .int x5] [.int z1, .int z0] h := by
  intro x0 x2 x3 x5 z0 z1 h hf
  unfold m_X8_stay_150 at hf
  refine bb_ior dX8_stay_150 ?_
  refine bb_istore (L' := [.ref x0, .null, .int x2, .int x3, .int (z0 ||| z1), .int x5]) dX8_stay_151 (by decide) rfl rfl ?_
  refine bb_iinc (v := x5 + 1) (L' := [.ref x0, .null, .int x2, .int x3, .int (z0 ||| z1), .int (x5 + 1)]) dX8_stay_153 rfl rfl (by decide) rfl rfl ?_
  refine bb_goto (tgt := 112) dX8_stay_156 (by decide) ?_
  refine bb_fewer (L' := [.ref x0, .null, .int x2, .int x3, .int (z0 ||| z1), .int (x5 + 1)]) (And.intro rfl (And.intro rfl (And.intro rfl (And.intro rfl (And.intro rfl trivial))))) ?_
  exact hk112 _ _ _ _ _ _ hf
set_option maxRecDepth 100000 in
set_option maxHeartbeats 4000000 in
theorem j_X8_stay_172 {r : Int32 × bb_H} : ∀ (z0 : Int32) (h : bb_H), m_X8_stay_172 z0 h = some r → bb_J RX8 cX8_stay 6 (some .int) rm_X8_stay (some (.int r.1), r.2) 172 [.null, .null, .null, .null, .null, .null] [.int z0] h := by
  intro z0 h hf
  unfold m_X8_stay_172 at hf
  obtain rfl := Option.some.inj hf
  exact bb_iret rfl rfl dX8_stay_172
set_option maxRecDepth 100000 in
set_option maxHeartbeats 4000000 in
theorem j_X8_stay_112 {r : Int32 × bb_H} : ∀ (n : Nat) (x0 : Nat) (x2 : Int32) (x3 : Int32) (x4 : Int32) (x5 : Int32) (h : bb_H), m_X8_stay_112 n x0 x2 x3 x4 x5 h = some r → bb_J RX8 cX8_stay 6 (some .int) rm_X8_stay (some (.int r.1), r.2) 112 [.ref x0, .null, .int x2, .int x3, .int x4, .int x5] [] h := by
  intro n
  induction n with
  | zero =>
    intro x0 x2 x3 x4 x5 h hf
    exact absurd hf (fun z => by cases z)
  | succ n ih =>
    intro x0 x2 x3 x4 x5 h hf
    unfold m_X8_stay_112 at hf
    refine bb_iload dX8_stay_112 rfl ?_
    refine bb_aload_n dX8_stay_114 rfl ?_
    obtain ⟨t115, h115, hf⟩ := bb_bind hf
    refine bb_getR fl_X8_7 dX8_stay_115 h115 ?_
    refine bb_iconst (v := 1) dX8_stay_118 (by decide) ?_
    obtain ⟨t119, h119, hf⟩ := bb_bind hf
    refine bb_iaload dX8_stay_119 h119 ?_
    refine bb_icmp_ge (tgt := 159) dX8_stay_120 (by decide) (fun c120 => ?_) (fun c120 => ?_)
    · rw [if_pos c120] at hf
      refine bb_iload_n dX8_stay_159 rfl ?_
      refine bb_if_ne (tgt := 170) dX8_stay_160 (by decide) (fun c160 => ?_) (fun c160 => ?_)
      · rw [if_neg c160] at hf
        refine bb_iload dX8_stay_170 rfl ?_
        refine bb_fewer (L' := [.null, .null, .null, .null, .null, .null]) trivial ?_
        exact j_X8_stay_172 _ _ hf
      rw [if_pos c160] at hf
      refine bb_iload_n dX8_stay_163 rfl ?_
      obtain ⟨r164, h164, hf⟩ := bb_bind hf
      refine bb_invS (as := [.int x3]) is_X8_72 (by unfold bb_rr; decide) dX8_stay_164 rfl rfl (Nat.le_of_ble_eq_true rfl) (ok_X8_ones h164) ?_
      refine bb_goto (tgt := 172) dX8_stay_167 (by decide) ?_
      refine bb_fewer (L' := [.null, .null, .null, .null, .null, .null]) trivial ?_
      exact j_X8_stay_172 _ _ hf
    rw [if_neg c120] at hf
    refine bb_iload dX8_stay_123 rfl ?_
    refine bb_iload_n dX8_stay_125 rfl ?_
    refine bb_iload dX8_stay_126 rfl ?_
    obtain ⟨r128, h128, hf⟩ := bb_bind hf
    refine bb_invS (as := [.int x3, .int x5]) is_X8_79 (by unfold bb_rr; decide) dX8_stay_128 rfl rfl (Nat.le_of_ble_eq_true rfl) (ok_X8_has h128) ?_
    refine bb_if_eq (tgt := 149) dX8_stay_131 (by decide) (fun c131 => ?_) (fun c131 => ?_)
    · rw [if_pos c131] at hf
      refine bb_iconst (v := 0) dX8_stay_149 (by decide) ?_
      refine bb_fewer (L' := [.ref x0, .null, .int x2, .int x3, .null, .int x5]) (And.intro rfl (And.intro rfl (And.intro rfl (And.intro rfl trivial)))) ?_
      exact j_X8_stay_150 ih _ _ _ _ _ _ _ hf
    rw [if_neg c131] at hf
    refine bb_iconst (v := 1) dX8_stay_134 (by decide) ?_
    refine bb_aload_n dX8_stay_135 rfl ?_
    obtain ⟨t136, h136, hf⟩ := bb_bind hf
    refine bb_getR fl_X8_7 dX8_stay_136 h136 ?_
    refine bb_bipush (v := 10) dX8_stay_139 (by decide) ?_
    refine bb_iload dX8_stay_141 rfl ?_
    refine bb_iadd dX8_stay_143 ?_
    obtain ⟨t144, h144, hf⟩ := bb_bind hf
    refine bb_iaload dX8_stay_144 h144 ?_
    refine bb_ishl dX8_stay_145 ?_
    refine bb_goto (tgt := 150) dX8_stay_146 (by decide) ?_
    refine bb_fewer (L' := [.ref x0, .null, .int x2, .int x3, .null, .int x5]) (And.intro rfl (And.intro rfl (And.intro rfl (And.intro rfl trivial)))) ?_
    exact j_X8_stay_150 ih _ _ _ _ _ _ _ hf
set_option maxRecDepth 100000 in
set_option maxHeartbeats 4000000 in
theorem j_X8_stay_25 {r : Int32 × bb_H} : ∀ (n : Nat) (x0 : Nat) (x1 : Int32) (x2 : Int32) (x3 : Int32) (x4 : Int32) (h : bb_H), m_X8_stay_25 n x0 x1 x2 x3 x4 h = some r → bb_J RX8 cX8_stay 6 (some .int) rm_X8_stay (some (.int r.1), r.2) 25 [.ref x0, .int x1, .int x2, .int x3, .int x4, .null] [] h := by
  intro n
  induction n with
  | zero =>
    intro x0 x1 x2 x3 x4 h hf
    exact absurd hf (fun z => by cases z)
  | succ n ih =>
    intro x0 x1 x2 x3 x4 h hf
    unfold m_X8_stay_25 at hf
    refine bb_iload dX8_stay_25 rfl ?_
    refine bb_iconst (v := 1) dX8_stay_27 (by decide) ?_
    refine bb_aload_n dX8_stay_28 rfl ?_
    obtain ⟨t29, h29, hf⟩ := bb_bind hf
    refine bb_getR fl_X8_7 dX8_stay_29 h29 ?_
    refine bb_iconst (v := 1) dX8_stay_32 (by decide) ?_
    obtain ⟨t33, h33, hf⟩ := bb_bind hf
    refine bb_iaload dX8_stay_33 h33 ?_
    refine bb_ishl dX8_stay_34 ?_
    refine bb_icmp_ge (tgt := 106) dX8_stay_35 (by decide) (fun c35 => ?_) (fun c35 => ?_)
    · rw [if_pos c35] at hf
      refine bb_iconst (v := 0) dX8_stay_106 (by decide) ?_
      refine bb_istore (L' := [.ref x0, .int x1, .int x2, .int x3, .int 0, .null]) dX8_stay_107 (by decide) rfl rfl ?_
      refine bb_iconst (v := 0) dX8_stay_109 (by decide) ?_
      refine bb_istore (L' := [.ref x0, .int x1, .int x2, .int x3, .int 0, .int 0]) dX8_stay_110 (by decide) rfl rfl ?_
      refine bb_fewer (L' := [.ref x0, .null, .int x2, .int x3, .int 0, .int 0]) (And.intro rfl (And.intro rfl (And.intro rfl (And.intro rfl (And.intro rfl trivial))))) ?_
      exact j_X8_stay_112 _ _ _ _ _ _ _ hf
    rw [if_neg c35] at hf
    refine bb_iload dX8_stay_38 rfl ?_
    obtain ⟨r40, h40, hf⟩ := bb_bind hf
    refine bb_invS (as := [.int x4]) is_X8_72 (by unfold bb_rr; decide) dX8_stay_40 rfl rfl (Nat.le_of_ble_eq_true rfl) (ok_X8_ones h40) ?_
    refine bb_iload_n dX8_stay_43 rfl ?_
    obtain ⟨r44, h44, hf⟩ := bb_bind hf
    refine bb_invS (as := [.int x3]) is_X8_72 (by unfold bb_rr; decide) dX8_stay_44 rfl rfl (Nat.le_of_ble_eq_true rfl) (ok_X8_ones h44) ?_
    refine bb_icmp_gt (tgt := 71) dX8_stay_47 (by decide) (fun c47 => ?_) (fun c47 => ?_)
    · rw [if_pos c47] at hf
      refine bb_fewer (L' := [.ref x0, .int x1, .int x2, .int x3, .int x4, .null]) (And.intro rfl (And.intro rfl (And.intro rfl (And.intro rfl (And.intro rfl trivial))))) ?_
      exact j_X8_stay_71 ih _ _ _ _ _ _ hf
    rw [if_neg c47] at hf
    refine bb_iload dX8_stay_50 rfl ?_
    obtain ⟨r52, h52, hf⟩ := bb_bind hf
    refine bb_invS (as := [.int x4]) is_X8_72 (by unfold bb_rr; decide) dX8_stay_52 rfl rfl (Nat.le_of_ble_eq_true rfl) (ok_X8_ones h52) ?_
    refine bb_iload_n dX8_stay_55 rfl ?_
    obtain ⟨r56, h56, hf⟩ := bb_bind hf
    refine bb_invS (as := [.int x3]) is_X8_72 (by unfold bb_rr; decide) dX8_stay_56 rfl rfl (Nat.le_of_ble_eq_true rfl) (ok_X8_ones h56) ?_
    refine bb_icmp_ne (tgt := 75) dX8_stay_59 (by decide) (fun c59 => ?_) (fun c59 => ?_)
    · rw [if_neg c59] at hf
      refine bb_fewer (L' := [.ref x0, .int x1, .int x2, .int x3, .int x4, .null]) (And.intro rfl (And.intro rfl (And.intro rfl (And.intro rfl (And.intro rfl trivial))))) ?_
      exact j_X8_stay_75 ih _ _ _ _ _ _ hf
    rw [if_pos c59] at hf
    refine bb_iload dX8_stay_62 rfl ?_
    refine bb_iload_n dX8_stay_64 rfl ?_
    obtain ⟨r65, h65, hf⟩ := bb_bind hf
    refine bb_invS (as := [.int x4, .int x3]) is_X8_142 (by unfold bb_rr; decide) dX8_stay_65 rfl rfl (Nat.le_of_ble_eq_true rfl) (ok_X8_isAhead h65) ?_
    refine bb_if_eq (tgt := 75) dX8_stay_68 (by decide) (fun c68 => ?_) (fun c68 => ?_)
    · rw [if_pos c68] at hf
      refine bb_fewer (L' := [.ref x0, .int x1, .int x2, .int x3, .int x4, .null]) (And.intro rfl (And.intro rfl (And.intro rfl (And.intro rfl (And.intro rfl trivial))))) ?_
      exact j_X8_stay_75 ih _ _ _ _ _ _ hf
    rw [if_neg c68] at hf
    refine bb_fewer (L' := [.ref x0, .int x1, .int x2, .int x3, .int x4, .null]) (And.intro rfl (And.intro rfl (And.intro rfl (And.intro rfl (And.intro rfl trivial))))) ?_
    exact j_X8_stay_71 ih _ _ _ _ _ _ hf
set_option maxRecDepth 100000 in
set_option maxHeartbeats 4000000 in
theorem j_X8_stay_0 {r : Int32 × bb_H} : ∀ (x0 : Nat) (x1 : Int32) (x2 : Int32) (h : bb_H), m_X8_stay x0 x1 x2 h = some r → bb_J RX8 cX8_stay 6 (some .int) rm_X8_stay (some (.int r.1), r.2) 0 [.ref x0, .int x1, .int x2, .null, .null, .null] [] h := by
  intro x0 x1 x2 h hf
  unfold m_X8_stay at hf
  refine bb_iload_n dX8_stay_0 rfl ?_
  refine bb_iconst (v := 0) dX8_stay_1 (by decide) ?_
  refine bb_iconst (v := 2) dX8_stay_2 (by decide) ?_
  obtain ⟨r3, h3, hf⟩ := bb_bind hf
  refine bb_invS (as := [.int x1, .int 0, .int 2]) is_X8_44 (by unfold bb_rr; decide) dX8_stay_3 rfl rfl (Nat.le_of_ble_eq_true rfl) (ok_X8_in h3) ?_
  refine bb_if_eq (tgt := 18) dX8_stay_6 (by decide) (fun c6 => ?_) (fun c6 => ?_)
  · rw [if_pos c6] at hf
    refine bb_fewer (L' := [.null, .null, .null, .null, .null, .null]) trivial ?_
    exact j_X8_stay_18 _ hf
  rw [if_neg c6] at hf
  refine bb_iload_n dX8_stay_9 rfl ?_
  refine bb_iconst (v := 0) dX8_stay_10 (by decide) ?_
  refine bb_iconst (v := 1) dX8_stay_11 (by decide) ?_
  obtain ⟨r12, h12, hf⟩ := bb_bind hf
  refine bb_invS (as := [.int x2, .int 0, .int 1]) is_X8_44 (by unfold bb_rr; decide) dX8_stay_12 rfl rfl (Nat.le_of_ble_eq_true rfl) (ok_X8_in h12) ?_
  refine bb_if_ne (tgt := 20) dX8_stay_15 (by decide) (fun c15 => ?_) (fun c15 => ?_)
  · rw [if_neg c15] at hf
    refine bb_iconst (v := 0) dX8_stay_20 (by decide) ?_
    refine bb_istore_n (L' := [.ref x0, .int x1, .int x2, .int 0, .null, .null]) dX8_stay_21 (by decide) rfl rfl ?_
    refine bb_iconst (v := 1) dX8_stay_22 (by decide) ?_
    refine bb_istore (L' := [.ref x0, .int x1, .int x2, .int 0, .int 1, .null]) dX8_stay_23 (by decide) rfl rfl ?_
    refine bb_fewer (L' := [.ref x0, .int x1, .int x2, .int 0, .int 1, .null]) (And.intro rfl (And.intro rfl (And.intro rfl (And.intro rfl (And.intro rfl trivial))))) ?_
    exact j_X8_stay_25 _ _ _ _ _ _ _ hf
  rw [if_pos c15] at hf
  refine bb_fewer (L' := [.null, .null, .null, .null, .null, .null]) trivial ?_
  exact j_X8_stay_18 _ hf
theorem ok_X8_stay {x0 : Nat} {x1 : Int32} {x2 : Int32} {h : bb_H} {r : Int32 × bb_H} (hf : m_X8_stay x0 x1 x2 h = some r) : bb_Ok yX8_stay cX8_stay 6 (some .int) rm_X8_stay [.ref x0, .int x1, .int x2] h (some (.int r.1), r.2) :=
  bb_ok (L := [.ref x0, .int x1, .int x2, .null, .null, .null]) (by decide) (Nat.le_of_ble_eq_true rfl) rfl (bb_fewer (L' := [.ref x0, .int x1, .int x2, .null, .null, .null]) (And.intro rfl (And.intro rfl (And.intro rfl trivial))) (j_X8_stay_0 _ _ _ _ hf))
abbrev rm_X8_firstOrder : Room := { frames := 1, cells := 0, slots := 0, locals := 22 }
set_option maxRecDepth 100000 in
set_option maxHeartbeats 4000000 in
theorem j_X8_firstOrder_36 {r : bb_H} {k9 : Nat → Int32 → Int32 → Int32 → bb_H → Option bb_H} (hk9 : ∀ (x0 : Nat) (x1 : Int32) (x2 : Int32) (x3 : Int32) (h : bb_H), k9 x0 x1 x2 x3 h = some r → bb_J RX8 cX8_firstOrder 4 none rm_X8_firstOrder (none, r) 9 [.ref x0, .int x1, .int x2, .int x3] [] h) : ∀ (x0 : Nat) (x1 : Int32) (x2 : Int32) (x3 : Int32) (h : bb_H), m_X8_firstOrder_36 k9 x0 x1 x2 x3 h = some r → bb_J RX8 cX8_firstOrder 4 none rm_X8_firstOrder (none, r) 36 [.ref x0, .int x1, .int x2, .int x3] [] h := by
  intro x0 x1 x2 x3 h hf
  unfold m_X8_firstOrder_36 at hf
  refine bb_iinc (v := x3 + 1) (L' := [.ref x0, .int x1, .int x2, .int (x3 + 1)]) dX8_firstOrder_36 rfl rfl (by decide) rfl rfl ?_
  refine bb_goto (tgt := 9) dX8_firstOrder_39 (by decide) ?_
  refine bb_fewer (L' := [.ref x0, .int x1, .int x2, .int (x3 + 1)]) (And.intro rfl (And.intro rfl (And.intro rfl (And.intro rfl trivial)))) ?_
  exact hk9 _ _ _ _ _ hf
set_option maxRecDepth 100000 in
set_option maxHeartbeats 4000000 in
theorem j_X8_firstOrder_9 {r : bb_H} : ∀ (n : Nat) (x0 : Nat) (x1 : Int32) (x2 : Int32) (x3 : Int32) (h : bb_H), m_X8_firstOrder_9 n x0 x1 x2 x3 h = some r → bb_J RX8 cX8_firstOrder 4 none rm_X8_firstOrder (none, r) 9 [.ref x0, .int x1, .int x2, .int x3] [] h := by
  intro n
  induction n with
  | zero =>
    intro x0 x1 x2 x3 h hf
    exact absurd hf (fun z => by cases z)
  | succ n ih =>
    intro x0 x1 x2 x3 h hf
    unfold m_X8_firstOrder_9 at hf
    refine bb_iload_n dX8_firstOrder_9 rfl ?_
    refine bb_bipush (v := 6) dX8_firstOrder_10 (by decide) ?_
    refine bb_icmp_ge (tgt := 42) dX8_firstOrder_12 (by decide) (fun c12 => ?_) (fun c12 => ?_)
    · rw [if_pos c12] at hf
      obtain rfl := Option.some.inj hf
      exact bb_vret rfl rfl dX8_firstOrder_42
    rw [if_neg c12] at hf
    refine bb_iload_n dX8_firstOrder_15 rfl ?_
    refine bb_iload_n dX8_firstOrder_16 rfl ?_
    obtain ⟨r17, h17, hf⟩ := bb_bind hf
    refine bb_invS (as := [.int x1, .int x3]) is_X8_79 (by unfold bb_rr; decide) dX8_firstOrder_17 rfl rfl (Nat.le_of_ble_eq_true rfl) (ok_X8_has h17) ?_
    refine bb_if_eq (tgt := 36) dX8_firstOrder_20 (by decide) (fun c20 => ?_) (fun c20 => ?_)
    · rw [if_pos c20] at hf
      refine bb_fewer (L' := [.ref x0, .int x1, .int x2, .int x3]) (And.intro rfl (And.intro rfl (And.intro rfl (And.intro rfl trivial)))) ?_
      exact j_X8_firstOrder_36 ih _ _ _ _ _ hf
    rw [if_neg c20] at hf
    refine bb_aload_n dX8_firstOrder_23 rfl ?_
    obtain ⟨t24, h24, hf⟩ := bb_bind hf
    refine bb_getR fl_X8_7 dX8_firstOrder_24 h24 ?_
    refine bb_bipush (v := 10) dX8_firstOrder_27 (by decide) ?_
    refine bb_iload_n dX8_firstOrder_29 rfl ?_
    refine bb_iadd dX8_firstOrder_30 ?_
    refine bb_iload_n dX8_firstOrder_31 rfl ?_
    obtain ⟨g32, h32, hf⟩ := bb_bind hf
    refine bb_iastore dX8_firstOrder_32 h32 ?_
    refine bb_iinc (v := x2 + 1) (L' := [.ref x0, .int x1, .int (x2 + 1), .int x3]) dX8_firstOrder_33 rfl rfl (by decide) rfl rfl ?_
    refine bb_fewer (L' := [.ref x0, .int x1, .int (x2 + 1), .int x3]) (And.intro rfl (And.intro rfl (And.intro rfl (And.intro rfl trivial)))) ?_
    exact j_X8_firstOrder_36 ih _ _ _ _ _ hf
set_option maxRecDepth 100000 in
set_option maxHeartbeats 4000000 in
theorem j_X8_firstOrder_0 {r : bb_H} : ∀ (x0 : Nat) (h : bb_H), m_X8_firstOrder x0 h = some r → bb_J RX8 cX8_firstOrder 4 none rm_X8_firstOrder (none, r) 0 [.ref x0, .null, .null, .null] [] h := by
  intro x0 h hf
  unfold m_X8_firstOrder at hf
  refine bb_aload_n dX8_firstOrder_0 rfl ?_
  obtain ⟨r1, h1, hf⟩ := bb_bind hf
  obtain ⟨⟨v1, b1⟩, h1⟩ := bb_rcv_spec h1
  refine bb_invV (ci := 8) (as := []) iv_X8_75 (by unfold bb_rr; decide) rfl dX8_firstOrder_1 rfl rfl b1 (Nat.le_of_ble_eq_true rfl) (ok_X8_bench h1) ?_
  refine bb_istore_n (L' := [.ref x0, .int r1.1, .null, .null]) dX8_firstOrder_4 (by decide) rfl rfl ?_
  refine bb_iconst (v := 0) dX8_firstOrder_5 (by decide) ?_
  refine bb_istore_n (L' := [.ref x0, .int r1.1, .int 0, .null]) dX8_firstOrder_6 (by decide) rfl rfl ?_
  refine bb_iconst (v := 0) dX8_firstOrder_7 (by decide) ?_
  refine bb_istore_n (L' := [.ref x0, .int r1.1, .int 0, .int 0]) dX8_firstOrder_8 (by decide) rfl rfl ?_
  refine bb_fewer (L' := [.ref x0, .int r1.1, .int 0, .int 0]) (And.intro rfl (And.intro rfl (And.intro rfl (And.intro rfl trivial)))) ?_
  exact j_X8_firstOrder_9 _ _ _ _ _ _ hf
theorem ok_X8_firstOrder {x0 : Nat} {h : bb_H} {r : bb_H} (hf : m_X8_firstOrder x0 h = some r) : bb_Ok yX8_firstOrder cX8_firstOrder 4 none rm_X8_firstOrder [.ref x0] h (none, r) :=
  bb_ok (L := [.ref x0, .null, .null, .null]) (by decide) (Nat.le_of_ble_eq_true rfl) rfl (bb_fewer (L' := [.ref x0, .null, .null, .null]) (And.intro rfl trivial) (j_X8_firstOrder_0 _ _ hf))
abbrev rm_X8_nextOrder : Room := { frames := 0, cells := 0, slots := 0, locals := 0 }
set_option maxRecDepth 100000 in
set_option maxHeartbeats 4000000 in
theorem j_X8_nextOrder_137 {r : Int32 × bb_H} : ∀ (n : Nat) (x0 : Nat) (x4 : Int32) (x5 : Int32) (h : bb_H), m_X8_nextOrder_137 n x0 x4 x5 h = some r → bb_J RX8 cX8_nextOrder 6 (some .boolean) rm_X8_nextOrder (some (.int r.1), r.2) 137 [.ref x0, .null, .null, .null, .int x4, .int x5] [] h := by
  intro n
  induction n with
  | zero =>
    intro x0 x4 x5 h hf
    exact absurd hf (fun z => by cases z)
  | succ n ih =>
    intro x0 x4 x5 h hf
    unfold m_X8_nextOrder_137 at hf
    refine bb_iload dX8_nextOrder_137 rfl ?_
    refine bb_iload dX8_nextOrder_139 rfl ?_
    refine bb_icmp_ge (tgt := 195) dX8_nextOrder_141 (by decide) (fun c141 => ?_) (fun c141 => ?_)
    · rw [if_pos c141] at hf
      refine bb_iconst (v := 1) dX8_nextOrder_195 (by decide) ?_
      obtain rfl := Option.some.inj hf
      exact bb_zret rfl (by decide) rfl dX8_nextOrder_196
    rw [if_neg c141] at hf
    refine bb_aload_n dX8_nextOrder_144 rfl ?_
    obtain ⟨t145, h145, hf⟩ := bb_bind hf
    refine bb_getR fl_X8_7 dX8_nextOrder_145 h145 ?_
    refine bb_bipush (v := 10) dX8_nextOrder_148 (by decide) ?_
    refine bb_iload dX8_nextOrder_150 rfl ?_
    refine bb_iadd dX8_nextOrder_152 ?_
    obtain ⟨t153, h153, hf⟩ := bb_bind hf
    refine bb_iaload dX8_nextOrder_153 h153 ?_
    refine bb_istore_n (L' := [.ref x0, .null, .null, .int t153, .int x4, .int x5]) dX8_nextOrder_154 (by decide) rfl rfl ?_
    refine bb_aload_n dX8_nextOrder_155 rfl ?_
    obtain ⟨t156, h156, hf⟩ := bb_bind hf
    refine bb_getR fl_X8_7 dX8_nextOrder_156 h156 ?_
    refine bb_bipush (v := 10) dX8_nextOrder_159 (by decide) ?_
    refine bb_iload dX8_nextOrder_161 rfl ?_
    refine bb_iadd dX8_nextOrder_163 ?_
    refine bb_aload_n dX8_nextOrder_164 rfl ?_
    obtain ⟨t165, h165, hf⟩ := bb_bind hf
    refine bb_getR fl_X8_7 dX8_nextOrder_165 h165 ?_
    refine bb_bipush (v := 10) dX8_nextOrder_168 (by decide) ?_
    refine bb_iload dX8_nextOrder_170 rfl ?_
    refine bb_iadd dX8_nextOrder_172 ?_
    obtain ⟨t173, h173, hf⟩ := bb_bind hf
    refine bb_iaload dX8_nextOrder_173 h173 ?_
    obtain ⟨g174, h174, hf⟩ := bb_bind hf
    refine bb_iastore dX8_nextOrder_174 h174 ?_
    refine bb_aload_n dX8_nextOrder_175 rfl ?_
    obtain ⟨t176, h176, hf⟩ := bb_bind hf
    refine bb_getR fl_X8_7 dX8_nextOrder_176 h176 ?_
    refine bb_bipush (v := 10) dX8_nextOrder_179 (by decide) ?_
    refine bb_iload dX8_nextOrder_181 rfl ?_
    refine bb_iadd dX8_nextOrder_183 ?_
    refine bb_iload_n dX8_nextOrder_184 rfl ?_
    obtain ⟨g185, h185, hf⟩ := bb_bind hf
    refine bb_iastore dX8_nextOrder_185 h185 ?_
    refine bb_iinc (v := x4 + 1) (L' := [.ref x0, .null, .null, .int t153, .int (x4 + 1), .int x5]) dX8_nextOrder_186 rfl rfl (by decide) rfl rfl ?_
    refine bb_iinc (v := x5 + (-1)) (L' := [.ref x0, .null, .null, .int t153, .int (x4 + 1), .int (x5 + (-1))]) dX8_nextOrder_189 rfl rfl (by decide) rfl rfl ?_
    refine bb_goto (tgt := 137) dX8_nextOrder_192 (by decide) ?_
    refine bb_fewer (L' := [.ref x0, .null, .null, .null, .int (x4 + 1), .int (x5 + (-1))]) (And.intro rfl (And.intro rfl (And.intro rfl trivial))) ?_
    exact ih _ _ _ _ hf
set_option maxRecDepth 100000 in
set_option maxHeartbeats 4000000 in
theorem j_X8_nextOrder_57 {r : Int32 × bb_H} : ∀ (n : Nat) (x0 : Nat) (x1 : Int32) (x2 : Int32) (h : bb_H), m_X8_nextOrder_57 n x0 x1 x2 h = some r → bb_J RX8 cX8_nextOrder 6 (some .boolean) rm_X8_nextOrder (some (.int r.1), r.2) 57 [.ref x0, .int x1, .int x2, .null, .null, .null] [] h := by
  intro n
  induction n with
  | zero =>
    intro x0 x1 x2 h hf
    exact absurd hf (fun z => by cases z)
  | succ n ih =>
    intro x0 x1 x2 h hf
    unfold m_X8_nextOrder_57 at hf
    refine bb_aload_n dX8_nextOrder_57 rfl ?_
    obtain ⟨t58, h58, hf⟩ := bb_bind hf
    refine bb_getR fl_X8_7 dX8_nextOrder_58 h58 ?_
    refine bb_bipush (v := 10) dX8_nextOrder_61 (by decide) ?_
    refine bb_iload_n dX8_nextOrder_63 rfl ?_
    refine bb_iadd dX8_nextOrder_64 ?_
    obtain ⟨t65, h65, hf⟩ := bb_bind hf
    refine bb_iaload dX8_nextOrder_65 h65 ?_
    refine bb_aload_n dX8_nextOrder_66 rfl ?_
    obtain ⟨t67, h67, hf⟩ := bb_bind hf
    refine bb_getR fl_X8_7 dX8_nextOrder_67 h67 ?_
    refine bb_bipush (v := 10) dX8_nextOrder_70 (by decide) ?_
    refine bb_iload_n dX8_nextOrder_72 rfl ?_
    refine bb_iadd dX8_nextOrder_73 ?_
    obtain ⟨t74, h74, hf⟩ := bb_bind hf
    refine bb_iaload dX8_nextOrder_74 h74 ?_
    refine bb_icmp_ge (tgt := 84) dX8_nextOrder_75 (by decide) (fun c75 => ?_) (fun c75 => ?_)
    · rw [if_pos c75] at hf
      refine bb_aload_n dX8_nextOrder_84 rfl ?_
      obtain ⟨t85, h85, hf⟩ := bb_bind hf
      refine bb_getR fl_X8_7 dX8_nextOrder_85 h85 ?_
      refine bb_bipush (v := 10) dX8_nextOrder_88 (by decide) ?_
      refine bb_iload_n dX8_nextOrder_90 rfl ?_
      refine bb_iadd dX8_nextOrder_91 ?_
      obtain ⟨t92, h92, hf⟩ := bb_bind hf
      refine bb_iaload dX8_nextOrder_92 h92 ?_
      refine bb_istore_n (L' := [.ref x0, .int x1, .int x2, .int t92, .null, .null]) dX8_nextOrder_93 (by decide) rfl rfl ?_
      refine bb_aload_n dX8_nextOrder_94 rfl ?_
      obtain ⟨t95, h95, hf⟩ := bb_bind hf
      refine bb_getR fl_X8_7 dX8_nextOrder_95 h95 ?_
      refine bb_bipush (v := 10) dX8_nextOrder_98 (by decide) ?_
      refine bb_iload_n dX8_nextOrder_100 rfl ?_
      refine bb_iadd dX8_nextOrder_101 ?_
      refine bb_aload_n dX8_nextOrder_102 rfl ?_
      obtain ⟨t103, h103, hf⟩ := bb_bind hf
      refine bb_getR fl_X8_7 dX8_nextOrder_103 h103 ?_
      refine bb_bipush (v := 10) dX8_nextOrder_106 (by decide) ?_
      refine bb_iload_n dX8_nextOrder_108 rfl ?_
      refine bb_iadd dX8_nextOrder_109 ?_
      obtain ⟨t110, h110, hf⟩ := bb_bind hf
      refine bb_iaload dX8_nextOrder_110 h110 ?_
      obtain ⟨g111, h111, hf⟩ := bb_bind hf
      refine bb_iastore dX8_nextOrder_111 h111 ?_
      refine bb_aload_n dX8_nextOrder_112 rfl ?_
      obtain ⟨t113, h113, hf⟩ := bb_bind hf
      refine bb_getR fl_X8_7 dX8_nextOrder_113 h113 ?_
      refine bb_bipush (v := 10) dX8_nextOrder_116 (by decide) ?_
      refine bb_iload_n dX8_nextOrder_118 rfl ?_
      refine bb_iadd dX8_nextOrder_119 ?_
      refine bb_iload_n dX8_nextOrder_120 rfl ?_
      obtain ⟨g121, h121, hf⟩ := bb_bind hf
      refine bb_iastore dX8_nextOrder_121 h121 ?_
      refine bb_iload_n dX8_nextOrder_122 rfl ?_
      refine bb_iconst (v := 1) dX8_nextOrder_123 (by decide) ?_
      refine bb_iadd dX8_nextOrder_124 ?_
      refine bb_istore (L' := [.ref x0, .int x1, .int x2, .int t92, .int (x1 + 1), .null]) dX8_nextOrder_125 (by decide) rfl rfl ?_
      refine bb_aload_n dX8_nextOrder_127 rfl ?_
      obtain ⟨t128, h128, hf⟩ := bb_bind hf
      refine bb_getR fl_X8_7 dX8_nextOrder_128 h128 ?_
      refine bb_iconst (v := 1) dX8_nextOrder_131 (by decide) ?_
      obtain ⟨t132, h132, hf⟩ := bb_bind hf
      refine bb_iaload dX8_nextOrder_132 h132 ?_
      refine bb_iconst (v := 1) dX8_nextOrder_133 (by decide) ?_
      refine bb_isub dX8_nextOrder_134 ?_
      refine bb_istore (L' := [.ref x0, .int x1, .int x2, .int t92, .int (x1 + 1), .int (t132 - 1)]) dX8_nextOrder_135 (by decide) rfl rfl ?_
      refine bb_fewer (L' := [.ref x0, .null, .null, .null, .int (x1 + 1), .int (t132 - 1)]) (And.intro rfl (And.intro rfl (And.intro rfl trivial))) ?_
      exact j_X8_nextOrder_137 _ _ _ _ _ hf
    rw [if_neg c75] at hf
    refine bb_iinc (v := x2 + (-1)) (L' := [.ref x0, .int x1, .int (x2 + (-1)), .null, .null, .null]) dX8_nextOrder_78 rfl rfl (by decide) rfl rfl ?_
    refine bb_goto (tgt := 57) dX8_nextOrder_81 (by decide) ?_
    refine bb_fewer (L' := [.ref x0, .int x1, .int (x2 + (-1)), .null, .null, .null]) (And.intro rfl (And.intro rfl (And.intro rfl trivial))) ?_
    exact ih _ _ _ _ hf
set_option maxRecDepth 100000 in
set_option maxHeartbeats 4000000 in
theorem j_X8_nextOrder_42 {r : Int32 × bb_H} : ∀ (x0 : Nat) (x1 : Int32) (h : bb_H), m_X8_nextOrder_42 x0 x1 h = some r → bb_J RX8 cX8_nextOrder 6 (some .boolean) rm_X8_nextOrder (some (.int r.1), r.2) 42 [.ref x0, .int x1, .null, .null, .null, .null] [] h := by
  intro x0 x1 h hf
  unfold m_X8_nextOrder_42 at hf
  refine bb_iload_n dX8_nextOrder_42 rfl ?_
  refine bb_if_ge (tgt := 48) dX8_nextOrder_43 (by decide) (fun c43 => ?_) (fun c43 => ?_)
  · rw [if_pos c43] at hf
    refine bb_aload_n dX8_nextOrder_48 rfl ?_
    obtain ⟨t49, h49, hf⟩ := bb_bind hf
    refine bb_getR fl_X8_7 dX8_nextOrder_49 h49 ?_
    refine bb_iconst (v := 1) dX8_nextOrder_52 (by decide) ?_
    obtain ⟨t53, h53, hf⟩ := bb_bind hf
    refine bb_iaload dX8_nextOrder_53 h53 ?_
    refine bb_iconst (v := 1) dX8_nextOrder_54 (by decide) ?_
    refine bb_isub dX8_nextOrder_55 ?_
    refine bb_istore_n (L' := [.ref x0, .int x1, .int (t53 - 1), .null, .null, .null]) dX8_nextOrder_56 (by decide) rfl rfl ?_
    refine bb_fewer (L' := [.ref x0, .int x1, .int (t53 - 1), .null, .null, .null]) (And.intro rfl (And.intro rfl (And.intro rfl trivial))) ?_
    exact j_X8_nextOrder_57 _ _ _ _ _ hf
  rw [if_neg c43] at hf
  refine bb_iconst (v := 0) dX8_nextOrder_46 (by decide) ?_
  obtain rfl := Option.some.inj hf
  exact bb_zret rfl (by decide) rfl dX8_nextOrder_47
set_option maxRecDepth 100000 in
set_option maxHeartbeats 4000000 in
theorem j_X8_nextOrder_9 {r : Int32 × bb_H} : ∀ (n : Nat) (x0 : Nat) (x1 : Int32) (h : bb_H), m_X8_nextOrder_9 n x0 x1 h = some r → bb_J RX8 cX8_nextOrder 6 (some .boolean) rm_X8_nextOrder (some (.int r.1), r.2) 9 [.ref x0, .int x1, .null, .null, .null, .null] [] h := by
  intro n
  induction n with
  | zero =>
    intro x0 x1 h hf
    exact absurd hf (fun z => by cases z)
  | succ n ih =>
    intro x0 x1 h hf
    unfold m_X8_nextOrder_9 at hf
    refine bb_iload_n dX8_nextOrder_9 rfl ?_
    refine bb_if_lt (tgt := 42) dX8_nextOrder_10 (by decide) (fun c10 => ?_) (fun c10 => ?_)
    · rw [if_pos c10] at hf
      refine bb_fewer (L' := [.ref x0, .int x1, .null, .null, .null, .null]) (And.intro rfl (And.intro rfl trivial)) ?_
      exact j_X8_nextOrder_42 _ _ _ hf
    rw [if_neg c10] at hf
    refine bb_aload_n dX8_nextOrder_13 rfl ?_
    obtain ⟨t14, h14, hf⟩ := bb_bind hf
    refine bb_getR fl_X8_7 dX8_nextOrder_14 h14 ?_
    refine bb_bipush (v := 10) dX8_nextOrder_17 (by decide) ?_
    refine bb_iload_n dX8_nextOrder_19 rfl ?_
    refine bb_iadd dX8_nextOrder_20 ?_
    obtain ⟨t21, h21, hf⟩ := bb_bind hf
    refine bb_iaload dX8_nextOrder_21 h21 ?_
    refine bb_aload_n dX8_nextOrder_22 rfl ?_
    obtain ⟨t23, h23, hf⟩ := bb_bind hf
    refine bb_getR fl_X8_7 dX8_nextOrder_23 h23 ?_
    refine bb_bipush (v := 10) dX8_nextOrder_26 (by decide) ?_
    refine bb_iload_n dX8_nextOrder_28 rfl ?_
    refine bb_iadd dX8_nextOrder_29 ?_
    refine bb_iconst (v := 1) dX8_nextOrder_30 (by decide) ?_
    refine bb_iadd dX8_nextOrder_31 ?_
    obtain ⟨t32, h32, hf⟩ := bb_bind hf
    refine bb_iaload dX8_nextOrder_32 h32 ?_
    refine bb_icmp_le (tgt := 42) dX8_nextOrder_33 (by decide) (fun c33 => ?_) (fun c33 => ?_)
    · rw [if_pos c33] at hf
      refine bb_fewer (L' := [.ref x0, .int x1, .null, .null, .null, .null]) (And.intro rfl (And.intro rfl trivial)) ?_
      exact j_X8_nextOrder_42 _ _ _ hf
    rw [if_neg c33] at hf
    refine bb_iinc (v := x1 + (-1)) (L' := [.ref x0, .int (x1 + (-1)), .null, .null, .null, .null]) dX8_nextOrder_36 rfl rfl (by decide) rfl rfl ?_
    refine bb_goto (tgt := 9) dX8_nextOrder_39 (by decide) ?_
    refine bb_fewer (L' := [.ref x0, .int (x1 + (-1)), .null, .null, .null, .null]) (And.intro rfl (And.intro rfl trivial)) ?_
    exact ih _ _ _ hf
set_option maxRecDepth 100000 in
set_option maxHeartbeats 4000000 in
theorem j_X8_nextOrder_0 {r : Int32 × bb_H} : ∀ (x0 : Nat) (h : bb_H), m_X8_nextOrder x0 h = some r → bb_J RX8 cX8_nextOrder 6 (some .boolean) rm_X8_nextOrder (some (.int r.1), r.2) 0 [.ref x0, .null, .null, .null, .null, .null] [] h := by
  intro x0 h hf
  unfold m_X8_nextOrder at hf
  refine bb_aload_n dX8_nextOrder_0 rfl ?_
  obtain ⟨t1, h1, hf⟩ := bb_bind hf
  refine bb_getR fl_X8_7 dX8_nextOrder_1 h1 ?_
  refine bb_iconst (v := 1) dX8_nextOrder_4 (by decide) ?_
  obtain ⟨t5, h5, hf⟩ := bb_bind hf
  refine bb_iaload dX8_nextOrder_5 h5 ?_
  refine bb_iconst (v := 2) dX8_nextOrder_6 (by decide) ?_
  refine bb_isub dX8_nextOrder_7 ?_
  refine bb_istore_n (L' := [.ref x0, .int (t5 - 2), .null, .null, .null, .null]) dX8_nextOrder_8 (by decide) rfl rfl ?_
  refine bb_fewer (L' := [.ref x0, .int (t5 - 2), .null, .null, .null, .null]) (And.intro rfl (And.intro rfl trivial)) ?_
  exact j_X8_nextOrder_9 _ _ _ _ hf
theorem ok_X8_nextOrder {x0 : Nat} {h : bb_H} {r : Int32 × bb_H} (hf : m_X8_nextOrder x0 h = some r) : bb_Ok yX8_nextOrder cX8_nextOrder 6 (some .boolean) rm_X8_nextOrder [.ref x0] h (some (.int r.1), r.2) :=
  bb_ok (L := [.ref x0, .null, .null, .null, .null, .null]) (by decide) (Nat.le_of_ble_eq_true rfl) rfl (bb_fewer (L' := [.ref x0, .null, .null, .null, .null, .null]) (And.intro rfl trivial) (j_X8_nextOrder_0 _ _ hf))
abbrev rm_X8_ways : Room := { frames := 2, cells := 0, slots := 0, locals := 51 }
set_option maxRecDepth 100000 in
set_option maxHeartbeats 4000000 in
theorem j_X8_ways_29 {r : Int32 × bb_H} {k12 : Nat → Int32 → Int32 → bb_H → Option (Int32 × bb_H)} (hk12 : ∀ (x0 : Nat) (x1 : Int32) (x2 : Int32) (h : bb_H), k12 x0 x1 x2 h = some r → bb_J RX8 cX8_ways 3 (some .int) rm_X8_ways (some (.int r.1), r.2) 12 [.ref x0, .int x1, .int x2] [] h) : ∀ (x0 : Nat) (z0 : Int32) (z1 : Int32) (h : bb_H), m_X8_ways_29 k12 x0 z0 z1 h = some r → bb_J RX8 cX8_ways 3 (some .int) rm_X8_ways (some (.int r.1), r.2) 29 [.ref x0, .null, .null] [.int z1, .int z0] h := by
  intro x0 z0 z1 h hf
  unfold m_X8_ways_29 at hf
  refine bb_iadd dX8_ways_29 ?_
  refine bb_istore_n (L' := [.ref x0, .int (z0 + z1), .null]) dX8_ways_30 (by decide) rfl rfl ?_
  refine bb_aload_n dX8_ways_31 rfl ?_
  obtain ⟨r32, h32, hf⟩ := bb_bind hf
  obtain ⟨⟨v32, b32⟩, h32⟩ := bb_rcv_spec h32
  refine bb_invV (ci := 8) (as := []) iv_X8_151 (by unfold bb_rr; decide) rfl dX8_ways_32 rfl rfl b32 (Nat.le_of_ble_eq_true rfl) (ok_X8_nextOrder h32) ?_
  refine bb_istore_n (L' := [.ref x0, .int (z0 + z1), .int r32.1]) dX8_ways_35 (by decide) rfl rfl ?_
  refine bb_goto (tgt := 12) dX8_ways_36 (by decide) ?_
  refine bb_fewer (L' := [.ref x0, .int (z0 + z1), .int r32.1]) (And.intro rfl (And.intro rfl (And.intro rfl trivial))) ?_
  exact hk12 _ _ _ _ hf
set_option maxRecDepth 100000 in
set_option maxHeartbeats 4000000 in
theorem j_X8_ways_12 {r : Int32 × bb_H} : ∀ (n : Nat) (x0 : Nat) (x1 : Int32) (x2 : Int32) (h : bb_H), m_X8_ways_12 n x0 x1 x2 h = some r → bb_J RX8 cX8_ways 3 (some .int) rm_X8_ways (some (.int r.1), r.2) 12 [.ref x0, .int x1, .int x2] [] h := by
  intro n
  induction n with
  | zero =>
    intro x0 x1 x2 h hf
    exact absurd hf (fun z => by cases z)
  | succ n ih =>
    intro x0 x1 x2 h hf
    unfold m_X8_ways_12 at hf
    refine bb_iload_n dX8_ways_12 rfl ?_
    refine bb_if_eq (tgt := 39) dX8_ways_13 (by decide) (fun c13 => ?_) (fun c13 => ?_)
    · rw [if_pos c13] at hf
      refine bb_aload_n dX8_ways_39 rfl ?_
      obtain ⟨g40, h40, hf⟩ := bb_bind hf
      obtain ⟨⟨v40, b40⟩, h40⟩ := bb_rcv_spec h40
      refine bb_invV (ci := 8) (as := []) iv_X8_135 (by unfold bb_rr; decide) rfl dX8_ways_40 rfl rfl b40 (Nat.le_of_ble_eq_true rfl) (ok_X8_lets h40) ?_
      refine bb_iload_n dX8_ways_43 rfl ?_
      obtain rfl := Option.some.inj hf
      exact bb_iret rfl rfl dX8_ways_44
    rw [if_neg c13] at hf
    refine bb_iload_n dX8_ways_16 rfl ?_
    refine bb_aload_n dX8_ways_17 rfl ?_
    obtain ⟨r18, h18, hf⟩ := bb_bind hf
    obtain ⟨⟨v18, b18⟩, h18⟩ := bb_rcv_spec h18
    refine bb_invV (ci := 8) (as := []) iv_X8_116 (by unfold bb_rr; decide) rfl dX8_ways_18 rfl rfl b18 (Nat.le_of_ble_eq_true rfl) (ok_X8_wrong h18) ?_
    refine bb_if_ne (tgt := 28) dX8_ways_21 (by decide) (fun c21 => ?_) (fun c21 => ?_)
    · rw [if_neg c21] at hf
      refine bb_iconst (v := 0) dX8_ways_28 (by decide) ?_
      refine bb_fewer (L' := [.ref x0, .null, .null]) (And.intro rfl trivial) ?_
      exact j_X8_ways_29 ih _ _ _ _ hf
    rw [if_pos c21] at hf
    refine bb_iconst (v := 1) dX8_ways_24 (by decide) ?_
    refine bb_goto (tgt := 29) dX8_ways_25 (by decide) ?_
    refine bb_fewer (L' := [.ref x0, .null, .null]) (And.intro rfl trivial) ?_
    exact j_X8_ways_29 ih _ _ _ _ hf
set_option maxRecDepth 100000 in
set_option maxHeartbeats 4000000 in
theorem j_X8_ways_0 {r : Int32 × bb_H} : ∀ (x0 : Nat) (h : bb_H), m_X8_ways x0 h = some r → bb_J RX8 cX8_ways 3 (some .int) rm_X8_ways (some (.int r.1), r.2) 0 [.ref x0, .null, .null] [] h := by
  intro x0 h hf
  unfold m_X8_ways at hf
  refine bb_aload_n dX8_ways_0 rfl ?_
  obtain ⟨g1, h1, hf⟩ := bb_bind hf
  obtain ⟨⟨v1, b1⟩, h1⟩ := bb_rcv_spec h1
  refine bb_invV (ci := 8) (as := []) iv_X8_132 (by unfold bb_rr; decide) rfl dX8_ways_1 rfl rfl b1 (Nat.le_of_ble_eq_true rfl) (ok_X8_holds h1) ?_
  refine bb_aload_n dX8_ways_4 rfl ?_
  obtain ⟨g5, h5, hf⟩ := bb_bind hf
  obtain ⟨⟨v5, b5⟩, h5⟩ := bb_rcv_spec h5
  refine bb_invV (ci := 8) (as := []) iv_X8_148 (by unfold bb_rr; decide) rfl dX8_ways_5 rfl rfl b5 (Nat.le_of_ble_eq_true rfl) (ok_X8_firstOrder h5) ?_
  refine bb_iconst (v := 0) dX8_ways_8 (by decide) ?_
  refine bb_istore_n (L' := [.ref x0, .int 0, .null]) dX8_ways_9 (by decide) rfl rfl ?_
  refine bb_iconst (v := 1) dX8_ways_10 (by decide) ?_
  refine bb_istore_n (L' := [.ref x0, .int 0, .int 1]) dX8_ways_11 (by decide) rfl rfl ?_
  refine bb_fewer (L' := [.ref x0, .int 0, .int 1]) (And.intro rfl (And.intro rfl (And.intro rfl trivial))) ?_
  exact j_X8_ways_12 _ _ _ _ _ hf
theorem ok_X8_ways {x0 : Nat} {h : bb_H} {r : Int32 × bb_H} (hf : m_X8_ways x0 h = some r) : bb_Ok yX8_ways cX8_ways 3 (some .int) rm_X8_ways [.ref x0] h (some (.int r.1), r.2) :=
  bb_ok (L := [.ref x0, .null, .null]) (by decide) (Nat.le_of_ble_eq_true rfl) rfl (bb_fewer (L' := [.ref x0, .null, .null]) (And.intro rfl trivial) (j_X8_ways_0 _ _ hf))
abbrev rm_X8_ease : Room := { frames := 2, cells := 0, slots := 0, locals := 51 }
set_option maxRecDepth 100000 in
set_option maxHeartbeats 4000000 in
theorem j_X8_ease_63 {r : Int32 × bb_H} {k24 : Nat → Int32 → Int32 → Int32 → Int32 → bb_H → Option (Int32 × bb_H)} (hk24 : ∀ (x0 : Nat) (x1 : Int32) (x2 : Int32) (x3 : Int32) (x4 : Int32) (h : bb_H), k24 x0 x1 x2 x3 x4 h = some r → bb_J RX8 cX8_ease 6 (some .int) rm_X8_ease (some (.int r.1), r.2) 24 [.ref x0, .int x1, .int x2, .int x3, .int x4, .null] [] h) : ∀ (x0 : Nat) (x1 : Int32) (x3 : Int32) (z0 : Int32) (h : bb_H), m_X8_ease_63 k24 x0 x1 x3 z0 h = some r → bb_J RX8 cX8_ease 6 (some .int) rm_X8_ease (some (.int r.1), r.2) 63 [.ref x0, .int x1, .null, .int x3, .null, .null] [.int z0] h := by
  intro x0 x1 x3 z0 h hf
  unfold m_X8_ease_63 at hf
  refine bb_istore_n (L' := [.ref x0, .int x1, .int z0, .int x3, .null, .null]) dX8_ease_63 (by decide) rfl rfl ?_
  refine bb_aload_n dX8_ease_64 rfl ?_
  obtain ⟨r65, h65, hf⟩ := bb_bind hf
  obtain ⟨⟨v65, b65⟩, h65⟩ := bb_rcv_spec h65
  refine bb_invV (ci := 8) (as := []) iv_X8_151 (by unfold bb_rr; decide) rfl dX8_ease_65 rfl rfl b65 (Nat.le_of_ble_eq_true rfl) (ok_X8_nextOrder h65) ?_
  refine bb_istore (L' := [.ref x0, .int x1, .int z0, .int x3, .int r65.1, .null]) dX8_ease_68 (by decide) rfl rfl ?_
  refine bb_goto (tgt := 24) dX8_ease_70 (by decide) ?_
  refine bb_fewer (L' := [.ref x0, .int x1, .int z0, .int x3, .int r65.1, .null]) (And.intro rfl (And.intro rfl (And.intro rfl (And.intro rfl (And.intro rfl trivial))))) ?_
  exact hk24 _ _ _ _ _ _ hf
set_option maxRecDepth 100000 in
set_option maxHeartbeats 4000000 in
theorem j_X8_ease_50 {r : Int32 × bb_H} {k24 : Nat → Int32 → Int32 → Int32 → Int32 → bb_H → Option (Int32 × bb_H)} (hk24 : ∀ (x0 : Nat) (x1 : Int32) (x2 : Int32) (x3 : Int32) (x4 : Int32) (h : bb_H), k24 x0 x1 x2 x3 x4 h = some r → bb_J RX8 cX8_ease 6 (some .int) rm_X8_ease (some (.int r.1), r.2) 24 [.ref x0, .int x1, .int x2, .int x3, .int x4, .null] [] h) : ∀ (x0 : Nat) (x1 : Int32) (x2 : Int32) (x5 : Int32) (z0 : Int32) (h : bb_H), m_X8_ease_50 k24 x0 x1 x2 x5 z0 h = some r → bb_J RX8 cX8_ease 6 (some .int) rm_X8_ease (some (.int r.1), r.2) 50 [.ref x0, .int x1, .int x2, .null, .null, .int x5] [.int z0] h := by
  intro x0 x1 x2 x5 z0 h hf
  unfold m_X8_ease_50 at hf
  refine bb_istore_n (L' := [.ref x0, .int x1, .int x2, .int z0, .null, .int x5]) dX8_ease_50 (by decide) rfl rfl ?_
  refine bb_iload dX8_ease_51 rfl ?_
  refine bb_iload_n dX8_ease_53 rfl ?_
  refine bb_icmp_ge (tgt := 62) dX8_ease_54 (by decide) (fun c54 => ?_) (fun c54 => ?_)
  · rw [if_pos c54] at hf
    refine bb_iload_n dX8_ease_62 rfl ?_
    refine bb_fewer (L' := [.ref x0, .int x1, .null, .int z0, .null, .null]) (And.intro rfl (And.intro rfl (And.intro rfl trivial))) ?_
    exact j_X8_ease_63 hk24 _ _ _ _ _ hf
  rw [if_neg c54] at hf
  refine bb_iload dX8_ease_57 rfl ?_
  refine bb_goto (tgt := 63) dX8_ease_59 (by decide) ?_
  refine bb_fewer (L' := [.ref x0, .int x1, .null, .int z0, .null, .null]) (And.intro rfl (And.intro rfl (And.intro rfl trivial))) ?_
  exact j_X8_ease_63 hk24 _ _ _ _ _ hf
set_option maxRecDepth 100000 in
set_option maxHeartbeats 4000000 in
theorem j_X8_ease_87 {r : Int32 × bb_H} : ∀ (z0 : Int32) (h : bb_H), m_X8_ease_87 z0 h = some r → bb_J RX8 cX8_ease 6 (some .int) rm_X8_ease (some (.int r.1), r.2) 87 [.null, .null, .null, .null, .null, .null] [.int z0] h := by
  intro z0 h hf
  unfold m_X8_ease_87 at hf
  obtain rfl := Option.some.inj hf
  exact bb_iret rfl rfl dX8_ease_87
set_option maxRecDepth 100000 in
set_option maxHeartbeats 4000000 in
theorem j_X8_ease_24 {r : Int32 × bb_H} : ∀ (n : Nat) (x0 : Nat) (x1 : Int32) (x2 : Int32) (x3 : Int32) (x4 : Int32) (h : bb_H), m_X8_ease_24 n x0 x1 x2 x3 x4 h = some r → bb_J RX8 cX8_ease 6 (some .int) rm_X8_ease (some (.int r.1), r.2) 24 [.ref x0, .int x1, .int x2, .int x3, .int x4, .null] [] h := by
  intro n
  induction n with
  | zero =>
    intro x0 x1 x2 x3 x4 h hf
    exact absurd hf (fun z => by cases z)
  | succ n ih =>
    intro x0 x1 x2 x3 x4 h hf
    unfold m_X8_ease_24 at hf
    refine bb_iload dX8_ease_24 rfl ?_
    refine bb_if_eq (tgt := 73) dX8_ease_26 (by decide) (fun c26 => ?_) (fun c26 => ?_)
    · rw [if_pos c26] at hf
      refine bb_aload_n dX8_ease_73 rfl ?_
      obtain ⟨g74, h74, hf⟩ := bb_bind hf
      obtain ⟨⟨v74, b74⟩, h74⟩ := bb_rcv_spec h74
      refine bb_invV (ci := 8) (as := []) iv_X8_135 (by unfold bb_rr; decide) rfl dX8_ease_74 rfl rfl b74 (Nat.le_of_ble_eq_true rfl) (ok_X8_lets h74) ?_
      refine bb_iload_n dX8_ease_77 rfl ?_
      refine bb_iconst (v := (-1)) dX8_ease_78 (by decide) ?_
      refine bb_icmp_ne (tgt := 86) dX8_ease_79 (by decide) (fun c79 => ?_) (fun c79 => ?_)
      · rw [if_neg c79] at hf
        refine bb_iload_n dX8_ease_86 rfl ?_
        refine bb_fewer (L' := [.null, .null, .null, .null, .null, .null]) trivial ?_
        exact j_X8_ease_87 _ _ hf
      rw [if_pos c79] at hf
      refine bb_iload_n dX8_ease_82 rfl ?_
      refine bb_goto (tgt := 87) dX8_ease_83 (by decide) ?_
      refine bb_fewer (L' := [.null, .null, .null, .null, .null, .null]) trivial ?_
      exact j_X8_ease_87 _ _ hf
    rw [if_neg c26] at hf
    refine bb_aload_n dX8_ease_29 rfl ?_
    obtain ⟨r30, h30, hf⟩ := bb_bind hf
    obtain ⟨⟨v30, b30⟩, h30⟩ := bb_rcv_spec h30
    refine bb_invV (ci := 8) (as := []) iv_X8_116 (by unfold bb_rr; decide) rfl dX8_ease_30 rfl rfl b30 (Nat.le_of_ble_eq_true rfl) (ok_X8_wrong h30) ?_
    refine bb_istore (L' := [.ref x0, .int x1, .int x2, .int x3, .int x4, .int r30.1]) dX8_ease_33 (by decide) rfl rfl ?_
    refine bb_iload dX8_ease_35 rfl ?_
    refine bb_iload_n dX8_ease_37 rfl ?_
    refine bb_icmp_ge (tgt := 49) dX8_ease_38 (by decide) (fun c38 => ?_) (fun c38 => ?_)
    · rw [if_pos c38] at hf
      refine bb_iload_n dX8_ease_49 rfl ?_
      refine bb_fewer (L' := [.ref x0, .int x1, .int x2, .null, .null, .int r30.1]) (And.intro rfl (And.intro rfl (And.intro rfl (And.intro rfl trivial)))) ?_
      exact j_X8_ease_50 ih _ _ _ _ _ _ hf
    rw [if_neg c38] at hf
    refine bb_aload_n dX8_ease_41 rfl ?_
    refine bb_iload_n dX8_ease_42 rfl ?_
    obtain ⟨r43, h43, hf⟩ := bb_bind hf
    obtain ⟨⟨v43, b43⟩, h43⟩ := bb_rcv_spec h43
    refine bb_invV (ci := 8) (as := [.int x1]) iv_X8_63 (by unfold bb_rr; decide) rfl dX8_ease_43 rfl rfl b43 (Nat.le_of_ble_eq_true rfl) (ok_X8_onSeat h43) ?_
    refine bb_goto (tgt := 50) dX8_ease_46 (by decide) ?_
    refine bb_fewer (L' := [.ref x0, .int x1, .int x2, .null, .null, .int r30.1]) (And.intro rfl (And.intro rfl (And.intro rfl (And.intro rfl trivial)))) ?_
    exact j_X8_ease_50 ih _ _ _ _ _ _ hf
set_option maxRecDepth 100000 in
set_option maxHeartbeats 4000000 in
theorem j_X8_ease_0 {r : Int32 × bb_H} : ∀ (x0 : Nat) (x1 : Int32) (h : bb_H), m_X8_ease x0 x1 h = some r → bb_J RX8 cX8_ease 6 (some .int) rm_X8_ease (some (.int r.1), r.2) 0 [.ref x0, .int x1, .null, .null, .null, .null] [] h := by
  intro x0 x1 h hf
  unfold m_X8_ease at hf
  refine bb_iload_n dX8_ease_0 rfl ?_
  refine bb_iconst (v := (-1)) dX8_ease_1 (by decide) ?_
  refine bb_icmp_ge (tgt := 7) dX8_ease_2 (by decide) (fun c2 => ?_) (fun c2 => ?_)
  · rw [if_pos c2] at hf
    refine bb_aload_n dX8_ease_7 rfl ?_
    obtain ⟨g8, h8, hf⟩ := bb_bind hf
    obtain ⟨⟨v8, b8⟩, h8⟩ := bb_rcv_spec h8
    refine bb_invV (ci := 8) (as := []) iv_X8_132 (by unfold bb_rr; decide) rfl dX8_ease_8 rfl rfl b8 (Nat.le_of_ble_eq_true rfl) (ok_X8_holds h8) ?_
    refine bb_aload_n dX8_ease_11 rfl ?_
    obtain ⟨g12, h12, hf⟩ := bb_bind hf
    obtain ⟨⟨v12, b12⟩, h12⟩ := bb_rcv_spec h12
    refine bb_invV (ci := 8) (as := []) iv_X8_148 (by unfold bb_rr; decide) rfl dX8_ease_12 rfl rfl b12 (Nat.le_of_ble_eq_true rfl) (ok_X8_firstOrder h12) ?_
    refine bb_bipush (v := 99) dX8_ease_15 (by decide) ?_
    refine bb_istore_n (L' := [.ref x0, .int x1, .int 99, .null, .null, .null]) dX8_ease_17 (by decide) rfl rfl ?_
    refine bb_bipush (v := (-4)) dX8_ease_18 (by decide) ?_
    refine bb_istore_n (L' := [.ref x0, .int x1, .int 99, .int (-4), .null, .null]) dX8_ease_20 (by decide) rfl rfl ?_
    refine bb_iconst (v := 1) dX8_ease_21 (by decide) ?_
    refine bb_istore (L' := [.ref x0, .int x1, .int 99, .int (-4), .int 1, .null]) dX8_ease_22 (by decide) rfl rfl ?_
    refine bb_fewer (L' := [.ref x0, .int x1, .int 99, .int (-4), .int 1, .null]) (And.intro rfl (And.intro rfl (And.intro rfl (And.intro rfl (And.intro rfl trivial))))) ?_
    exact j_X8_ease_24 _ _ _ _ _ _ _ hf
  rw [if_neg c2] at hf
  refine bb_iconst (v := (-1)) dX8_ease_5 (by decide) ?_
  obtain rfl := Option.some.inj hf
  exact bb_iret rfl rfl dX8_ease_6
theorem ok_X8_ease {x0 : Nat} {x1 : Int32} {h : bb_H} {r : Int32 × bb_H} (hf : m_X8_ease x0 x1 h = some r) : bb_Ok yX8_ease cX8_ease 6 (some .int) rm_X8_ease [.ref x0, .int x1] h (some (.int r.1), r.2) :=
  bb_ok (L := [.ref x0, .int x1, .null, .null, .null, .null]) (by decide) (Nat.le_of_ble_eq_true rfl) rfl (bb_fewer (L' := [.ref x0, .int x1, .null, .null, .null, .null]) (And.intro rfl (And.intro rfl trivial)) (j_X8_ease_0 _ _ _ hf))
abbrev rm_X8_left : Room := { frames := 5, cells := 0, slots := 0, locals := 113 }
set_option maxRecDepth 100000 in
set_option maxHeartbeats 4000000 in
theorem j_X8_left_16 {r : Int32 × bb_H} : ∀ (h : bb_H), m_X8_left_16 h = some r → bb_J RX8 cX8_left 9 (some .int) rm_X8_left (some (.int r.1), r.2) 16 [.null, .null, .null, .null, .null, .null, .null, .null, .null] [] h := by
  intro h hf
  unfold m_X8_left_16 at hf
  refine bb_iconst (v := (-1)) dX8_left_16 (by decide) ?_
  obtain rfl := Option.some.inj hf
  exact bb_iret rfl rfl dX8_left_17
set_option maxRecDepth 100000 in
set_option maxHeartbeats 4000000 in
theorem j_X8_left_148 {r : Int32 × bb_H} {k38 : Nat → Int32 → Int32 → Int32 → Int32 → Int32 → Int32 → bb_H → Option (Int32 × bb_H)} (hk38 : ∀ (x0 : Nat) (x1 : Int32) (x2 : Int32) (x3 : Int32) (x4 : Int32) (x5 : Int32) (x6 : Int32) (h : bb_H), k38 x0 x1 x2 x3 x4 x5 x6 h = some r → bb_J RX8 cX8_left 9 (some .int) rm_X8_left (some (.int r.1), r.2) 38 [.ref x0, .int x1, .int x2, .int x3, .int x4, .int x5, .int x6, .null, .null] [] h) : ∀ (n : Nat) (x0 : Nat) (x1 : Int32) (x2 : Int32) (x3 : Int32) (x4 : Int32) (x5 : Int32) (x8 : Int32) (h : bb_H), m_X8_left_148 k38 n x0 x1 x2 x3 x4 x5 x8 h = some r → bb_J RX8 cX8_left 9 (some .int) rm_X8_left (some (.int r.1), r.2) 148 [.ref x0, .int x1, .int x2, .int x3, .int x4, .int x5, .null, .null, .int x8] [] h := by
  intro n
  induction n with
  | zero =>
    intro x0 x1 x2 x3 x4 x5 x8 h hf
    exact absurd hf (fun z => by cases z)
  | succ n ih =>
    intro x0 x1 x2 x3 x4 x5 x8 h hf
    unfold m_X8_left_148 at hf
    refine bb_iload dX8_left_148 rfl ?_
    refine bb_bipush (v := 40) dX8_left_150 (by decide) ?_
    refine bb_icmp_ge (tgt := 175) dX8_left_152 (by decide) (fun c152 => ?_) (fun c152 => ?_)
    · rw [if_pos c152] at hf
      refine bb_aload_n dX8_left_175 rfl ?_
      obtain ⟨r176, h176, hf⟩ := bb_bind hf
      obtain ⟨⟨v176, b176⟩, h176⟩ := bb_rcv_spec h176
      refine bb_invV (ci := 8) (as := []) iv_X8_151 (by unfold bb_rr; decide) rfl dX8_left_176 rfl rfl b176 (Nat.le_of_ble_eq_true rfl) (ok_X8_nextOrder h176) ?_
      refine bb_istore (L' := [.ref x0, .int x1, .int x2, .int x3, .int x4, .int x5, .int r176.1, .null, .int x8]) dX8_left_179 (by decide) rfl rfl ?_
      refine bb_goto (tgt := 38) dX8_left_181 (by decide) ?_
      refine bb_fewer (L' := [.ref x0, .int x1, .int x2, .int x3, .int x4, .int x5, .int r176.1, .null, .null]) (And.intro rfl (And.intro rfl (And.intro rfl (And.intro rfl (And.intro rfl (And.intro rfl (And.intro rfl trivial))))))) ?_
      exact hk38 _ _ _ _ _ _ _ _ hf
    rw [if_neg c152] at hf
    refine bb_aload_n dX8_left_155 rfl ?_
    obtain ⟨t156, h156, hf⟩ := bb_bind hf
    refine bb_getR fl_X8_7 dX8_left_156 h156 ?_
    refine bb_iload dX8_left_159 rfl ?_
    refine bb_aload_n dX8_left_161 rfl ?_
    obtain ⟨t162, h162, hf⟩ := bb_bind hf
    refine bb_getR fl_X8_41 dX8_left_162 h162 ?_
    refine bb_iload dX8_left_165 rfl ?_
    obtain ⟨t167, h167, hf⟩ := bb_bind hf
    refine bb_iaload dX8_left_167 h167 ?_
    obtain ⟨g168, h168, hf⟩ := bb_bind hf
    refine bb_iastore dX8_left_168 h168 ?_
    refine bb_iinc (v := x8 + 1) (L' := [.ref x0, .int x1, .int x2, .int x3, .int x4, .int x5, .null, .null, .int (x8 + 1)]) dX8_left_169 rfl rfl (by decide) rfl rfl ?_
    refine bb_goto (tgt := 148) dX8_left_172 (by decide) ?_
    refine bb_fewer (L' := [.ref x0, .int x1, .int x2, .int x3, .int x4, .int x5, .null, .null, .int (x8 + 1)]) (And.intro rfl (And.intro rfl (And.intro rfl (And.intro rfl (And.intro rfl (And.intro rfl (And.intro rfl trivial))))))) ?_
    exact ih _ _ _ _ _ _ _ _ hf
set_option maxRecDepth 100000 in
set_option maxHeartbeats 4000000 in
theorem j_X8_left_145 {r : Int32 × bb_H} {k38 : Nat → Int32 → Int32 → Int32 → Int32 → Int32 → Int32 → bb_H → Option (Int32 × bb_H)} (hk38 : ∀ (x0 : Nat) (x1 : Int32) (x2 : Int32) (x3 : Int32) (x4 : Int32) (x5 : Int32) (x6 : Int32) (h : bb_H), k38 x0 x1 x2 x3 x4 x5 x6 h = some r → bb_J RX8 cX8_left 9 (some .int) rm_X8_left (some (.int r.1), r.2) 38 [.ref x0, .int x1, .int x2, .int x3, .int x4, .int x5, .int x6, .null, .null] [] h) : ∀ (x0 : Nat) (x1 : Int32) (x2 : Int32) (x3 : Int32) (x4 : Int32) (x5 : Int32) (h : bb_H), m_X8_left_145 k38 x0 x1 x2 x3 x4 x5 h = some r → bb_J RX8 cX8_left 9 (some .int) rm_X8_left (some (.int r.1), r.2) 145 [.ref x0, .int x1, .int x2, .int x3, .int x4, .int x5, .null, .null, .null] [] h := by
  intro x0 x1 x2 x3 x4 x5 h hf
  unfold m_X8_left_145 at hf
  refine bb_iconst (v := 0) dX8_left_145 (by decide) ?_
  refine bb_istore (L' := [.ref x0, .int x1, .int x2, .int x3, .int x4, .int x5, .null, .null, .int 0]) dX8_left_146 (by decide) rfl rfl ?_
  refine bb_fewer (L' := [.ref x0, .int x1, .int x2, .int x3, .int x4, .int x5, .null, .null, .int 0]) (And.intro rfl (And.intro rfl (And.intro rfl (And.intro rfl (And.intro rfl (And.intro rfl (And.intro rfl trivial))))))) ?_
  exact j_X8_left_148 hk38 _ _ _ _ _ _ _ _ _ hf
set_option maxRecDepth 100000 in
set_option maxHeartbeats 4000000 in
theorem j_X8_left_128 {r : Int32 × bb_H} {k38 : Nat → Int32 → Int32 → Int32 → Int32 → Int32 → Int32 → bb_H → Option (Int32 × bb_H)} (hk38 : ∀ (x0 : Nat) (x1 : Int32) (x2 : Int32) (x3 : Int32) (x4 : Int32) (x5 : Int32) (x6 : Int32) (h : bb_H), k38 x0 x1 x2 x3 x4 x5 x6 h = some r → bb_J RX8 cX8_left 9 (some .int) rm_X8_left (some (.int r.1), r.2) 38 [.ref x0, .int x1, .int x2, .int x3, .int x4, .int x5, .int x6, .null, .null] [] h) : ∀ (x0 : Nat) (x1 : Int32) (x2 : Int32) (x7 : Int32) (h : bb_H), m_X8_left_128 k38 x0 x1 x2 x7 h = some r → bb_J RX8 cX8_left 9 (some .int) rm_X8_left (some (.int r.1), r.2) 128 [.ref x0, .int x1, .int x2, .null, .null, .null, .null, .int x7, .null] [] h := by
  intro x0 x1 x2 x7 h hf
  unfold m_X8_left_128 at hf
  refine bb_aload_n dX8_left_128 rfl ?_
  obtain ⟨t129, h129, hf⟩ := bb_bind hf
  refine bb_getR fl_X8_7 dX8_left_129 h129 ?_
  refine bb_iconst (v := 1) dX8_left_132 (by decide) ?_
  obtain ⟨t133, h133, hf⟩ := bb_bind hf
  refine bb_iaload dX8_left_133 h133 ?_
  refine bb_istore_n (L' := [.ref x0, .int x1, .int x2, .int t133, .null, .null, .null, .int x7, .null]) dX8_left_134 (by decide) rfl rfl ?_
  refine bb_aload_n dX8_left_135 rfl ?_
  obtain ⟨r136, h136, hf⟩ := bb_bind hf
  obtain ⟨⟨v136, b136⟩, h136⟩ := bb_rcv_spec h136
  refine bb_invV (ci := 8) (as := []) iv_X8_113 (by unfold bb_rr; decide) rfl dX8_left_136 rfl rfl b136 (Nat.le_of_ble_eq_true rfl) (ok_X8_lives h136) ?_
  refine bb_istore (L' := [.ref x0, .int x1, .int x2, .int t133, .int r136.1, .null, .null, .int x7, .null]) dX8_left_139 (by decide) rfl rfl ?_
  refine bb_iload dX8_left_141 rfl ?_
  refine bb_istore (L' := [.ref x0, .int x1, .int x2, .int t133, .int r136.1, .int x7, .null, .int x7, .null]) dX8_left_143 (by decide) rfl rfl ?_
  refine bb_fewer (L' := [.ref x0, .int x1, .int x2, .int t133, .int r136.1, .int x7, .null, .null, .null]) (And.intro rfl (And.intro rfl (And.intro rfl (And.intro rfl (And.intro rfl (And.intro rfl trivial)))))) ?_
  exact j_X8_left_145 hk38 _ _ _ _ _ _ _ hf
set_option maxRecDepth 100000 in
set_option maxHeartbeats 4000000 in
theorem j_X8_left_83 {r : Int32 × bb_H} {k38 : Nat → Int32 → Int32 → Int32 → Int32 → Int32 → Int32 → bb_H → Option (Int32 × bb_H)} (hk38 : ∀ (x0 : Nat) (x1 : Int32) (x2 : Int32) (x3 : Int32) (x4 : Int32) (x5 : Int32) (x6 : Int32) (h : bb_H), k38 x0 x1 x2 x3 x4 x5 x6 h = some r → bb_J RX8 cX8_left 9 (some .int) rm_X8_left (some (.int r.1), r.2) 38 [.ref x0, .int x1, .int x2, .int x3, .int x4, .int x5, .int x6, .null, .null] [] h) : ∀ (n : Nat) (x0 : Nat) (x1 : Int32) (x2 : Int32) (x3 : Int32) (x4 : Int32) (x5 : Int32) (x7 : Int32) (x8 : Int32) (h : bb_H), m_X8_left_83 k38 n x0 x1 x2 x3 x4 x5 x7 x8 h = some r → bb_J RX8 cX8_left 9 (some .int) rm_X8_left (some (.int r.1), r.2) 83 [.ref x0, .int x1, .int x2, .int x3, .int x4, .int x5, .null, .int x7, .int x8] [] h := by
  intro n
  induction n with
  | zero =>
    intro x0 x1 x2 x3 x4 x5 x7 x8 h hf
    exact absurd hf (fun z => by cases z)
  | succ n ih =>
    intro x0 x1 x2 x3 x4 x5 x7 x8 h hf
    unfold m_X8_left_83 at hf
    refine bb_iload dX8_left_83 rfl ?_
    refine bb_iload_n dX8_left_85 rfl ?_
    refine bb_icmp_ge (tgt := 99) dX8_left_86 (by decide) (fun c86 => ?_) (fun c86 => ?_)
    · rw [if_pos c86] at hf
      refine bb_aload_n dX8_left_99 rfl ?_
      obtain ⟨t100, h100, hf⟩ := bb_bind hf
      refine bb_getR fl_X8_7 dX8_left_100 h100 ?_
      refine bb_iconst (v := 1) dX8_left_103 (by decide) ?_
      obtain ⟨t104, h104, hf⟩ := bb_bind hf
      refine bb_iaload dX8_left_104 h104 ?_
      refine bb_iload_n dX8_left_105 rfl ?_
      refine bb_icmp_gt (tgt := 128) dX8_left_106 (by decide) (fun c106 => ?_) (fun c106 => ?_)
      · rw [if_pos c106] at hf
        refine bb_fewer (L' := [.ref x0, .int x1, .int x2, .null, .null, .null, .null, .int x7, .null]) (And.intro rfl (And.intro rfl (And.intro rfl (And.intro rfl trivial)))) ?_
        exact j_X8_left_128 hk38 _ _ _ _ _ hf
      rw [if_neg c106] at hf
      refine bb_aload_n dX8_left_109 rfl ?_
      obtain ⟨t110, h110, hf⟩ := bb_bind hf
      refine bb_getR fl_X8_7 dX8_left_110 h110 ?_
      refine bb_iconst (v := 1) dX8_left_113 (by decide) ?_
      obtain ⟨t114, h114, hf⟩ := bb_bind hf
      refine bb_iaload dX8_left_114 h114 ?_
      refine bb_iload_n dX8_left_115 rfl ?_
      refine bb_icmp_ne (tgt := 145) dX8_left_116 (by decide) (fun c116 => ?_) (fun c116 => ?_)
      · rw [if_neg c116] at hf
        refine bb_fewer (L' := [.ref x0, .int x1, .int x2, .int x3, .int x4, .int x5, .null, .null, .null]) (And.intro rfl (And.intro rfl (And.intro rfl (And.intro rfl (And.intro rfl (And.intro rfl trivial)))))) ?_
        exact j_X8_left_145 hk38 _ _ _ _ _ _ _ hf
      rw [if_pos c116] at hf
      refine bb_aload_n dX8_left_119 rfl ?_
      obtain ⟨r120, h120, hf⟩ := bb_bind hf
      obtain ⟨⟨v120, b120⟩, h120⟩ := bb_rcv_spec h120
      refine bb_invV (ci := 8) (as := []) iv_X8_113 (by unfold bb_rr; decide) rfl dX8_left_120 rfl rfl b120 (Nat.le_of_ble_eq_true rfl) (ok_X8_lives h120) ?_
      refine bb_iload dX8_left_123 rfl ?_
      refine bb_icmp_le (tgt := 145) dX8_left_125 (by decide) (fun c125 => ?_) (fun c125 => ?_)
      · rw [if_pos c125] at hf
        refine bb_fewer (L' := [.ref x0, .int x1, .int x2, .int x3, .int x4, .int x5, .null, .null, .null]) (And.intro rfl (And.intro rfl (And.intro rfl (And.intro rfl (And.intro rfl (And.intro rfl trivial)))))) ?_
        exact j_X8_left_145 hk38 _ _ _ _ _ _ _ hf
      rw [if_neg c125] at hf
      refine bb_fewer (L' := [.ref x0, .int x1, .int x2, .null, .null, .null, .null, .int x7, .null]) (And.intro rfl (And.intro rfl (And.intro rfl (And.intro rfl trivial)))) ?_
      exact j_X8_left_128 hk38 _ _ _ _ _ hf
    rw [if_neg c86] at hf
    refine bb_aload_n dX8_left_89 rfl ?_
    obtain ⟨g90, h90, hf⟩ := bb_bind hf
    obtain ⟨⟨v90, b90⟩, h90⟩ := bb_rcv_spec h90
    refine bb_invV (ci := 8) (as := []) iv_X8_122 (by unfold bb_rr; decide) rfl dX8_left_90 rfl rfl b90 (Nat.le_of_ble_eq_true rfl) (ok_X8_passes h90) ?_
    refine bb_iinc (v := x8 + 1) (L' := [.ref x0, .int x1, .int x2, .int x3, .int x4, .int x5, .null, .int x7, .int (x8 + 1)]) dX8_left_93 rfl rfl (by decide) rfl rfl ?_
    refine bb_goto (tgt := 83) dX8_left_96 (by decide) ?_
    refine bb_fewer (L' := [.ref x0, .int x1, .int x2, .int x3, .int x4, .int x5, .null, .int x7, .int (x8 + 1)]) (And.intro rfl (And.intro rfl (And.intro rfl (And.intro rfl (And.intro rfl (And.intro rfl (And.intro rfl (And.intro rfl trivial)))))))) ?_
    exact ih _ _ _ _ _ _ _ _ _ hf
set_option maxRecDepth 100000 in
set_option maxHeartbeats 4000000 in
theorem j_X8_left_46 {r : Int32 × bb_H} {k38 : Nat → Int32 → Int32 → Int32 → Int32 → Int32 → Int32 → bb_H → Option (Int32 × bb_H)} (hk38 : ∀ (x0 : Nat) (x1 : Int32) (x2 : Int32) (x3 : Int32) (x4 : Int32) (x5 : Int32) (x6 : Int32) (h : bb_H), k38 x0 x1 x2 x3 x4 x5 x6 h = some r → bb_J RX8 cX8_left 9 (some .int) rm_X8_left (some (.int r.1), r.2) 38 [.ref x0, .int x1, .int x2, .int x3, .int x4, .int x5, .int x6, .null, .null] [] h) : ∀ (n : Nat) (x0 : Nat) (x1 : Int32) (x2 : Int32) (x3 : Int32) (x4 : Int32) (x5 : Int32) (x7 : Int32) (h : bb_H), m_X8_left_46 k38 n x0 x1 x2 x3 x4 x5 x7 h = some r → bb_J RX8 cX8_left 9 (some .int) rm_X8_left (some (.int r.1), r.2) 46 [.ref x0, .int x1, .int x2, .int x3, .int x4, .int x5, .null, .int x7, .null] [] h := by
  intro n
  induction n with
  | zero =>
    intro x0 x1 x2 x3 x4 x5 x7 h hf
    exact absurd hf (fun z => by cases z)
  | succ n ih =>
    intro x0 x1 x2 x3 x4 x5 x7 h hf
    unfold m_X8_left_46 at hf
    refine bb_iload dX8_left_46 rfl ?_
    refine bb_bipush (v := 40) dX8_left_48 (by decide) ?_
    refine bb_icmp_ge (tgt := 73) dX8_left_50 (by decide) (fun c50 => ?_) (fun c50 => ?_)
    · rw [if_pos c50] at hf
      refine bb_aload_n dX8_left_73 rfl ?_
      refine bb_iload_n dX8_left_74 rfl ?_
      obtain ⟨r75, h75, hf⟩ := bb_bind hf
      obtain ⟨⟨v75, b75⟩, h75⟩ := bb_rcv_spec h75
      refine bb_invV (ci := 8) (as := [.int x2]) iv_X8_63 (by unfold bb_rr; decide) rfl dX8_left_75 rfl rfl b75 (Nat.le_of_ble_eq_true rfl) (ok_X8_onSeat h75) ?_
      refine bb_istore (L' := [.ref x0, .int x1, .int x2, .int x3, .int x4, .int x5, .null, .int r75.1, .null]) dX8_left_78 (by decide) rfl rfl ?_
      refine bb_iconst (v := 0) dX8_left_80 (by decide) ?_
      refine bb_istore (L' := [.ref x0, .int x1, .int x2, .int x3, .int x4, .int x5, .null, .int r75.1, .int 0]) dX8_left_81 (by decide) rfl rfl ?_
      refine bb_fewer (L' := [.ref x0, .int x1, .int x2, .int x3, .int x4, .int x5, .null, .int r75.1, .int 0]) (And.intro rfl (And.intro rfl (And.intro rfl (And.intro rfl (And.intro rfl (And.intro rfl (And.intro rfl (And.intro rfl trivial)))))))) ?_
      exact j_X8_left_83 hk38 _ _ _ _ _ _ _ _ _ _ hf
    rw [if_neg c50] at hf
    refine bb_aload_n dX8_left_53 rfl ?_
    obtain ⟨t54, h54, hf⟩ := bb_bind hf
    refine bb_getR fl_X8_41 dX8_left_54 h54 ?_
    refine bb_iload dX8_left_57 rfl ?_
    refine bb_aload_n dX8_left_59 rfl ?_
    obtain ⟨t60, h60, hf⟩ := bb_bind hf
    refine bb_getR fl_X8_7 dX8_left_60 h60 ?_
    refine bb_iload dX8_left_63 rfl ?_
    obtain ⟨t65, h65, hf⟩ := bb_bind hf
    refine bb_iaload dX8_left_65 h65 ?_
    obtain ⟨g66, h66, hf⟩ := bb_bind hf
    refine bb_iastore dX8_left_66 h66 ?_
    refine bb_iinc (v := x7 + 1) (L' := [.ref x0, .int x1, .int x2, .int x3, .int x4, .int x5, .null, .int (x7 + 1), .null]) dX8_left_67 rfl rfl (by decide) rfl rfl ?_
    refine bb_goto (tgt := 46) dX8_left_70 (by decide) ?_
    refine bb_fewer (L' := [.ref x0, .int x1, .int x2, .int x3, .int x4, .int x5, .null, .int (x7 + 1), .null]) (And.intro rfl (And.intro rfl (And.intro rfl (And.intro rfl (And.intro rfl (And.intro rfl (And.intro rfl trivial))))))) ?_
    exact ih _ _ _ _ _ _ _ _ hf
set_option maxRecDepth 100000 in
set_option maxHeartbeats 4000000 in
theorem j_X8_left_210 {r : Int32 × bb_H} : ∀ (z0 : Int32) (h : bb_H), m_X8_left_210 z0 h = some r → bb_J RX8 cX8_left 9 (some .int) rm_X8_left (some (.int r.1), r.2) 210 [.null, .null, .null, .null, .null, .null, .null, .null, .null] [.int z0] h := by
  intro z0 h hf
  unfold m_X8_left_210 at hf
  obtain rfl := Option.some.inj hf
  exact bb_iret rfl rfl dX8_left_210
set_option maxRecDepth 100000 in
set_option maxHeartbeats 4000000 in
theorem j_X8_left_38 {r : Int32 × bb_H} : ∀ (n : Nat) (x0 : Nat) (x1 : Int32) (x2 : Int32) (x3 : Int32) (x4 : Int32) (x5 : Int32) (x6 : Int32) (h : bb_H), m_X8_left_38 n x0 x1 x2 x3 x4 x5 x6 h = some r → bb_J RX8 cX8_left 9 (some .int) rm_X8_left (some (.int r.1), r.2) 38 [.ref x0, .int x1, .int x2, .int x3, .int x4, .int x5, .int x6, .null, .null] [] h := by
  intro n
  induction n with
  | zero =>
    intro x0 x1 x2 x3 x4 x5 x6 h hf
    exact absurd hf (fun z => by cases z)
  | succ n ih =>
    intro x0 x1 x2 x3 x4 x5 x6 h hf
    unfold m_X8_left_38 at hf
    refine bb_iload dX8_left_38 rfl ?_
    refine bb_if_eq (tgt := 184) dX8_left_40 (by decide) (fun c40 => ?_) (fun c40 => ?_)
    · rw [if_pos c40] at hf
      refine bb_aload_n dX8_left_184 rfl ?_
      obtain ⟨g185, h185, hf⟩ := bb_bind hf
      obtain ⟨⟨v185, b185⟩, h185⟩ := bb_rcv_spec h185
      refine bb_invV (ci := 8) (as := []) iv_X8_135 (by unfold bb_rr; decide) rfl dX8_left_185 rfl rfl b185 (Nat.le_of_ble_eq_true rfl) (ok_X8_lets h185) ?_
      refine bb_iload_n dX8_left_188 rfl ?_
      refine bb_iconst (v := (-1)) dX8_left_189 (by decide) ?_
      refine bb_icmp_ne (tgt := 197) dX8_left_190 (by decide) (fun c190 => ?_) (fun c190 => ?_)
      · rw [if_neg c190] at hf
        refine bb_iload_n dX8_left_197 rfl ?_
        refine bb_bipush (v := (-2)) dX8_left_198 (by decide) ?_
        refine bb_icmp_ne (tgt := 208) dX8_left_200 (by decide) (fun c200 => ?_) (fun c200 => ?_)
        · rw [if_neg c200] at hf
          refine bb_iload dX8_left_208 rfl ?_
          refine bb_fewer (L' := [.null, .null, .null, .null, .null, .null, .null, .null, .null]) trivial ?_
          exact j_X8_left_210 _ _ hf
        rw [if_pos c200] at hf
        refine bb_iload dX8_left_203 rfl ?_
        refine bb_goto (tgt := 210) dX8_left_205 (by decide) ?_
        refine bb_fewer (L' := [.null, .null, .null, .null, .null, .null, .null, .null, .null]) trivial ?_
        exact j_X8_left_210 _ _ hf
      rw [if_pos c190] at hf
      refine bb_iload_n dX8_left_193 rfl ?_
      refine bb_goto (tgt := 210) dX8_left_194 (by decide) ?_
      refine bb_fewer (L' := [.null, .null, .null, .null, .null, .null, .null, .null, .null]) trivial ?_
      exact j_X8_left_210 _ _ hf
    rw [if_neg c40] at hf
    refine bb_iconst (v := 0) dX8_left_43 (by decide) ?_
    refine bb_istore (L' := [.ref x0, .int x1, .int x2, .int x3, .int x4, .int x5, .int x6, .int 0, .null]) dX8_left_44 (by decide) rfl rfl ?_
    refine bb_fewer (L' := [.ref x0, .int x1, .int x2, .int x3, .int x4, .int x5, .null, .int 0, .null]) (And.intro rfl (And.intro rfl (And.intro rfl (And.intro rfl (And.intro rfl (And.intro rfl (And.intro rfl trivial))))))) ?_
    exact j_X8_left_46 ih _ _ _ _ _ _ _ _ _ hf
set_option maxRecDepth 100000 in
set_option maxHeartbeats 4000000 in
theorem j_X8_left_0 {r : Int32 × bb_H} : ∀ (x0 : Nat) (x1 : Int32) (x2 : Int32) (h : bb_H), m_X8_left x0 x1 x2 h = some r → bb_J RX8 cX8_left 9 (some .int) rm_X8_left (some (.int r.1), r.2) 0 [.ref x0, .int x1, .int x2, .null, .null, .null, .null, .null, .null] [] h := by
  intro x0 x1 x2 h hf
  unfold m_X8_left at hf
  refine bb_iload_n dX8_left_0 rfl ?_
  refine bb_iconst (v := 0) dX8_left_1 (by decide) ?_
  refine bb_bipush (v := 30) dX8_left_2 (by decide) ?_
  obtain ⟨r4, h4, hf⟩ := bb_bind hf
  refine bb_invS (as := [.int x1, .int 0, .int 30]) is_X8_44 (by unfold bb_rr; decide) dX8_left_4 rfl rfl (Nat.le_of_ble_eq_true rfl) (ok_X8_in h4) ?_
  refine bb_if_eq (tgt := 16) dX8_left_7 (by decide) (fun c7 => ?_) (fun c7 => ?_)
  · rw [if_pos c7] at hf
    refine bb_fewer (L' := [.null, .null, .null, .null, .null, .null, .null, .null, .null]) trivial ?_
    exact j_X8_left_16 _ hf
  rw [if_neg c7] at hf
  refine bb_iload_n dX8_left_10 rfl ?_
  refine bb_bipush (v := (-2)) dX8_left_11 (by decide) ?_
  refine bb_icmp_ge (tgt := 18) dX8_left_13 (by decide) (fun c13 => ?_) (fun c13 => ?_)
  · rw [if_pos c13] at hf
    refine bb_aload_n dX8_left_18 rfl ?_
    obtain ⟨g19, h19, hf⟩ := bb_bind hf
    obtain ⟨⟨v19, b19⟩, h19⟩ := bb_rcv_spec h19
    refine bb_invV (ci := 8) (as := []) iv_X8_132 (by unfold bb_rr; decide) rfl dX8_left_19 rfl rfl b19 (Nat.le_of_ble_eq_true rfl) (ok_X8_holds h19) ?_
    refine bb_aload_n dX8_left_22 rfl ?_
    obtain ⟨g23, h23, hf⟩ := bb_bind hf
    obtain ⟨⟨v23, b23⟩, h23⟩ := bb_rcv_spec h23
    refine bb_invV (ci := 8) (as := []) iv_X8_148 (by unfold bb_rr; decide) rfl dX8_left_23 rfl rfl b23 (Nat.le_of_ble_eq_true rfl) (ok_X8_firstOrder h23) ?_
    refine bb_iconst (v := (-1)) dX8_left_26 (by decide) ?_
    refine bb_istore_n (L' := [.ref x0, .int x1, .int x2, .int (-1), .null, .null, .null, .null, .null]) dX8_left_27 (by decide) rfl rfl ?_
    refine bb_iconst (v := (-1)) dX8_left_28 (by decide) ?_
    refine bb_istore (L' := [.ref x0, .int x1, .int x2, .int (-1), .int (-1), .null, .null, .null, .null]) dX8_left_29 (by decide) rfl rfl ?_
    refine bb_bipush (v := (-4)) dX8_left_31 (by decide) ?_
    refine bb_istore (L' := [.ref x0, .int x1, .int x2, .int (-1), .int (-1), .int (-4), .null, .null, .null]) dX8_left_33 (by decide) rfl rfl ?_
    refine bb_iconst (v := 1) dX8_left_35 (by decide) ?_
    refine bb_istore (L' := [.ref x0, .int x1, .int x2, .int (-1), .int (-1), .int (-4), .int 1, .null, .null]) dX8_left_36 (by decide) rfl rfl ?_
    refine bb_fewer (L' := [.ref x0, .int x1, .int x2, .int (-1), .int (-1), .int (-4), .int 1, .null, .null]) (And.intro rfl (And.intro rfl (And.intro rfl (And.intro rfl (And.intro rfl (And.intro rfl (And.intro rfl trivial))))))) ?_
    exact j_X8_left_38 _ _ _ _ _ _ _ _ _ hf
  rw [if_neg c13] at hf
  refine bb_fewer (L' := [.null, .null, .null, .null, .null, .null, .null, .null, .null]) trivial ?_
  exact j_X8_left_16 _ hf
theorem ok_X8_left {x0 : Nat} {x1 : Int32} {x2 : Int32} {h : bb_H} {r : Int32 × bb_H} (hf : m_X8_left x0 x1 x2 h = some r) : bb_Ok yX8_left cX8_left 9 (some .int) rm_X8_left [.ref x0, .int x1, .int x2] h (some (.int r.1), r.2) :=
  bb_ok (L := [.ref x0, .int x1, .int x2, .null, .null, .null, .null, .null, .null]) (by decide) (Nat.le_of_ble_eq_true rfl) rfl (bb_fewer (L' := [.ref x0, .int x1, .int x2, .null, .null, .null, .null, .null, .null]) (And.intro rfl (And.intro rfl (And.intro rfl trivial))) (j_X8_left_0 _ _ _ _ hf))
abbrev rm_X8_winter : Room := { frames := 1, cells := 0, slots := 0, locals := 29 }
set_option maxRecDepth 100000 in
set_option maxHeartbeats 4000000 in
theorem j_X8_winter_29 {r : Int32 × bb_H} : ∀ (h : bb_H), m_X8_winter_29 h = some r → bb_J RX8 cX8_winter 11 (some .int) rm_X8_winter (some (.int r.1), r.2) 29 [.null, .null, .null, .null, .null, .null, .null, .null, .null, .null, .null] [] h := by
  intro h hf
  unfold m_X8_winter_29 at hf
  refine bb_iconst (v := (-1)) dX8_winter_29 (by decide) ?_
  obtain rfl := Option.some.inj hf
  exact bb_iret rfl rfl dX8_winter_30
set_option maxRecDepth 100000 in
set_option maxHeartbeats 4000000 in
theorem j_X8_winter_200 {r : Int32 × bb_H} {k67 : Nat → Int32 → Int32 → Int32 → Int32 → Int32 → Int32 → bb_H → Option (Int32 × bb_H)} {k106 : Nat → Int32 → Int32 → Int32 → Int32 → Int32 → Int32 → Int32 → Int32 → Int32 → Int32 → bb_H → Option (Int32 × bb_H)} (hk67 : ∀ (x0 : Nat) (x1 : Int32) (x2 : Int32) (x3 : Int32) (x4 : Int32) (x5 : Int32) (x6 : Int32) (h : bb_H), k67 x0 x1 x2 x3 x4 x5 x6 h = some r → bb_J RX8 cX8_winter 11 (some .int) rm_X8_winter (some (.int r.1), r.2) 67 [.ref x0, .int x1, .int x2, .int x3, .int x4, .int x5, .int x6, .null, .null, .null, .null] [] h) (hk106 : ∀ (x0 : Nat) (x1 : Int32) (x2 : Int32) (x3 : Int32) (x4 : Int32) (x5 : Int32) (x6 : Int32) (x7 : Int32) (x8 : Int32) (x9 : Int32) (x10 : Int32) (h : bb_H), k106 x0 x1 x2 x3 x4 x5 x6 x7 x8 x9 x10 h = some r → bb_J RX8 cX8_winter 11 (some .int) rm_X8_winter (some (.int r.1), r.2) 106 [.ref x0, .int x1, .int x2, .int x3, .int x4, .int x5, .int x6, .int x7, .int x8, .int x9, .int x10] [] h) : ∀ (x0 : Nat) (x1 : Int32) (x2 : Int32) (x3 : Int32) (x4 : Int32) (x5 : Int32) (x6 : Int32) (x7 : Int32) (x8 : Int32) (x9 : Int32) (x10 : Int32) (h : bb_H), m_X8_winter_200 k67 k106 x0 x1 x2 x3 x4 x5 x6 x7 x8 x9 x10 h = some r → bb_J RX8 cX8_winter 11 (some .int) rm_X8_winter (some (.int r.1), r.2) 200 [.ref x0, .int x1, .int x2, .int x3, .int x4, .int x5, .int x6, .int x7, .int x8, .int x9, .int x10] [] h := by
  intro x0 x1 x2 x3 x4 x5 x6 x7 x8 x9 x10 h hf
  unfold m_X8_winter_200 at hf
  refine bb_iinc (v := x10 + 1) (L' := [.ref x0, .int x1, .int x2, .int x3, .int x4, .int x5, .int x6, .int x7, .int x8, .int x9, .int (x10 + 1)]) dX8_winter_200 rfl rfl (by decide) rfl rfl ?_
  refine bb_goto (tgt := 106) dX8_winter_203 (by decide) ?_
  refine bb_fewer (L' := [.ref x0, .int x1, .int x2, .int x3, .int x4, .int x5, .int x6, .int x7, .int x8, .int x9, .int (x10 + 1)]) (And.intro rfl (And.intro rfl (And.intro rfl (And.intro rfl (And.intro rfl (And.intro rfl (And.intro rfl (And.intro rfl (And.intro rfl (And.intro rfl (And.intro rfl trivial))))))))))) ?_
  exact hk106 _ _ _ _ _ _ _ _ _ _ _ _ hf
set_option maxRecDepth 100000 in
set_option maxHeartbeats 4000000 in
theorem j_X8_winter_186 {r : Int32 × bb_H} {k67 : Nat → Int32 → Int32 → Int32 → Int32 → Int32 → Int32 → bb_H → Option (Int32 × bb_H)} {k106 : Nat → Int32 → Int32 → Int32 → Int32 → Int32 → Int32 → Int32 → Int32 → Int32 → Int32 → bb_H → Option (Int32 × bb_H)} (hk67 : ∀ (x0 : Nat) (x1 : Int32) (x2 : Int32) (x3 : Int32) (x4 : Int32) (x5 : Int32) (x6 : Int32) (h : bb_H), k67 x0 x1 x2 x3 x4 x5 x6 h = some r → bb_J RX8 cX8_winter 11 (some .int) rm_X8_winter (some (.int r.1), r.2) 67 [.ref x0, .int x1, .int x2, .int x3, .int x4, .int x5, .int x6, .null, .null, .null, .null] [] h) (hk106 : ∀ (x0 : Nat) (x1 : Int32) (x2 : Int32) (x3 : Int32) (x4 : Int32) (x5 : Int32) (x6 : Int32) (x7 : Int32) (x8 : Int32) (x9 : Int32) (x10 : Int32) (h : bb_H), k106 x0 x1 x2 x3 x4 x5 x6 x7 x8 x9 x10 h = some r → bb_J RX8 cX8_winter 11 (some .int) rm_X8_winter (some (.int r.1), r.2) 106 [.ref x0, .int x1, .int x2, .int x3, .int x4, .int x5, .int x6, .int x7, .int x8, .int x9, .int x10] [] h) : ∀ (x0 : Nat) (x1 : Int32) (x2 : Int32) (x3 : Int32) (x4 : Int32) (x5 : Int32) (x6 : Int32) (x7 : Int32) (x10 : Int32) (z0 : Int32) (h : bb_H), m_X8_winter_186 k67 k106 x0 x1 x2 x3 x4 x5 x6 x7 x10 z0 h = some r → bb_J RX8 cX8_winter 11 (some .int) rm_X8_winter (some (.int r.1), r.2) 186 [.ref x0, .int x1, .int x2, .int x3, .int x4, .int x5, .int x6, .int x7, .null, .null, .int x10] [.int z0] h := by
  intro x0 x1 x2 x3 x4 x5 x6 x7 x10 z0 h hf
  unfold m_X8_winter_186 at hf
  refine bb_istore (L' := [.ref x0, .int x1, .int x2, .int x3, .int x4, .int x5, .int x6, .int x7, .null, .int z0, .int x10]) dX8_winter_186 (by decide) rfl rfl ?_
  refine bb_aload_n dX8_winter_188 rfl ?_
  obtain ⟨t189, h189, hf⟩ := bb_bind hf
  refine bb_getR fl_X8_7 dX8_winter_189 h189 ?_
  refine bb_bipush (v := 10) dX8_winter_192 (by decide) ?_
  refine bb_iload dX8_winter_194 rfl ?_
  refine bb_iadd dX8_winter_196 ?_
  obtain ⟨t197, h197, hf⟩ := bb_bind hf
  refine bb_iaload dX8_winter_197 h197 ?_
  refine bb_istore (L' := [.ref x0, .int x1, .int x2, .int x3, .int x4, .int x5, .int x6, .int x7, .int t197, .int z0, .int x10]) dX8_winter_198 (by decide) rfl rfl ?_
  refine bb_fewer (L' := [.ref x0, .int x1, .int x2, .int x3, .int x4, .int x5, .int x6, .int x7, .int t197, .int z0, .int x10]) (And.intro rfl (And.intro rfl (And.intro rfl (And.intro rfl (And.intro rfl (And.intro rfl (And.intro rfl (And.intro rfl (And.intro rfl (And.intro rfl (And.intro rfl trivial))))))))))) ?_
  exact j_X8_winter_200 hk67 hk106 _ _ _ _ _ _ _ _ _ _ _ _ hf
set_option maxRecDepth 100000 in
set_option maxHeartbeats 4000000 in
theorem j_X8_winter_181 {r : Int32 × bb_H} {k67 : Nat → Int32 → Int32 → Int32 → Int32 → Int32 → Int32 → bb_H → Option (Int32 × bb_H)} {k106 : Nat → Int32 → Int32 → Int32 → Int32 → Int32 → Int32 → Int32 → Int32 → Int32 → Int32 → bb_H → Option (Int32 × bb_H)} (hk67 : ∀ (x0 : Nat) (x1 : Int32) (x2 : Int32) (x3 : Int32) (x4 : Int32) (x5 : Int32) (x6 : Int32) (h : bb_H), k67 x0 x1 x2 x3 x4 x5 x6 h = some r → bb_J RX8 cX8_winter 11 (some .int) rm_X8_winter (some (.int r.1), r.2) 67 [.ref x0, .int x1, .int x2, .int x3, .int x4, .int x5, .int x6, .null, .null, .null, .null] [] h) (hk106 : ∀ (x0 : Nat) (x1 : Int32) (x2 : Int32) (x3 : Int32) (x4 : Int32) (x5 : Int32) (x6 : Int32) (x7 : Int32) (x8 : Int32) (x9 : Int32) (x10 : Int32) (h : bb_H), k106 x0 x1 x2 x3 x4 x5 x6 x7 x8 x9 x10 h = some r → bb_J RX8 cX8_winter 11 (some .int) rm_X8_winter (some (.int r.1), r.2) 106 [.ref x0, .int x1, .int x2, .int x3, .int x4, .int x5, .int x6, .int x7, .int x8, .int x9, .int x10] [] h) : ∀ (x0 : Nat) (x1 : Int32) (x2 : Int32) (x3 : Int32) (x4 : Int32) (x5 : Int32) (x6 : Int32) (x7 : Int32) (x10 : Int32) (h : bb_H), m_X8_winter_181 k67 k106 x0 x1 x2 x3 x4 x5 x6 x7 x10 h = some r → bb_J RX8 cX8_winter 11 (some .int) rm_X8_winter (some (.int r.1), r.2) 181 [.ref x0, .int x1, .int x2, .int x3, .int x4, .int x5, .int x6, .int x7, .null, .null, .int x10] [] h := by
  intro x0 x1 x2 x3 x4 x5 x6 x7 x10 h hf
  unfold m_X8_winter_181 at hf
  refine bb_iconst (v := 1) dX8_winter_181 (by decide) ?_
  refine bb_goto (tgt := 186) dX8_winter_182 (by decide) ?_
  refine bb_fewer (L' := [.ref x0, .int x1, .int x2, .int x3, .int x4, .int x5, .int x6, .int x7, .null, .null, .int x10]) (And.intro rfl (And.intro rfl (And.intro rfl (And.intro rfl (And.intro rfl (And.intro rfl (And.intro rfl (And.intro rfl (And.intro rfl trivial))))))))) ?_
  exact j_X8_winter_186 hk67 hk106 _ _ _ _ _ _ _ _ _ _ _ hf
set_option maxRecDepth 100000 in
set_option maxHeartbeats 4000000 in
theorem j_X8_winter_185 {r : Int32 × bb_H} {k67 : Nat → Int32 → Int32 → Int32 → Int32 → Int32 → Int32 → bb_H → Option (Int32 × bb_H)} {k106 : Nat → Int32 → Int32 → Int32 → Int32 → Int32 → Int32 → Int32 → Int32 → Int32 → Int32 → bb_H → Option (Int32 × bb_H)} (hk67 : ∀ (x0 : Nat) (x1 : Int32) (x2 : Int32) (x3 : Int32) (x4 : Int32) (x5 : Int32) (x6 : Int32) (h : bb_H), k67 x0 x1 x2 x3 x4 x5 x6 h = some r → bb_J RX8 cX8_winter 11 (some .int) rm_X8_winter (some (.int r.1), r.2) 67 [.ref x0, .int x1, .int x2, .int x3, .int x4, .int x5, .int x6, .null, .null, .null, .null] [] h) (hk106 : ∀ (x0 : Nat) (x1 : Int32) (x2 : Int32) (x3 : Int32) (x4 : Int32) (x5 : Int32) (x6 : Int32) (x7 : Int32) (x8 : Int32) (x9 : Int32) (x10 : Int32) (h : bb_H), k106 x0 x1 x2 x3 x4 x5 x6 x7 x8 x9 x10 h = some r → bb_J RX8 cX8_winter 11 (some .int) rm_X8_winter (some (.int r.1), r.2) 106 [.ref x0, .int x1, .int x2, .int x3, .int x4, .int x5, .int x6, .int x7, .int x8, .int x9, .int x10] [] h) : ∀ (x0 : Nat) (x1 : Int32) (x2 : Int32) (x3 : Int32) (x4 : Int32) (x5 : Int32) (x6 : Int32) (x7 : Int32) (x10 : Int32) (h : bb_H), m_X8_winter_185 k67 k106 x0 x1 x2 x3 x4 x5 x6 x7 x10 h = some r → bb_J RX8 cX8_winter 11 (some .int) rm_X8_winter (some (.int r.1), r.2) 185 [.ref x0, .int x1, .int x2, .int x3, .int x4, .int x5, .int x6, .int x7, .null, .null, .int x10] [] h := by
  intro x0 x1 x2 x3 x4 x5 x6 x7 x10 h hf
  unfold m_X8_winter_185 at hf
  refine bb_iconst (v := 0) dX8_winter_185 (by decide) ?_
  refine bb_fewer (L' := [.ref x0, .int x1, .int x2, .int x3, .int x4, .int x5, .int x6, .int x7, .null, .null, .int x10]) (And.intro rfl (And.intro rfl (And.intro rfl (And.intro rfl (And.intro rfl (And.intro rfl (And.intro rfl (And.intro rfl (And.intro rfl trivial))))))))) ?_
  exact j_X8_winter_186 hk67 hk106 _ _ _ _ _ _ _ _ _ _ _ hf
set_option maxRecDepth 100000 in
set_option maxHeartbeats 4000000 in
theorem j_X8_winter_137 {r : Int32 × bb_H} {k67 : Nat → Int32 → Int32 → Int32 → Int32 → Int32 → Int32 → bb_H → Option (Int32 × bb_H)} {k106 : Nat → Int32 → Int32 → Int32 → Int32 → Int32 → Int32 → Int32 → Int32 → Int32 → Int32 → bb_H → Option (Int32 × bb_H)} (hk67 : ∀ (x0 : Nat) (x1 : Int32) (x2 : Int32) (x3 : Int32) (x4 : Int32) (x5 : Int32) (x6 : Int32) (h : bb_H), k67 x0 x1 x2 x3 x4 x5 x6 h = some r → bb_J RX8 cX8_winter 11 (some .int) rm_X8_winter (some (.int r.1), r.2) 67 [.ref x0, .int x1, .int x2, .int x3, .int x4, .int x5, .int x6, .null, .null, .null, .null] [] h) (hk106 : ∀ (x0 : Nat) (x1 : Int32) (x2 : Int32) (x3 : Int32) (x4 : Int32) (x5 : Int32) (x6 : Int32) (x7 : Int32) (x8 : Int32) (x9 : Int32) (x10 : Int32) (h : bb_H), k106 x0 x1 x2 x3 x4 x5 x6 x7 x8 x9 x10 h = some r → bb_J RX8 cX8_winter 11 (some .int) rm_X8_winter (some (.int r.1), r.2) 106 [.ref x0, .int x1, .int x2, .int x3, .int x4, .int x5, .int x6, .int x7, .int x8, .int x9, .int x10] [] h) : ∀ (x0 : Nat) (x1 : Int32) (x2 : Int32) (x3 : Int32) (x4 : Int32) (x5 : Int32) (x6 : Int32) (x8 : Int32) (x9 : Int32) (x10 : Int32) (z0 : Int32) (z1 : Int32) (h : bb_H), m_X8_winter_137 k67 k106 x0 x1 x2 x3 x4 x5 x6 x8 x9 x10 z0 z1 h = some r → bb_J RX8 cX8_winter 11 (some .int) rm_X8_winter (some (.int r.1), r.2) 137 [.ref x0, .int x1, .int x2, .int x3, .int x4, .int x5, .int x6, .null, .int x8, .int x9, .int x10] [.int z1, .int z0] h := by
  intro x0 x1 x2 x3 x4 x5 x6 x8 x9 x10 z0 z1 h hf
  unfold m_X8_winter_137 at hf
  refine bb_imul dX8_winter_137 ?_
  refine bb_istore (L' := [.ref x0, .int x1, .int x2, .int x3, .int x4, .int x5, .int x6, .int (z0 * z1), .int x8, .int x9, .int x10]) dX8_winter_138 (by decide) rfl rfl ?_
  refine bb_iload dX8_winter_140 rfl ?_
  refine bb_iload dX8_winter_142 rfl ?_
  obtain ⟨r144, h144, hf⟩ := bb_bind hf
  refine bb_invS (as := [.int x6, .int x10]) is_X8_79 (by unfold bb_rr; decide) dX8_winter_144 rfl rfl (Nat.le_of_ble_eq_true rfl) (ok_X8_has h144) ?_
  refine bb_if_eq (tgt := 200) dX8_winter_147 (by decide) (fun c147 => ?_) (fun c147 => ?_)
  · rw [if_pos c147] at hf
    refine bb_fewer (L' := [.ref x0, .int x1, .int x2, .int x3, .int x4, .int x5, .int x6, .int (z0 * z1), .int x8, .int x9, .int x10]) (And.intro rfl (And.intro rfl (And.intro rfl (And.intro rfl (And.intro rfl (And.intro rfl (And.intro rfl (And.intro rfl (And.intro rfl (And.intro rfl (And.intro rfl trivial))))))))))) ?_
    exact j_X8_winter_200 hk67 hk106 _ _ _ _ _ _ _ _ _ _ _ _ hf
  rw [if_neg c147] at hf
  refine bb_iload dX8_winter_150 rfl ?_
  refine bb_if_eq (tgt := 185) dX8_winter_152 (by decide) (fun c152 => ?_) (fun c152 => ?_)
  · rw [if_pos c152] at hf
    refine bb_fewer (L' := [.ref x0, .int x1, .int x2, .int x3, .int x4, .int x5, .int x6, .int (z0 * z1), .null, .null, .int x10]) (And.intro rfl (And.intro rfl (And.intro rfl (And.intro rfl (And.intro rfl (And.intro rfl (And.intro rfl (And.intro rfl (And.intro rfl trivial))))))))) ?_
    exact j_X8_winter_185 hk67 hk106 _ _ _ _ _ _ _ _ _ _ hf
  rw [if_neg c152] at hf
  refine bb_iload dX8_winter_155 rfl ?_
  refine bb_bipush (v := (-4)) dX8_winter_157 (by decide) ?_
  refine bb_icmp_eq (tgt := 181) dX8_winter_159 (by decide) (fun c159 => ?_) (fun c159 => ?_)
  · rw [if_pos c159] at hf
    refine bb_fewer (L' := [.ref x0, .int x1, .int x2, .int x3, .int x4, .int x5, .int x6, .int (z0 * z1), .null, .null, .int x10]) (And.intro rfl (And.intro rfl (And.intro rfl (And.intro rfl (And.intro rfl (And.intro rfl (And.intro rfl (And.intro rfl (And.intro rfl trivial))))))))) ?_
    exact j_X8_winter_181 hk67 hk106 _ _ _ _ _ _ _ _ _ _ hf
  rw [if_neg c159] at hf
  refine bb_aload_n dX8_winter_162 rfl ?_
  refine bb_iload dX8_winter_163 rfl ?_
  refine bb_aload_n dX8_winter_165 rfl ?_
  obtain ⟨t166, h166, hf⟩ := bb_bind hf
  refine bb_getR fl_X8_7 dX8_winter_166 h166 ?_
  refine bb_bipush (v := 10) dX8_winter_169 (by decide) ?_
  refine bb_iload dX8_winter_171 rfl ?_
  refine bb_iadd dX8_winter_173 ?_
  obtain ⟨t174, h174, hf⟩ := bb_bind hf
  refine bb_iaload dX8_winter_174 h174 ?_
  obtain ⟨r175, h175, hf⟩ := bb_bind hf
  obtain ⟨⟨v175, b175⟩, h175⟩ := bb_rcv_spec h175
  refine bb_invV (ci := 8) (as := [.int x8, .int t174]) iv_X8_56 (by unfold bb_rr; decide) rfl dX8_winter_175 rfl rfl b175 (Nat.le_of_ble_eq_true rfl) (ok_X8_stoodBy h175) ?_
  refine bb_if_eq (tgt := 185) dX8_winter_178 (by decide) (fun c178 => ?_) (fun c178 => ?_)
  · rw [if_pos c178] at hf
    refine bb_fewer (L' := [.ref x0, .int x1, .int x2, .int x3, .int x4, .int x5, .int x6, .int (z0 * z1), .null, .null, .int x10]) (And.intro rfl (And.intro rfl (And.intro rfl (And.intro rfl (And.intro rfl (And.intro rfl (And.intro rfl (And.intro rfl (And.intro rfl trivial))))))))) ?_
    exact j_X8_winter_185 hk67 hk106 _ _ _ _ _ _ _ _ _ _ hf
  rw [if_neg c178] at hf
  refine bb_fewer (L' := [.ref x0, .int x1, .int x2, .int x3, .int x4, .int x5, .int x6, .int (z0 * z1), .null, .null, .int x10]) (And.intro rfl (And.intro rfl (And.intro rfl (And.intro rfl (And.intro rfl (And.intro rfl (And.intro rfl (And.intro rfl (And.intro rfl trivial))))))))) ?_
  exact j_X8_winter_181 hk67 hk106 _ _ _ _ _ _ _ _ _ _ hf
set_option maxRecDepth 100000 in
set_option maxHeartbeats 4000000 in
theorem j_X8_winter_219 {r : Int32 × bb_H} {k67 : Nat → Int32 → Int32 → Int32 → Int32 → Int32 → Int32 → bb_H → Option (Int32 × bb_H)} (hk67 : ∀ (x0 : Nat) (x1 : Int32) (x2 : Int32) (x3 : Int32) (x4 : Int32) (x5 : Int32) (x6 : Int32) (h : bb_H), k67 x0 x1 x2 x3 x4 x5 x6 h = some r → bb_J RX8 cX8_winter 11 (some .int) rm_X8_winter (some (.int r.1), r.2) 67 [.ref x0, .int x1, .int x2, .int x3, .int x4, .int x5, .int x6, .null, .null, .null, .null] [] h) : ∀ (x0 : Nat) (x1 : Int32) (x2 : Int32) (x3 : Int32) (x5 : Int32) (x6 : Int32) (z0 : Int32) (z1 : Int32) (h : bb_H), m_X8_winter_219 k67 x0 x1 x2 x3 x5 x6 z0 z1 h = some r → bb_J RX8 cX8_winter 11 (some .int) rm_X8_winter (some (.int r.1), r.2) 219 [.ref x0, .int x1, .int x2, .int x3, .null, .int x5, .int x6, .null, .null, .null, .null] [.int z1, .int z0] h := by
  intro x0 x1 x2 x3 x5 x6 z0 z1 h hf
  unfold m_X8_winter_219 at hf
  refine bb_iadd dX8_winter_219 ?_
  refine bb_istore (L' := [.ref x0, .int x1, .int x2, .int x3, .int (z0 + z1), .int x5, .int x6, .null, .null, .null, .null]) dX8_winter_220 (by decide) rfl rfl ?_
  refine bb_iinc (v := x6 + 1) (L' := [.ref x0, .int x1, .int x2, .int x3, .int (z0 + z1), .int x5, .int (x6 + 1), .null, .null, .null, .null]) dX8_winter_222 rfl rfl (by decide) rfl rfl ?_
  refine bb_goto (tgt := 67) dX8_winter_225 (by decide) ?_
  refine bb_fewer (L' := [.ref x0, .int x1, .int x2, .int x3, .int (z0 + z1), .int x5, .int (x6 + 1), .null, .null, .null, .null]) (And.intro rfl (And.intro rfl (And.intro rfl (And.intro rfl (And.intro rfl (And.intro rfl (And.intro rfl trivial))))))) ?_
  exact hk67 _ _ _ _ _ _ _ _ hf
set_option maxRecDepth 100000 in
set_option maxHeartbeats 4000000 in
theorem j_X8_winter_106 {r : Int32 × bb_H} {k67 : Nat → Int32 → Int32 → Int32 → Int32 → Int32 → Int32 → bb_H → Option (Int32 × bb_H)} (hk67 : ∀ (x0 : Nat) (x1 : Int32) (x2 : Int32) (x3 : Int32) (x4 : Int32) (x5 : Int32) (x6 : Int32) (h : bb_H), k67 x0 x1 x2 x3 x4 x5 x6 h = some r → bb_J RX8 cX8_winter 11 (some .int) rm_X8_winter (some (.int r.1), r.2) 67 [.ref x0, .int x1, .int x2, .int x3, .int x4, .int x5, .int x6, .null, .null, .null, .null] [] h) : ∀ (n : Nat) (x0 : Nat) (x1 : Int32) (x2 : Int32) (x3 : Int32) (x4 : Int32) (x5 : Int32) (x6 : Int32) (x7 : Int32) (x8 : Int32) (x9 : Int32) (x10 : Int32) (h : bb_H), m_X8_winter_106 k67 n x0 x1 x2 x3 x4 x5 x6 x7 x8 x9 x10 h = some r → bb_J RX8 cX8_winter 11 (some .int) rm_X8_winter (some (.int r.1), r.2) 106 [.ref x0, .int x1, .int x2, .int x3, .int x4, .int x5, .int x6, .int x7, .int x8, .int x9, .int x10] [] h := by
  intro n
  induction n with
  | zero =>
    intro x0 x1 x2 x3 x4 x5 x6 x7 x8 x9 x10 h hf
    exact absurd hf (fun z => by cases z)
  | succ n ih =>
    intro x0 x1 x2 x3 x4 x5 x6 x7 x8 x9 x10 h hf
    unfold m_X8_winter_106 at hf
    refine bb_iload dX8_winter_106 rfl ?_
    refine bb_aload_n dX8_winter_108 rfl ?_
    obtain ⟨t109, h109, hf⟩ := bb_bind hf
    refine bb_getR fl_X8_7 dX8_winter_109 h109 ?_
    refine bb_iconst (v := 1) dX8_winter_112 (by decide) ?_
    obtain ⟨t113, h113, hf⟩ := bb_bind hf
    refine bb_iaload dX8_winter_113 h113 ?_
    refine bb_icmp_ge (tgt := 206) dX8_winter_114 (by decide) (fun c114 => ?_) (fun c114 => ?_)
    · rw [if_pos c114] at hf
      refine bb_iload dX8_winter_206 rfl ?_
      refine bb_iload dX8_winter_208 rfl ?_
      refine bb_if_eq (tgt := 218) dX8_winter_210 (by decide) (fun c210 => ?_) (fun c210 => ?_)
      · rw [if_pos c210] at hf
        refine bb_iconst (v := 0) dX8_winter_218 (by decide) ?_
        refine bb_fewer (L' := [.ref x0, .int x1, .int x2, .int x3, .null, .int x5, .int x6, .null, .null, .null, .null]) (And.intro rfl (And.intro rfl (And.intro rfl (And.intro rfl (And.intro rfl (And.intro rfl trivial)))))) ?_
        exact j_X8_winter_219 hk67 _ _ _ _ _ _ _ _ _ hf
      rw [if_neg c210] at hf
      refine bb_iload dX8_winter_213 rfl ?_
      refine bb_goto (tgt := 219) dX8_winter_215 (by decide) ?_
      refine bb_fewer (L' := [.ref x0, .int x1, .int x2, .int x3, .null, .int x5, .int x6, .null, .null, .null, .null]) (And.intro rfl (And.intro rfl (And.intro rfl (And.intro rfl (And.intro rfl (And.intro rfl trivial)))))) ?_
      exact j_X8_winter_219 hk67 _ _ _ _ _ _ _ _ _ hf
    rw [if_neg c114] at hf
    refine bb_iload dX8_winter_117 rfl ?_
    refine bb_iload dX8_winter_119 rfl ?_
    refine bb_iload dX8_winter_121 rfl ?_
    obtain ⟨r123, h123, hf⟩ := bb_bind hf
    refine bb_invS (as := [.int x6, .int x10]) is_X8_79 (by unfold bb_rr; decide) dX8_winter_123 rfl rfl (Nat.le_of_ble_eq_true rfl) (ok_X8_has h123) ?_
    refine bb_if_eq (tgt := 136) dX8_winter_126 (by decide) (fun c126 => ?_) (fun c126 => ?_)
    · rw [if_pos c126] at hf
      refine bb_iload_n dX8_winter_136 rfl ?_
      refine bb_fewer (L' := [.ref x0, .int x1, .int x2, .int x3, .int x4, .int x5, .int x6, .null, .int x8, .int x9, .int x10]) (And.intro rfl (And.intro rfl (And.intro rfl (And.intro rfl (And.intro rfl (And.intro rfl (And.intro rfl (And.intro rfl (And.intro rfl (And.intro rfl trivial)))))))))) ?_
      exact j_X8_winter_137 hk67 ih _ _ _ _ _ _ _ _ _ _ _ _ _ hf
    rw [if_neg c126] at hf
    refine bb_bipush (v := 10) dX8_winter_129 (by decide) ?_
    refine bb_iload_n dX8_winter_131 rfl ?_
    refine bb_isub dX8_winter_132 ?_
    refine bb_goto (tgt := 137) dX8_winter_133 (by decide) ?_
    refine bb_fewer (L' := [.ref x0, .int x1, .int x2, .int x3, .int x4, .int x5, .int x6, .null, .int x8, .int x9, .int x10]) (And.intro rfl (And.intro rfl (And.intro rfl (And.intro rfl (And.intro rfl (And.intro rfl (And.intro rfl (And.intro rfl (And.intro rfl (And.intro rfl trivial)))))))))) ?_
    exact j_X8_winter_137 hk67 ih _ _ _ _ _ _ _ _ _ _ _ _ _ hf
set_option maxRecDepth 100000 in
set_option maxHeartbeats 4000000 in
theorem j_X8_winter_101 {r : Int32 × bb_H} {k67 : Nat → Int32 → Int32 → Int32 → Int32 → Int32 → Int32 → bb_H → Option (Int32 × bb_H)} (hk67 : ∀ (x0 : Nat) (x1 : Int32) (x2 : Int32) (x3 : Int32) (x4 : Int32) (x5 : Int32) (x6 : Int32) (h : bb_H), k67 x0 x1 x2 x3 x4 x5 x6 h = some r → bb_J RX8 cX8_winter 11 (some .int) rm_X8_winter (some (.int r.1), r.2) 67 [.ref x0, .int x1, .int x2, .int x3, .int x4, .int x5, .int x6, .null, .null, .null, .null] [] h) : ∀ (x0 : Nat) (x1 : Int32) (x2 : Int32) (x3 : Int32) (x4 : Int32) (x5 : Int32) (x6 : Int32) (x7 : Int32) (x8 : Int32) (z0 : Int32) (h : bb_H), m_X8_winter_101 k67 x0 x1 x2 x3 x4 x5 x6 x7 x8 z0 h = some r → bb_J RX8 cX8_winter 11 (some .int) rm_X8_winter (some (.int r.1), r.2) 101 [.ref x0, .int x1, .int x2, .int x3, .int x4, .int x5, .int x6, .int x7, .int x8, .null, .null] [.int z0] h := by
  intro x0 x1 x2 x3 x4 x5 x6 x7 x8 z0 h hf
  unfold m_X8_winter_101 at hf
  refine bb_istore (L' := [.ref x0, .int x1, .int x2, .int x3, .int x4, .int x5, .int x6, .int x7, .int x8, .int z0, .null]) dX8_winter_101 (by decide) rfl rfl ?_
  refine bb_iconst (v := 0) dX8_winter_103 (by decide) ?_
  refine bb_istore (L' := [.ref x0, .int x1, .int x2, .int x3, .int x4, .int x5, .int x6, .int x7, .int x8, .int z0, .int 0]) dX8_winter_104 (by decide) rfl rfl ?_
  refine bb_fewer (L' := [.ref x0, .int x1, .int x2, .int x3, .int x4, .int x5, .int x6, .int x7, .int x8, .int z0, .int 0]) (And.intro rfl (And.intro rfl (And.intro rfl (And.intro rfl (And.intro rfl (And.intro rfl (And.intro rfl (And.intro rfl (And.intro rfl (And.intro rfl (And.intro rfl trivial))))))))))) ?_
  exact j_X8_winter_106 hk67 _ _ _ _ _ _ _ _ _ _ _ _ _ hf
set_option maxRecDepth 100000 in
set_option maxHeartbeats 4000000 in
theorem j_X8_winter_276 {r : Int32 × bb_H} : ∀ (z0 : Int32) (h : bb_H), m_X8_winter_276 z0 h = some r → bb_J RX8 cX8_winter 11 (some .int) rm_X8_winter (some (.int r.1), r.2) 276 [.null, .null, .null, .null, .null, .null, .null, .null, .null, .null, .null] [.int z0] h := by
  intro z0 h hf
  unfold m_X8_winter_276 at hf
  obtain rfl := Option.some.inj hf
  exact bb_iret rfl rfl dX8_winter_276
set_option maxRecDepth 100000 in
set_option maxHeartbeats 4000000 in
theorem j_X8_winter_236 {r : Int32 × bb_H} : ∀ (n : Nat) (x3 : Int32) (x4 : Int32) (x5 : Int32) (x6 : Int32) (x7 : Int32) (h : bb_H), m_X8_winter_236 n x3 x4 x5 x6 x7 h = some r → bb_J RX8 cX8_winter 11 (some .int) rm_X8_winter (some (.int r.1), r.2) 236 [.null, .null, .null, .int x3, .int x4, .int x5, .int x6, .int x7, .null, .null, .null] [] h := by
  intro n
  induction n with
  | zero =>
    intro x3 x4 x5 x6 x7 h hf
    exact absurd hf (fun z => by cases z)
  | succ n ih =>
    intro x3 x4 x5 x6 x7 h hf
    unfold m_X8_winter_236 at hf
    refine bb_iload dX8_winter_236 rfl ?_
    refine bb_if_le (tgt := 259) dX8_winter_238 (by decide) (fun c238 => ?_) (fun c238 => ?_)
    · rw [if_pos c238] at hf
      refine bb_iload_n dX8_winter_259 rfl ?_
      refine bb_if_ne (tgt := 271) dX8_winter_260 (by decide) (fun c260 => ?_) (fun c260 => ?_)
      · rw [if_neg c260] at hf
        refine bb_iload dX8_winter_271 rfl ?_
        refine bb_iload dX8_winter_273 rfl ?_
        by_cases c275 : x6 = 0
        · rw [if_pos c275] at hf; cases hf
        rw [if_neg c275] at hf
        refine bb_idiv dX8_winter_275 c275 ?_
        refine bb_fewer (L' := [.null, .null, .null, .null, .null, .null, .null, .null, .null, .null, .null]) trivial ?_
        exact j_X8_winter_276 _ _ hf
      rw [if_pos c260] at hf
      refine bb_iload dX8_winter_263 rfl ?_
      refine bb_iload dX8_winter_265 rfl ?_
      by_cases c267 : x6 = 0
      · rw [if_pos c267] at hf; cases hf
      rw [if_neg c267] at hf
      refine bb_idiv dX8_winter_267 c267 ?_
      refine bb_goto (tgt := 276) dX8_winter_268 (by decide) ?_
      refine bb_fewer (L' := [.null, .null, .null, .null, .null, .null, .null, .null, .null, .null, .null]) trivial ?_
      exact j_X8_winter_276 _ _ hf
    rw [if_neg c238] at hf
    refine bb_iload dX8_winter_241 rfl ?_
    refine bb_iload dX8_winter_243 rfl ?_
    by_cases c245 : x7 = 0
    · rw [if_pos c245] at hf; cases hf
    rw [if_neg c245] at hf
    refine bb_irem dX8_winter_245 c245 ?_
    refine bb_istore (L' := [.null, .null, .null, .int x3, .int x4, .int x5, .int x6, .int x7, .int (x6 - x6 / x7 * x7), .null, .null]) dX8_winter_246 (by decide) rfl rfl ?_
    refine bb_iload dX8_winter_248 rfl ?_
    refine bb_istore (L' := [.null, .null, .null, .int x3, .int x4, .int x5, .int x7, .int x7, .int (x6 - x6 / x7 * x7), .null, .null]) dX8_winter_250 (by decide) rfl rfl ?_
    refine bb_iload dX8_winter_252 rfl ?_
    refine bb_istore (L' := [.null, .null, .null, .int x3, .int x4, .int x5, .int x7, .int (x6 - x6 / x7 * x7), .int (x6 - x6 / x7 * x7), .null, .null]) dX8_winter_254 (by decide) rfl rfl ?_
    refine bb_goto (tgt := 236) dX8_winter_256 (by decide) ?_
    refine bb_fewer (L' := [.null, .null, .null, .int x3, .int x4, .int x5, .int x7, .int (x6 - x6 / x7 * x7), .null, .null, .null]) (And.intro rfl (And.intro rfl (And.intro rfl (And.intro rfl (And.intro rfl trivial))))) ?_
    exact ih _ _ _ _ _ _ hf
set_option maxRecDepth 100000 in
set_option maxHeartbeats 4000000 in
theorem j_X8_winter_67 {r : Int32 × bb_H} : ∀ (n : Nat) (x0 : Nat) (x1 : Int32) (x2 : Int32) (x3 : Int32) (x4 : Int32) (x5 : Int32) (x6 : Int32) (h : bb_H), m_X8_winter_67 n x0 x1 x2 x3 x4 x5 x6 h = some r → bb_J RX8 cX8_winter 11 (some .int) rm_X8_winter (some (.int r.1), r.2) 67 [.ref x0, .int x1, .int x2, .int x3, .int x4, .int x5, .int x6, .null, .null, .null, .null] [] h := by
  intro n
  induction n with
  | zero =>
    intro x0 x1 x2 x3 x4 x5 x6 h hf
    exact absurd hf (fun z => by cases z)
  | succ n ih =>
    intro x0 x1 x2 x3 x4 x5 x6 h hf
    unfold m_X8_winter_67 at hf
    refine bb_iload dX8_winter_67 rfl ?_
    refine bb_iconst (v := 1) dX8_winter_69 (by decide) ?_
    refine bb_aload_n dX8_winter_70 rfl ?_
    obtain ⟨t71, h71, hf⟩ := bb_bind hf
    refine bb_getR fl_X8_7 dX8_winter_71 h71 ?_
    refine bb_iconst (v := 1) dX8_winter_74 (by decide) ?_
    obtain ⟨t75, h75, hf⟩ := bb_bind hf
    refine bb_iaload dX8_winter_75 h75 ?_
    refine bb_ishl dX8_winter_76 ?_
    refine bb_icmp_ge (tgt := 228) dX8_winter_77 (by decide) (fun c77 => ?_) (fun c77 => ?_)
    · rw [if_pos c77] at hf
      refine bb_iload dX8_winter_228 rfl ?_
      refine bb_istore (L' := [.ref x0, .int x1, .int x2, .int x3, .int x4, .int x5, .int x4, .null, .null, .null, .null]) dX8_winter_230 (by decide) rfl rfl ?_
      refine bb_iload dX8_winter_232 rfl ?_
      refine bb_istore (L' := [.ref x0, .int x1, .int x2, .int x3, .int x4, .int x5, .int x4, .int x5, .null, .null, .null]) dX8_winter_234 (by decide) rfl rfl ?_
      refine bb_fewer (L' := [.null, .null, .null, .int x3, .int x4, .int x5, .int x4, .int x5, .null, .null, .null]) (And.intro rfl (And.intro rfl (And.intro rfl (And.intro rfl (And.intro rfl trivial))))) ?_
      exact j_X8_winter_236 _ _ _ _ _ _ _ hf
    rw [if_neg c77] at hf
    refine bb_iconst (v := 1) dX8_winter_80 (by decide) ?_
    refine bb_istore (L' := [.ref x0, .int x1, .int x2, .int x3, .int x4, .int x5, .int x6, .int 1, .null, .null, .null]) dX8_winter_81 (by decide) rfl rfl ?_
    refine bb_bipush (v := (-4)) dX8_winter_83 (by decide) ?_
    refine bb_istore (L' := [.ref x0, .int x1, .int x2, .int x3, .int x4, .int x5, .int x6, .int 1, .int (-4), .null, .null]) dX8_winter_85 (by decide) rfl rfl ?_
    refine bb_iload dX8_winter_87 rfl ?_
    obtain ⟨r89, h89, hf⟩ := bb_bind hf
    refine bb_invS (as := [.int x6]) is_X8_72 (by unfold bb_rr; decide) dX8_winter_89 rfl rfl (Nat.le_of_ble_eq_true rfl) (ok_X8_ones h89) ?_
    refine bb_iload_n dX8_winter_92 rfl ?_
    refine bb_icmp_lt (tgt := 100) dX8_winter_93 (by decide) (fun c93 => ?_) (fun c93 => ?_)
    · rw [if_pos c93] at hf
      refine bb_iconst (v := 0) dX8_winter_100 (by decide) ?_
      refine bb_fewer (L' := [.ref x0, .int x1, .int x2, .int x3, .int x4, .int x5, .int x6, .int 1, .int (-4), .null, .null]) (And.intro rfl (And.intro rfl (And.intro rfl (And.intro rfl (And.intro rfl (And.intro rfl (And.intro rfl (And.intro rfl (And.intro rfl trivial))))))))) ?_
      exact j_X8_winter_101 ih _ _ _ _ _ _ _ _ _ _ _ hf
    rw [if_neg c93] at hf
    refine bb_iconst (v := 1) dX8_winter_96 (by decide) ?_
    refine bb_goto (tgt := 101) dX8_winter_97 (by decide) ?_
    refine bb_fewer (L' := [.ref x0, .int x1, .int x2, .int x3, .int x4, .int x5, .int x6, .int 1, .int (-4), .null, .null]) (And.intro rfl (And.intro rfl (And.intro rfl (And.intro rfl (And.intro rfl (And.intro rfl (And.intro rfl (And.intro rfl (And.intro rfl trivial))))))))) ?_
    exact j_X8_winter_101 ih _ _ _ _ _ _ _ _ _ _ _ hf
set_option maxRecDepth 100000 in
set_option maxHeartbeats 4000000 in
theorem j_X8_winter_40 {r : Int32 × bb_H} : ∀ (n : Nat) (x0 : Nat) (x1 : Int32) (x2 : Int32) (x3 : Int32) (x4 : Int32) (x5 : Int32) (x6 : Int32) (h : bb_H), m_X8_winter_40 n x0 x1 x2 x3 x4 x5 x6 h = some r → bb_J RX8 cX8_winter 11 (some .int) rm_X8_winter (some (.int r.1), r.2) 40 [.ref x0, .int x1, .int x2, .int x3, .int x4, .int x5, .int x6, .null, .null, .null, .null] [] h := by
  intro n
  induction n with
  | zero =>
    intro x0 x1 x2 x3 x4 x5 x6 h hf
    exact absurd hf (fun z => by cases z)
  | succ n ih =>
    intro x0 x1 x2 x3 x4 x5 x6 h hf
    unfold m_X8_winter_40 at hf
    refine bb_iload dX8_winter_40 rfl ?_
    refine bb_aload_n dX8_winter_42 rfl ?_
    obtain ⟨t43, h43, hf⟩ := bb_bind hf
    refine bb_getR fl_X8_7 dX8_winter_43 h43 ?_
    refine bb_iconst (v := 1) dX8_winter_46 (by decide) ?_
    obtain ⟨t47, h47, hf⟩ := bb_bind hf
    refine bb_iaload dX8_winter_47 h47 ?_
    refine bb_icmp_ge (tgt := 64) dX8_winter_48 (by decide) (fun c48 => ?_) (fun c48 => ?_)
    · rw [if_pos c48] at hf
      refine bb_iconst (v := 0) dX8_winter_64 (by decide) ?_
      refine bb_istore (L' := [.ref x0, .int x1, .int x2, .int x3, .int x4, .int x5, .int 0, .null, .null, .null, .null]) dX8_winter_65 (by decide) rfl rfl ?_
      refine bb_fewer (L' := [.ref x0, .int x1, .int x2, .int x3, .int x4, .int x5, .int 0, .null, .null, .null, .null]) (And.intro rfl (And.intro rfl (And.intro rfl (And.intro rfl (And.intro rfl (And.intro rfl (And.intro rfl trivial))))))) ?_
      exact j_X8_winter_67 _ _ _ _ _ _ _ _ _ hf
    rw [if_neg c48] at hf
    refine bb_iload dX8_winter_51 rfl ?_
    refine bb_bipush (v := 10) dX8_winter_53 (by decide) ?_
    refine bb_imul dX8_winter_55 ?_
    refine bb_istore (L' := [.ref x0, .int x1, .int x2, .int x3, .int x4, .int (x5 * 10), .int x6, .null, .null, .null, .null]) dX8_winter_56 (by decide) rfl rfl ?_
    refine bb_iinc (v := x6 + 1) (L' := [.ref x0, .int x1, .int x2, .int x3, .int x4, .int (x5 * 10), .int (x6 + 1), .null, .null, .null, .null]) dX8_winter_58 rfl rfl (by decide) rfl rfl ?_
    refine bb_goto (tgt := 40) dX8_winter_61 (by decide) ?_
    refine bb_fewer (L' := [.ref x0, .int x1, .int x2, .int x3, .int x4, .int (x5 * 10), .int (x6 + 1), .null, .null, .null, .null]) (And.intro rfl (And.intro rfl (And.intro rfl (And.intro rfl (And.intro rfl (And.intro rfl (And.intro rfl trivial))))))) ?_
    exact ih _ _ _ _ _ _ _ _ hf
set_option maxRecDepth 100000 in
set_option maxHeartbeats 4000000 in
theorem j_X8_winter_0 {r : Int32 × bb_H} : ∀ (x0 : Nat) (x1 : Int32) (x2 : Int32) (x3 : Int32) (h : bb_H), m_X8_winter x0 x1 x2 x3 h = some r → bb_J RX8 cX8_winter 11 (some .int) rm_X8_winter (some (.int r.1), r.2) 0 [.ref x0, .int x1, .int x2, .int x3, .null, .null, .null, .null, .null, .null, .null] [] h := by
  intro x0 x1 x2 x3 h hf
  unfold m_X8_winter at hf
  refine bb_iload_n dX8_winter_0 rfl ?_
  refine bb_iconst (v := 0) dX8_winter_1 (by decide) ?_
  refine bb_bipush (v := 6) dX8_winter_2 (by decide) ?_
  obtain ⟨r4, h4, hf⟩ := bb_bind hf
  refine bb_invS (as := [.int x1, .int 0, .int 6]) is_X8_44 (by unfold bb_rr; decide) dX8_winter_4 rfl rfl (Nat.le_of_ble_eq_true rfl) (ok_X8_in h4) ?_
  refine bb_if_eq (tgt := 29) dX8_winter_7 (by decide) (fun c7 => ?_) (fun c7 => ?_)
  · rw [if_pos c7] at hf
    refine bb_fewer (L' := [.null, .null, .null, .null, .null, .null, .null, .null, .null, .null, .null]) trivial ?_
    exact j_X8_winter_29 _ hf
  rw [if_neg c7] at hf
  refine bb_iload_n dX8_winter_10 rfl ?_
  refine bb_iconst (v := 0) dX8_winter_11 (by decide) ?_
  refine bb_bipush (v := 10) dX8_winter_12 (by decide) ?_
  obtain ⟨r14, h14, hf⟩ := bb_bind hf
  refine bb_invS (as := [.int x2, .int 0, .int 10]) is_X8_44 (by unfold bb_rr; decide) dX8_winter_14 rfl rfl (Nat.le_of_ble_eq_true rfl) (ok_X8_in h14) ?_
  refine bb_if_eq (tgt := 29) dX8_winter_17 (by decide) (fun c17 => ?_) (fun c17 => ?_)
  · rw [if_pos c17] at hf
    refine bb_fewer (L' := [.null, .null, .null, .null, .null, .null, .null, .null, .null, .null, .null]) trivial ?_
    exact j_X8_winter_29 _ hf
  rw [if_neg c17] at hf
  refine bb_iload_n dX8_winter_20 rfl ?_
  refine bb_iconst (v := 0) dX8_winter_21 (by decide) ?_
  refine bb_iconst (v := 1) dX8_winter_22 (by decide) ?_
  obtain ⟨r23, h23, hf⟩ := bb_bind hf
  refine bb_invS (as := [.int x3, .int 0, .int 1]) is_X8_44 (by unfold bb_rr; decide) dX8_winter_23 rfl rfl (Nat.le_of_ble_eq_true rfl) (ok_X8_in h23) ?_
  refine bb_if_ne (tgt := 31) dX8_winter_26 (by decide) (fun c26 => ?_) (fun c26 => ?_)
  · rw [if_neg c26] at hf
    refine bb_iconst (v := 0) dX8_winter_31 (by decide) ?_
    refine bb_istore (L' := [.ref x0, .int x1, .int x2, .int x3, .int 0, .null, .null, .null, .null, .null, .null]) dX8_winter_32 (by decide) rfl rfl ?_
    refine bb_iconst (v := 1) dX8_winter_34 (by decide) ?_
    refine bb_istore (L' := [.ref x0, .int x1, .int x2, .int x3, .int 0, .int 1, .null, .null, .null, .null, .null]) dX8_winter_35 (by decide) rfl rfl ?_
    refine bb_iconst (v := 0) dX8_winter_37 (by decide) ?_
    refine bb_istore (L' := [.ref x0, .int x1, .int x2, .int x3, .int 0, .int 1, .int 0, .null, .null, .null, .null]) dX8_winter_38 (by decide) rfl rfl ?_
    refine bb_fewer (L' := [.ref x0, .int x1, .int x2, .int x3, .int 0, .int 1, .int 0, .null, .null, .null, .null]) (And.intro rfl (And.intro rfl (And.intro rfl (And.intro rfl (And.intro rfl (And.intro rfl (And.intro rfl trivial))))))) ?_
    exact j_X8_winter_40 _ _ _ _ _ _ _ _ _ hf
  rw [if_pos c26] at hf
  refine bb_fewer (L' := [.null, .null, .null, .null, .null, .null, .null, .null, .null, .null, .null]) trivial ?_
  exact j_X8_winter_29 _ hf
theorem ok_X8_winter {x0 : Nat} {x1 : Int32} {x2 : Int32} {x3 : Int32} {h : bb_H} {r : Int32 × bb_H} (hf : m_X8_winter x0 x1 x2 x3 h = some r) : bb_Ok yX8_winter cX8_winter 11 (some .int) rm_X8_winter [.ref x0, .int x1, .int x2, .int x3] h (some (.int r.1), r.2) :=
  bb_ok (L := [.ref x0, .int x1, .int x2, .int x3, .null, .null, .null, .null, .null, .null, .null]) (by decide) (Nat.le_of_ble_eq_true rfl) rfl (bb_fewer (L' := [.ref x0, .int x1, .int x2, .int x3, .null, .null, .null, .null, .null, .null, .null]) (And.intro rfl (And.intro rfl (And.intro rfl (And.intro rfl trivial)))) (j_X8_winter_0 _ _ _ _ _ hf))
abbrev rm_X8_image : Room := { frames := 0, cells := 0, slots := 0, locals := 0 }
set_option maxRecDepth 100000 in
set_option maxHeartbeats 4000000 in
theorem j_X8_image_2 {r : Int32 × bb_H} : ∀ (n : Nat) (x0 : Nat) (x1 : Int32) (h : bb_H), m_X8_image_2 n x0 x1 h = some r → bb_J RX8 cX8_image 2 (some .int) rm_X8_image (some (.int r.1), r.2) 2 [.ref x0, .int x1] [] h := by
  intro n
  induction n with
  | zero =>
    intro x0 x1 h hf
    exact absurd hf (fun z => by cases z)
  | succ n ih =>
    intro x0 x1 h hf
    unfold m_X8_image_2 at hf
    refine bb_iload_n dX8_image_2 rfl ?_
    refine bb_sipush (v := 161) dX8_image_3 (by decide) ?_
    refine bb_icmp_ge (tgt := 27) dX8_image_6 (by decide) (fun c6 => ?_) (fun c6 => ?_)
    · rw [if_pos c6] at hf
      refine bb_aload_n dX8_image_27 rfl ?_
      refine bb_iconst (v := 1) dX8_image_28 (by decide) ?_
      obtain ⟨g29, h29, hf⟩ := bb_bind hf
      refine bb_putZ fp_X8_155 dX8_image_29 h29 ?_
      refine bb_iconst (v := 1) dX8_image_32 (by decide) ?_
      obtain rfl := Option.some.inj hf
      exact bb_iret rfl rfl dX8_image_33
    rw [if_neg c6] at hf
    refine bb_aload_n dX8_image_9 rfl ?_
    obtain ⟨t10, h10, hf⟩ := bb_bind hf
    refine bb_getR fl_X8_13 dX8_image_10 h10 ?_
    refine bb_iload_n dX8_image_13 rfl ?_
    refine bb_aload_n dX8_image_14 rfl ?_
    obtain ⟨t15, h15, hf⟩ := bb_bind hf
    refine bb_getR fl_X8_7 dX8_image_15 h15 ?_
    refine bb_iload_n dX8_image_18 rfl ?_
    obtain ⟨t19, h19, hf⟩ := bb_bind hf
    refine bb_iaload dX8_image_19 h19 ?_
    obtain ⟨g20, h20, hf⟩ := bb_bind hf
    refine bb_iastore dX8_image_20 h20 ?_
    refine bb_iinc (v := x1 + 1) (L' := [.ref x0, .int (x1 + 1)]) dX8_image_21 rfl rfl (by decide) rfl rfl ?_
    refine bb_goto (tgt := 2) dX8_image_24 (by decide) ?_
    refine bb_fewer (L' := [.ref x0, .int (x1 + 1)]) (And.intro rfl (And.intro rfl trivial)) ?_
    exact ih _ _ _ hf
set_option maxRecDepth 100000 in
set_option maxHeartbeats 4000000 in
theorem j_X8_image_0 {r : Int32 × bb_H} : ∀ (x0 : Nat) (h : bb_H), m_X8_image x0 h = some r → bb_J RX8 cX8_image 2 (some .int) rm_X8_image (some (.int r.1), r.2) 0 [.ref x0, .null] [] h := by
  intro x0 h hf
  unfold m_X8_image at hf
  refine bb_iconst (v := 0) dX8_image_0 (by decide) ?_
  refine bb_istore_n (L' := [.ref x0, .int 0]) dX8_image_1 (by decide) rfl rfl ?_
  refine bb_fewer (L' := [.ref x0, .int 0]) (And.intro rfl (And.intro rfl trivial)) ?_
  exact j_X8_image_2 _ _ _ _ hf
theorem ok_X8_image {x0 : Nat} {h : bb_H} {r : Int32 × bb_H} (hf : m_X8_image x0 h = some r) : bb_Ok yX8_image cX8_image 2 (some .int) rm_X8_image [.ref x0] h (some (.int r.1), r.2) :=
  bb_ok (L := [.ref x0, .null]) (by decide) (Nat.le_of_ble_eq_true rfl) rfl (bb_fewer (L' := [.ref x0, .null]) (And.intro rfl trivial) (j_X8_image_0 _ _ hf))
abbrev rm_X8_restore : Room := { frames := 0, cells := 0, slots := 0, locals := 0 }
set_option maxRecDepth 100000 in
set_option maxHeartbeats 4000000 in
theorem j_X8_restore_12 {r : Int32 × bb_H} : ∀ (n : Nat) (x0 : Nat) (x1 : Int32) (h : bb_H), m_X8_restore_12 n x0 x1 h = some r → bb_J RX8 cX8_restore 2 (some .int) rm_X8_restore (some (.int r.1), r.2) 12 [.ref x0, .int x1] [] h := by
  intro n
  induction n with
  | zero =>
    intro x0 x1 h hf
    exact absurd hf (fun z => by cases z)
  | succ n ih =>
    intro x0 x1 h hf
    unfold m_X8_restore_12 at hf
    refine bb_iload_n dX8_restore_12 rfl ?_
    refine bb_sipush (v := 161) dX8_restore_13 (by decide) ?_
    refine bb_icmp_ge (tgt := 37) dX8_restore_16 (by decide) (fun c16 => ?_) (fun c16 => ?_)
    · rw [if_pos c16] at hf
      refine bb_iconst (v := 1) dX8_restore_37 (by decide) ?_
      obtain rfl := Option.some.inj hf
      exact bb_iret rfl rfl dX8_restore_38
    rw [if_neg c16] at hf
    refine bb_aload_n dX8_restore_19 rfl ?_
    obtain ⟨t20, h20, hf⟩ := bb_bind hf
    refine bb_getR fl_X8_7 dX8_restore_20 h20 ?_
    refine bb_iload_n dX8_restore_23 rfl ?_
    refine bb_aload_n dX8_restore_24 rfl ?_
    obtain ⟨t25, h25, hf⟩ := bb_bind hf
    refine bb_getR fl_X8_13 dX8_restore_25 h25 ?_
    refine bb_iload_n dX8_restore_28 rfl ?_
    obtain ⟨t29, h29, hf⟩ := bb_bind hf
    refine bb_iaload dX8_restore_29 h29 ?_
    obtain ⟨g30, h30, hf⟩ := bb_bind hf
    refine bb_iastore dX8_restore_30 h30 ?_
    refine bb_iinc (v := x1 + 1) (L' := [.ref x0, .int (x1 + 1)]) dX8_restore_31 rfl rfl (by decide) rfl rfl ?_
    refine bb_goto (tgt := 12) dX8_restore_34 (by decide) ?_
    refine bb_fewer (L' := [.ref x0, .int (x1 + 1)]) (And.intro rfl (And.intro rfl trivial)) ?_
    exact ih _ _ _ hf
set_option maxRecDepth 100000 in
set_option maxHeartbeats 4000000 in
theorem j_X8_restore_0 {r : Int32 × bb_H} : ∀ (x0 : Nat) (h : bb_H), m_X8_restore x0 h = some r → bb_J RX8 cX8_restore 2 (some .int) rm_X8_restore (some (.int r.1), r.2) 0 [.ref x0, .null] [] h := by
  intro x0 h hf
  unfold m_X8_restore at hf
  refine bb_aload_n dX8_restore_0 rfl ?_
  obtain ⟨t1, h1, hf⟩ := bb_bind hf
  refine bb_getI fl_X8_155 dX8_restore_1 h1 ?_
  refine bb_if_ne (tgt := 10) dX8_restore_4 (by decide) (fun c4 => ?_) (fun c4 => ?_)
  · rw [if_neg c4] at hf
    refine bb_iconst (v := 0) dX8_restore_10 (by decide) ?_
    refine bb_istore_n (L' := [.ref x0, .int 0]) dX8_restore_11 (by decide) rfl rfl ?_
    refine bb_fewer (L' := [.ref x0, .int 0]) (And.intro rfl (And.intro rfl trivial)) ?_
    exact j_X8_restore_12 _ _ _ _ hf
  rw [if_pos c4] at hf
  refine bb_bipush (v := (-4)) dX8_restore_7 (by decide) ?_
  obtain rfl := Option.some.inj hf
  exact bb_iret rfl rfl dX8_restore_9
theorem ok_X8_restore {x0 : Nat} {h : bb_H} {r : Int32 × bb_H} (hf : m_X8_restore x0 h = some r) : bb_Ok yX8_restore cX8_restore 2 (some .int) rm_X8_restore [.ref x0] h (some (.int r.1), r.2) :=
  bb_ok (L := [.ref x0, .null]) (by decide) (Nat.le_of_ble_eq_true rfl) rfl (bb_fewer (L' := [.ref x0, .null]) (And.intro rfl trivial) (j_X8_restore_0 _ _ hf))
abbrev rm_X8_isSheet : Room := { frames := 1, cells := 0, slots := 0, locals := 22 }
set_option maxRecDepth 100000 in
set_option maxHeartbeats 4000000 in
theorem j_X8_isSheet_0 {r : Int32 × bb_H} : ∀ (x0 : Int32) (h : bb_H), m_X8_isSheet x0 h = some r → bb_J RX8 cX8_isSheet 1 (some .boolean) rm_X8_isSheet (some (.int r.1), r.2) 0 [.int x0] [] h := by
  intro x0 h hf
  unfold m_X8_isSheet at hf
  refine bb_iload_n dX8_isSheet_0 rfl ?_
  refine bb_iconst (v := 0) dX8_isSheet_1 (by decide) ?_
  refine bb_iconst (v := 3) dX8_isSheet_2 (by decide) ?_
  obtain ⟨r3, h3, hf⟩ := bb_bind hf
  refine bb_invS (as := [.int x0, .int 0, .int 3]) is_X8_44 (by unfold bb_rr; decide) dX8_isSheet_3 rfl rfl (Nat.le_of_ble_eq_true rfl) (ok_X8_in h3) ?_
  obtain ⟨hn, rfl⟩ := bb_rz_spec hf
  exact bb_zret rfl hn rfl dX8_isSheet_6
theorem ok_X8_isSheet {x0 : Int32} {h : bb_H} {r : Int32 × bb_H} (hf : m_X8_isSheet x0 h = some r) : bb_Ok yX8_isSheet cX8_isSheet 1 (some .boolean) rm_X8_isSheet [.int x0] h (some (.int r.1), r.2) :=
  bb_ok (L := [.int x0]) (by decide) (Nat.le_of_ble_eq_true rfl) rfl (bb_fewer (L' := [.int x0]) (And.intro rfl trivial) (j_X8_isSheet_0 _ _ hf))
abbrev rm_X8_barred : Room := { frames := 0, cells := 0, slots := 0, locals := 0 }
set_option maxRecDepth 100000 in
set_option maxHeartbeats 4000000 in
theorem j_X8_barred_64 {r : Int32 × bb_H} : ∀ (z0 : Int32) (h : bb_H), m_X8_barred_64 z0 h = some r → bb_J RX8 cX8_barred 5 (some .int) rm_X8_barred (some (.int r.1), r.2) 64 [.null, .null, .null, .null, .null] [.int z0] h := by
  intro z0 h hf
  unfold m_X8_barred_64 at hf
  obtain rfl := Option.some.inj hf
  exact bb_iret rfl rfl dX8_barred_64
set_option maxRecDepth 100000 in
set_option maxHeartbeats 4000000 in
theorem j_X8_barred_58 {r : Int32 × bb_H} : ∀ (h : bb_H), m_X8_barred_58 h = some r → bb_J RX8 cX8_barred 5 (some .int) rm_X8_barred (some (.int r.1), r.2) 58 [.null, .null, .null, .null, .null] [] h := by
  intro h hf
  unfold m_X8_barred_58 at hf
  refine bb_bipush (v := (-13)) dX8_barred_58 (by decide) ?_
  refine bb_goto (tgt := 64) dX8_barred_60 (by decide) ?_
  refine bb_fewer (L' := [.null, .null, .null, .null, .null]) trivial ?_
  exact j_X8_barred_64 _ _ hf
set_option maxRecDepth 100000 in
set_option maxHeartbeats 4000000 in
theorem j_X8_barred_0 {r : Int32 × bb_H} : ∀ (x0 : Nat) (x1 : Int32) (x2 : Int32) (x3 : Int32) (x4 : Int32) (h : bb_H), m_X8_barred x0 x1 x2 x3 x4 h = some r → bb_J RX8 cX8_barred 5 (some .int) rm_X8_barred (some (.int r.1), r.2) 0 [.ref x0, .int x1, .int x2, .int x3, .int x4] [] h := by
  intro x0 x1 x2 x3 x4 h hf
  unfold m_X8_barred at hf
  refine bb_aload_n dX8_barred_0 rfl ?_
  obtain ⟨t1, h1, hf⟩ := bb_bind hf
  refine bb_getR fl_X8_29 dX8_barred_1 h1 ?_
  refine bb_iload_n dX8_barred_4 rfl ?_
  obtain ⟨t5, h5, hf⟩ := bb_bind hf
  refine bb_iaload dX8_barred_5 h5 ?_
  refine bb_if_ge (tgt := 12) dX8_barred_6 (by decide) (fun c6 => ?_) (fun c6 => ?_)
  · rw [if_pos c6] at hf
    refine bb_aload_n dX8_barred_12 rfl ?_
    obtain ⟨t13, h13, hf⟩ := bb_bind hf
    refine bb_getR fl_X8_32 dX8_barred_13 h13 ?_
    refine bb_iload_n dX8_barred_16 rfl ?_
    obtain ⟨t17, h17, hf⟩ := bb_bind hf
    refine bb_iaload dX8_barred_17 h17 ?_
    refine bb_iload_n dX8_barred_18 rfl ?_
    refine bb_icmp_eq (tgt := 25) dX8_barred_19 (by decide) (fun c19 => ?_) (fun c19 => ?_)
    · rw [if_pos c19] at hf
      refine bb_iload_n dX8_barred_25 rfl ?_
      refine bb_if_lt (tgt := 58) dX8_barred_26 (by decide) (fun c26 => ?_) (fun c26 => ?_)
      · rw [if_pos c26] at hf
        refine bb_fewer (L' := [.null, .null, .null, .null, .null]) trivial ?_
        exact j_X8_barred_58 _ hf
      rw [if_neg c26] at hf
      refine bb_iload dX8_barred_29 rfl ?_
      refine bb_if_lt (tgt := 58) dX8_barred_31 (by decide) (fun c31 => ?_) (fun c31 => ?_)
      · rw [if_pos c31] at hf
        refine bb_fewer (L' := [.null, .null, .null, .null, .null]) trivial ?_
        exact j_X8_barred_58 _ hf
      rw [if_neg c31] at hf
      refine bb_iload dX8_barred_34 rfl ?_
      refine bb_aload_n dX8_barred_36 rfl ?_
      obtain ⟨t37, h37, hf⟩ := bb_bind hf
      refine bb_getR fl_X8_29 dX8_barred_37 h37 ?_
      refine bb_iload_n dX8_barred_40 rfl ?_
      obtain ⟨t41, h41, hf⟩ := bb_bind hf
      refine bb_iaload dX8_barred_41 h41 ?_
      refine bb_icmp_gt (tgt := 58) dX8_barred_42 (by decide) (fun c42 => ?_) (fun c42 => ?_)
      · rw [if_pos c42] at hf
        refine bb_fewer (L' := [.null, .null, .null, .null, .null]) trivial ?_
        exact j_X8_barred_58 _ hf
      rw [if_neg c42] at hf
      refine bb_iload_n dX8_barred_45 rfl ?_
      refine bb_aload_n dX8_barred_46 rfl ?_
      obtain ⟨t47, h47, hf⟩ := bb_bind hf
      refine bb_getR fl_X8_29 dX8_barred_47 h47 ?_
      refine bb_iload_n dX8_barred_50 rfl ?_
      obtain ⟨t51, h51, hf⟩ := bb_bind hf
      refine bb_iaload dX8_barred_51 h51 ?_
      refine bb_iload dX8_barred_52 rfl ?_
      refine bb_isub dX8_barred_54 ?_
      refine bb_icmp_le (tgt := 63) dX8_barred_55 (by decide) (fun c55 => ?_) (fun c55 => ?_)
      · rw [if_pos c55] at hf
        refine bb_iconst (v := 0) dX8_barred_63 (by decide) ?_
        refine bb_fewer (L' := [.null, .null, .null, .null, .null]) trivial ?_
        exact j_X8_barred_64 _ _ hf
      rw [if_neg c55] at hf
      refine bb_fewer (L' := [.null, .null, .null, .null, .null]) trivial ?_
      exact j_X8_barred_58 _ hf
    rw [if_neg c19] at hf
    refine bb_bipush (v := (-12)) dX8_barred_22 (by decide) ?_
    obtain rfl := Option.some.inj hf
    exact bb_iret rfl rfl dX8_barred_24
  rw [if_neg c6] at hf
  refine bb_bipush (v := (-11)) dX8_barred_9 (by decide) ?_
  obtain rfl := Option.some.inj hf
  exact bb_iret rfl rfl dX8_barred_11
theorem ok_X8_barred {x0 : Nat} {x1 : Int32} {x2 : Int32} {x3 : Int32} {x4 : Int32} {h : bb_H} {r : Int32 × bb_H} (hf : m_X8_barred x0 x1 x2 x3 x4 h = some r) : bb_Ok yX8_barred cX8_barred 5 (some .int) rm_X8_barred [.ref x0, .int x1, .int x2, .int x3, .int x4] h (some (.int r.1), r.2) :=
  bb_ok (L := [.ref x0, .int x1, .int x2, .int x3, .int x4]) (by decide) (Nat.le_of_ble_eq_true rfl) rfl (bb_fewer (L' := [.ref x0, .int x1, .int x2, .int x3, .int x4]) (And.intro rfl (And.intro rfl (And.intro rfl (And.intro rfl (And.intro rfl trivial))))) (j_X8_barred_0 _ _ _ _ _ _ hf))
abbrev rm_X8_cut : Room := { frames := 0, cells := 0, slots := 0, locals := 0 }
set_option maxRecDepth 100000 in
set_option maxHeartbeats 4000000 in
theorem j_X8_cut_35 {r : Int64 × bb_H} : ∀ (z0 : Int64) (h : bb_H), m_X8_cut_35 z0 h = some r → bb_J RX8 cX8_cut 3 (some .long) rm_X8_cut (some (.long r.1), r.2) 35 [.null, .null, .null] [.long z0] h := by
  intro z0 h hf
  unfold m_X8_cut_35 at hf
  obtain rfl := Option.some.inj hf
  exact bb_lret rfl rfl dX8_cut_35
set_option maxRecDepth 100000 in
set_option maxHeartbeats 4000000 in
theorem j_X8_cut_0 {r : Int64 × bb_H} : ∀ (x0 : Int32) (x1 : Int64) (h : bb_H), m_X8_cut x0 x1 h = some r → bb_J RX8 cX8_cut 3 (some .long) rm_X8_cut (some (.long r.1), r.2) 0 [.int x0, .long x1, .null] [] h := by
  intro x0 x1 h hf
  unfold m_X8_cut at hf
  refine bb_iload_n dX8_cut_0 rfl ?_
  refine bb_if_ne (tgt := 11) dX8_cut_1 (by decide) (fun c1 => ?_) (fun c1 => ?_)
  · rw [if_neg c1] at hf
    refine bb_iload_n dX8_cut_11 rfl ?_
    refine bb_iconst (v := 1) dX8_cut_12 (by decide) ?_
    refine bb_icmp_ne (tgt := 23) dX8_cut_13 (by decide) (fun c13 => ?_) (fun c13 => ?_)
    · rw [if_neg c13] at hf
      refine bb_iload_n dX8_cut_23 rfl ?_
      refine bb_iconst (v := 2) dX8_cut_24 (by decide) ?_
      refine bb_icmp_ne (tgt := 34) dX8_cut_25 (by decide) (fun c25 => ?_) (fun c25 => ?_)
      · rw [if_neg c25] at hf
        refine bb_lload_n dX8_cut_34 rfl ?_
        refine bb_fewer (L' := [.null, .null, .null]) trivial ?_
        exact j_X8_cut_35 _ _ hf
      rw [if_pos c25] at hf
      refine bb_lload_n dX8_cut_28 rfl ?_
      refine bb_l2i dX8_cut_29 ?_
      refine bb_i2l dX8_cut_30 ?_
      refine bb_goto (tgt := 35) dX8_cut_31 (by decide) ?_
      refine bb_fewer (L' := [.null, .null, .null]) trivial ?_
      exact j_X8_cut_35 _ _ hf
    rw [if_pos c13] at hf
    refine bb_lload_n dX8_cut_16 rfl ?_
    refine bb_l2i dX8_cut_17 ?_
    refine bb_i2s dX8_cut_18 ?_
    refine bb_i2l dX8_cut_19 ?_
    refine bb_goto (tgt := 35) dX8_cut_20 (by decide) ?_
    refine bb_fewer (L' := [.null, .null, .null]) trivial ?_
    exact j_X8_cut_35 _ _ hf
  rw [if_pos c1] at hf
  refine bb_lload_n dX8_cut_4 rfl ?_
  refine bb_l2i dX8_cut_5 ?_
  refine bb_i2b dX8_cut_6 ?_
  refine bb_i2l dX8_cut_7 ?_
  refine bb_goto (tgt := 35) dX8_cut_8 (by decide) ?_
  refine bb_fewer (L' := [.null, .null, .null]) trivial ?_
  exact j_X8_cut_35 _ _ hf
theorem ok_X8_cut {x0 : Int32} {x1 : Int64} {h : bb_H} {r : Int64 × bb_H} (hf : m_X8_cut x0 x1 h = some r) : bb_Ok yX8_cut cX8_cut 3 (some .long) rm_X8_cut [.int x0, .long x1] h (some (.long r.1), r.2) :=
  bb_ok (L := [.int x0, .long x1, .null]) (by decide) (Nat.le_of_ble_eq_true rfl) rfl (bb_fewer (L' := [.int x0, .long x1, .null]) (And.intro rfl (And.intro rfl trivial)) (j_X8_cut_0 _ _ _ hf))
abbrev rm_X8_isSo : Room := { frames := 5, cells := 0, slots := 0, locals := 113 }
set_option maxRecDepth 100000 in
set_option maxHeartbeats 4000000 in
theorem j_X8_isSo_48 {r : Int32 × bb_H} {k6 : Nat → Int32 → Int32 → Int32 → Int32 → Int32 → bb_H → Option (Int32 × bb_H)} (hk6 : ∀ (x0 : Nat) (x1 : Int32) (x2 : Int32) (x3 : Int32) (x4 : Int32) (x5 : Int32) (h : bb_H), k6 x0 x1 x2 x3 x4 x5 h = some r → bb_J RX8 cX8_isSo 6 (some .boolean) rm_X8_isSo (some (.int r.1), r.2) 6 [.ref x0, .int x1, .int x2, .int x3, .int x4, .int x5] [] h) : ∀ (x0 : Nat) (x1 : Int32) (x2 : Int32) (x3 : Int32) (x5 : Int32) (z0 : Int32) (h : bb_H), m_X8_isSo_48 k6 x0 x1 x2 x3 x5 z0 h = some r → bb_J RX8 cX8_isSo 6 (some .boolean) rm_X8_isSo (some (.int r.1), r.2) 48 [.ref x0, .int x1, .int x2, .int x3, .null, .int x5] [.int z0] h := by
  intro x0 x1 x2 x3 x5 z0 h hf
  unfold m_X8_isSo_48 at hf
  refine bb_istore (L' := [.ref x0, .int x1, .int x2, .int x3, .int z0, .int x5]) dX8_isSo_48 (by decide) rfl rfl ?_
  refine bb_iinc (v := x5 + 1) (L' := [.ref x0, .int x1, .int x2, .int x3, .int z0, .int (x5 + 1)]) dX8_isSo_50 rfl rfl (by decide) rfl rfl ?_
  refine bb_goto (tgt := 6) dX8_isSo_53 (by decide) ?_
  refine bb_fewer (L' := [.ref x0, .int x1, .int x2, .int x3, .int z0, .int (x5 + 1)]) (And.intro rfl (And.intro rfl (And.intro rfl (And.intro rfl (And.intro rfl (And.intro rfl trivial)))))) ?_
  exact hk6 _ _ _ _ _ _ _ hf
set_option maxRecDepth 100000 in
set_option maxHeartbeats 4000000 in
theorem j_X8_isSo_56 {r : Int32 × bb_H} : ∀ (x0 : Nat) (x4 : Int32) (h : bb_H), m_X8_isSo_56 x0 x4 h = some r → bb_J RX8 cX8_isSo 6 (some .boolean) rm_X8_isSo (some (.int r.1), r.2) 56 [.ref x0, .null, .null, .null, .int x4, .null] [] h := by
  intro x0 x4 h hf
  unfold m_X8_isSo_56 at hf
  refine bb_aload_n dX8_isSo_56 rfl ?_
  obtain ⟨g57, h57, hf⟩ := bb_bind hf
  obtain ⟨⟨v57, b57⟩, h57⟩ := bb_rcv_spec h57
  refine bb_invV (ci := 8) (as := []) iv_X8_135 (by unfold bb_rr; decide) rfl dX8_isSo_57 rfl rfl b57 (Nat.le_of_ble_eq_true rfl) (ok_X8_lets h57) ?_
  refine bb_iload dX8_isSo_60 rfl ?_
  obtain ⟨hn, rfl⟩ := bb_rz_spec hf
  exact bb_zret rfl hn rfl dX8_isSo_62
set_option maxRecDepth 100000 in
set_option maxHeartbeats 4000000 in
theorem j_X8_isSo_6 {r : Int32 × bb_H} : ∀ (n : Nat) (x0 : Nat) (x1 : Int32) (x2 : Int32) (x3 : Int32) (x4 : Int32) (x5 : Int32) (h : bb_H), m_X8_isSo_6 n x0 x1 x2 x3 x4 x5 h = some r → bb_J RX8 cX8_isSo 6 (some .boolean) rm_X8_isSo (some (.int r.1), r.2) 6 [.ref x0, .int x1, .int x2, .int x3, .int x4, .int x5] [] h := by
  intro n
  induction n with
  | zero =>
    intro x0 x1 x2 x3 x4 x5 h hf
    exact absurd hf (fun z => by cases z)
  | succ n ih =>
    intro x0 x1 x2 x3 x4 x5 h hf
    unfold m_X8_isSo_6 at hf
    refine bb_iload dX8_isSo_6 rfl ?_
    refine bb_iload_n dX8_isSo_8 rfl ?_
    refine bb_icmp_ge (tgt := 56) dX8_isSo_9 (by decide) (fun c9 => ?_) (fun c9 => ?_)
    · rw [if_pos c9] at hf
      refine bb_fewer (L' := [.ref x0, .null, .null, .null, .int x4, .null]) (And.intro rfl (And.intro rfl trivial)) ?_
      exact j_X8_isSo_56 _ _ _ hf
    rw [if_neg c9] at hf
    refine bb_iload dX8_isSo_12 rfl ?_
    refine bb_if_eq (tgt := 56) dX8_isSo_14 (by decide) (fun c14 => ?_) (fun c14 => ?_)
    · rw [if_pos c14] at hf
      refine bb_fewer (L' := [.ref x0, .null, .null, .null, .int x4, .null]) (And.intro rfl (And.intro rfl trivial)) ?_
      exact j_X8_isSo_56 _ _ _ hf
    rw [if_neg c14] at hf
    refine bb_aload_n dX8_isSo_17 rfl ?_
    obtain ⟨g18, h18, hf⟩ := bb_bind hf
    obtain ⟨⟨v18, b18⟩, h18⟩ := bb_rcv_spec h18
    refine bb_invV (ci := 8) (as := []) iv_X8_122 (by unfold bb_rr; decide) rfl dX8_isSo_18 rfl rfl b18 (Nat.le_of_ble_eq_true rfl) (ok_X8_passes h18) ?_
    refine bb_aload_n dX8_isSo_21 rfl ?_
    obtain ⟨t22, h22, hf⟩ := bb_bind hf
    refine bb_getR fl_X8_22 dX8_isSo_22 h22 ?_
    refine bb_iload_n dX8_isSo_25 rfl ?_
    refine bb_iload dX8_isSo_26 rfl ?_
    refine bb_iadd dX8_isSo_28 ?_
    obtain ⟨t29, h29, hf⟩ := bb_bind hf
    refine bb_laload dX8_isSo_29 h29 ?_
    refine bb_aload_n dX8_isSo_30 rfl ?_
    obtain ⟨t31, h31, hf⟩ := bb_bind hf
    refine bb_getR fl_X8_7 dX8_isSo_31 h31 ?_
    refine bb_iconst (v := 4) dX8_isSo_34 (by decide) ?_
    refine bb_iload_n dX8_isSo_35 rfl ?_
    refine bb_iadd dX8_isSo_36 ?_
    obtain ⟨t37, h37, hf⟩ := bb_bind hf
    refine bb_iaload dX8_isSo_37 h37 ?_
    refine bb_i2l dX8_isSo_38 ?_
    refine bb_lcmp dX8_isSo_39 ?_
    refine bb_if_ne (tgt := 47) dX8_isSo_40 (by decide) (fun c40 => ?_) (fun c40 => ?_)
    · rw [if_neg c40] at hf
      refine bb_iconst (v := 0) dX8_isSo_47 (by decide) ?_
      refine bb_fewer (L' := [.ref x0, .int x1, .int x2, .int x3, .null, .int x5]) (And.intro rfl (And.intro rfl (And.intro rfl (And.intro rfl (And.intro rfl trivial))))) ?_
      exact j_X8_isSo_48 ih _ _ _ _ _ _ _ hf
    rw [if_pos c40] at hf
    refine bb_iconst (v := 1) dX8_isSo_43 (by decide) ?_
    refine bb_goto (tgt := 48) dX8_isSo_44 (by decide) ?_
    refine bb_fewer (L' := [.ref x0, .int x1, .int x2, .int x3, .null, .int x5]) (And.intro rfl (And.intro rfl (And.intro rfl (And.intro rfl (And.intro rfl trivial))))) ?_
    exact j_X8_isSo_48 ih _ _ _ _ _ _ _ hf
set_option maxRecDepth 100000 in
set_option maxHeartbeats 4000000 in
theorem j_X8_isSo_0 {r : Int32 × bb_H} : ∀ (x0 : Nat) (x1 : Int32) (x2 : Int32) (x3 : Int32) (h : bb_H), m_X8_isSo x0 x1 x2 x3 h = some r → bb_J RX8 cX8_isSo 6 (some .boolean) rm_X8_isSo (some (.int r.1), r.2) 0 [.ref x0, .int x1, .int x2, .int x3, .null, .null] [] h := by
  intro x0 x1 x2 x3 h hf
  unfold m_X8_isSo at hf
  refine bb_iconst (v := 1) dX8_isSo_0 (by decide) ?_
  refine bb_istore (L' := [.ref x0, .int x1, .int x2, .int x3, .int 1, .null]) dX8_isSo_1 (by decide) rfl rfl ?_
  refine bb_iconst (v := 0) dX8_isSo_3 (by decide) ?_
  refine bb_istore (L' := [.ref x0, .int x1, .int x2, .int x3, .int 1, .int 0]) dX8_isSo_4 (by decide) rfl rfl ?_
  refine bb_fewer (L' := [.ref x0, .int x1, .int x2, .int x3, .int 1, .int 0]) (And.intro rfl (And.intro rfl (And.intro rfl (And.intro rfl (And.intro rfl (And.intro rfl trivial)))))) ?_
  exact j_X8_isSo_6 _ _ _ _ _ _ _ _ hf
theorem ok_X8_isSo {x0 : Nat} {x1 : Int32} {x2 : Int32} {x3 : Int32} {h : bb_H} {r : Int32 × bb_H} (hf : m_X8_isSo x0 x1 x2 x3 h = some r) : bb_Ok yX8_isSo cX8_isSo 6 (some .boolean) rm_X8_isSo [.ref x0, .int x1, .int x2, .int x3] h (some (.int r.1), r.2) :=
  bb_ok (L := [.ref x0, .int x1, .int x2, .int x3, .null, .null]) (by decide) (Nat.le_of_ble_eq_true rfl) rfl (bb_fewer (L' := [.ref x0, .int x1, .int x2, .int x3, .null, .null]) (And.intro rfl (And.intro rfl (And.intro rfl (And.intro rfl trivial)))) (j_X8_isSo_0 _ _ _ _ _ hf))
abbrev rm_X8_failed : Room := { frames := 6, cells := 0, slots := 0, locals := 138 }
set_option maxRecDepth 100000 in
set_option maxHeartbeats 4000000 in
theorem j_X8_failed_45 {r : Int32 × bb_H} : ∀ (h : bb_H), m_X8_failed_45 h = some r → bb_J RX8 cX8_failed 14 (some .int) rm_X8_failed (some (.int r.1), r.2) 45 [.null, .null, .null, .null, .null, .null, .null, .null, .null, .null, .null, .null, .null, .null] [] h := by
  intro h hf
  unfold m_X8_failed_45 at hf
  refine bb_iconst (v := (-1)) dX8_failed_45 (by decide) ?_
  obtain rfl := Option.some.inj hf
  exact bb_iret rfl rfl dX8_failed_46
set_option maxRecDepth 100000 in
set_option maxHeartbeats 4000000 in
theorem j_X8_failed_138 {r : Int32 × bb_H} {k99 : Nat → Int32 → Int32 → Int32 → Int32 → Int32 → Int32 → bb_H → Option (Int32 × bb_H)} (hk99 : ∀ (x0 : Nat) (x1 : Int32) (x5 : Int32) (x6 : Int32) (x8 : Int32) (x9 : Int32) (x10 : Int32) (h : bb_H), k99 x0 x1 x5 x6 x8 x9 x10 h = some r → bb_J RX8 cX8_failed 14 (some .int) rm_X8_failed (some (.int r.1), r.2) 99 [.ref x0, .int x1, .null, .null, .null, .int x5, .int x6, .null, .int x8, .int x9, .int x10, .null, .null, .null] [] h) : ∀ (x0 : Nat) (x1 : Int32) (x5 : Int32) (x6 : Int32) (x8 : Int32) (x10 : Int32) (z0 : Int32) (z1 : Int32) (h : bb_H), m_X8_failed_138 k99 x0 x1 x5 x6 x8 x10 z0 z1 h = some r → bb_J RX8 cX8_failed 14 (some .int) rm_X8_failed (some (.int r.1), r.2) 138 [.ref x0, .int x1, .null, .null, .null, .int x5, .int x6, .null, .int x8, .null, .int x10, .null, .null, .null] [.int z1, .int z0] h := by
  intro x0 x1 x5 x6 x8 x10 z0 z1 h hf
  unfold m_X8_failed_138 at hf
  refine bb_ior dX8_failed_138 ?_
  refine bb_istore (L' := [.ref x0, .int x1, .null, .null, .null, .int x5, .int x6, .null, .int x8, .int (z0 ||| z1), .int x10, .null, .null, .null]) dX8_failed_139 (by decide) rfl rfl ?_
  refine bb_iinc (v := x10 + 1) (L' := [.ref x0, .int x1, .null, .null, .null, .int x5, .int x6, .null, .int x8, .int (z0 ||| z1), .int (x10 + 1), .null, .null, .null]) dX8_failed_141 rfl rfl (by decide) rfl rfl ?_
  refine bb_goto (tgt := 99) dX8_failed_144 (by decide) ?_
  refine bb_fewer (L' := [.ref x0, .int x1, .null, .null, .null, .int x5, .int x6, .null, .int x8, .int (z0 ||| z1), .int (x10 + 1), .null, .null, .null]) (And.intro rfl (And.intro rfl (And.intro rfl (And.intro rfl (And.intro rfl (And.intro rfl (And.intro rfl trivial))))))) ?_
  exact hk99 _ _ _ _ _ _ _ _ hf
set_option maxRecDepth 100000 in
set_option maxHeartbeats 4000000 in
theorem j_X8_failed_211 {r : Int32 × bb_H} {k158 : Nat → Int32 → Int32 → Int32 → Int32 → Int32 → Int32 → Int32 → Int32 → bb_H → Option (Int32 × bb_H)} (hk158 : ∀ (x0 : Nat) (x1 : Int32) (x5 : Int32) (x6 : Int32) (x8 : Int32) (x9 : Int32) (x10 : Int32) (x11 : Int32) (x12 : Int32) (h : bb_H), k158 x0 x1 x5 x6 x8 x9 x10 x11 x12 h = some r → bb_J RX8 cX8_failed 14 (some .int) rm_X8_failed (some (.int r.1), r.2) 158 [.ref x0, .int x1, .null, .null, .null, .int x5, .int x6, .null, .int x8, .int x9, .int x10, .int x11, .int x12, .null] [] h) : ∀ (x0 : Nat) (x1 : Int32) (x5 : Int32) (x6 : Int32) (x8 : Int32) (x9 : Int32) (x10 : Int32) (x12 : Int32) (z0 : Int32) (h : bb_H), m_X8_failed_211 k158 x0 x1 x5 x6 x8 x9 x10 x12 z0 h = some r → bb_J RX8 cX8_failed 14 (some .int) rm_X8_failed (some (.int r.1), r.2) 211 [.ref x0, .int x1, .null, .null, .null, .int x5, .int x6, .null, .int x8, .int x9, .int x10, .null, .int x12, .null] [.int z0] h := by
  intro x0 x1 x5 x6 x8 x9 x10 x12 z0 h hf
  unfold m_X8_failed_211 at hf
  refine bb_istore (L' := [.ref x0, .int x1, .null, .null, .null, .int x5, .int x6, .null, .int x8, .int x9, .int x10, .int z0, .int x12, .null]) dX8_failed_211 (by decide) rfl rfl ?_
  refine bb_iinc (v := x12 + (-1)) (L' := [.ref x0, .int x1, .null, .null, .null, .int x5, .int x6, .null, .int x8, .int x9, .int x10, .int z0, .int (x12 + (-1)), .null]) dX8_failed_213 rfl rfl (by decide) rfl rfl ?_
  refine bb_goto (tgt := 158) dX8_failed_216 (by decide) ?_
  refine bb_fewer (L' := [.ref x0, .int x1, .null, .null, .null, .int x5, .int x6, .null, .int x8, .int x9, .int x10, .int z0, .int (x12 + (-1)), .null]) (And.intro rfl (And.intro rfl (And.intro rfl (And.intro rfl (And.intro rfl (And.intro rfl (And.intro rfl (And.intro rfl (And.intro rfl trivial))))))))) ?_
  exact hk158 _ _ _ _ _ _ _ _ _ _ hf
set_option maxRecDepth 100000 in
set_option maxHeartbeats 4000000 in
theorem j_X8_failed_196 {r : Int32 × bb_H} {k158 : Nat → Int32 → Int32 → Int32 → Int32 → Int32 → Int32 → Int32 → Int32 → bb_H → Option (Int32 × bb_H)} (hk158 : ∀ (x0 : Nat) (x1 : Int32) (x5 : Int32) (x6 : Int32) (x8 : Int32) (x9 : Int32) (x10 : Int32) (x11 : Int32) (x12 : Int32) (h : bb_H), k158 x0 x1 x5 x6 x8 x9 x10 x11 x12 h = some r → bb_J RX8 cX8_failed 14 (some .int) rm_X8_failed (some (.int r.1), r.2) 158 [.ref x0, .int x1, .null, .null, .null, .int x5, .int x6, .null, .int x8, .int x9, .int x10, .int x11, .int x12, .null] [] h) : ∀ (x0 : Nat) (x1 : Int32) (x5 : Int32) (x6 : Int32) (x8 : Int32) (x9 : Int32) (x11 : Int32) (x12 : Int32) (x13 : Int32) (z0 : Int32) (z1 : Int32) (h : bb_H), m_X8_failed_196 k158 x0 x1 x5 x6 x8 x9 x11 x12 x13 z0 z1 h = some r → bb_J RX8 cX8_failed 14 (some .int) rm_X8_failed (some (.int r.1), r.2) 196 [.ref x0, .int x1, .null, .null, .null, .int x5, .int x6, .null, .int x8, .int x9, .null, .int x11, .int x12, .int x13] [.int z1, .int z0] h := by
  intro x0 x1 x5 x6 x8 x9 x11 x12 x13 z0 z1 h hf
  unfold m_X8_failed_196 at hf
  refine bb_iadd dX8_failed_196 ?_
  refine bb_istore (L' := [.ref x0, .int x1, .null, .null, .null, .int x5, .int x6, .null, .int x8, .int x9, .int (z0 + z1), .int x11, .int x12, .int x13]) dX8_failed_197 (by decide) rfl rfl ?_
  refine bb_iload dX8_failed_199 rfl ?_
  refine bb_if_eq (tgt := 209) dX8_failed_201 (by decide) (fun c201 => ?_) (fun c201 => ?_)
  · rw [if_pos c201] at hf
    refine bb_iload dX8_failed_209 rfl ?_
    refine bb_fewer (L' := [.ref x0, .int x1, .null, .null, .null, .int x5, .int x6, .null, .int x8, .int x9, .int (z0 + z1), .null, .int x12, .null]) (And.intro rfl (And.intro rfl (And.intro rfl (And.intro rfl (And.intro rfl (And.intro rfl (And.intro rfl (And.intro rfl trivial)))))))) ?_
    exact j_X8_failed_211 hk158 _ _ _ _ _ _ _ _ _ _ hf
  rw [if_neg c201] at hf
  refine bb_iload dX8_failed_204 rfl ?_
  refine bb_goto (tgt := 211) dX8_failed_206 (by decide) ?_
  refine bb_fewer (L' := [.ref x0, .int x1, .null, .null, .null, .int x5, .int x6, .null, .int x8, .int x9, .int (z0 + z1), .null, .int x12, .null]) (And.intro rfl (And.intro rfl (And.intro rfl (And.intro rfl (And.intro rfl (And.intro rfl (And.intro rfl (And.intro rfl trivial)))))))) ?_
  exact j_X8_failed_211 hk158 _ _ _ _ _ _ _ _ _ _ hf
set_option maxRecDepth 100000 in
set_option maxHeartbeats 4000000 in
theorem j_X8_failed_242 {r : Int32 × bb_H} : ∀ (z0 : Int32) (h : bb_H), m_X8_failed_242 z0 h = some r → bb_J RX8 cX8_failed 14 (some .int) rm_X8_failed (some (.int r.1), r.2) 242 [.null, .null, .null, .null, .null, .null, .null, .null, .null, .null, .null, .null, .null, .null] [.int z0] h := by
  intro z0 h hf
  unfold m_X8_failed_242 at hf
  obtain rfl := Option.some.inj hf
  exact bb_iret rfl rfl dX8_failed_242
set_option maxRecDepth 100000 in
set_option maxHeartbeats 4000000 in
theorem j_X8_failed_158 {r : Int32 × bb_H} : ∀ (n : Nat) (x0 : Nat) (x1 : Int32) (x5 : Int32) (x6 : Int32) (x8 : Int32) (x9 : Int32) (x10 : Int32) (x11 : Int32) (x12 : Int32) (h : bb_H), m_X8_failed_158 n x0 x1 x5 x6 x8 x9 x10 x11 x12 h = some r → bb_J RX8 cX8_failed 14 (some .int) rm_X8_failed (some (.int r.1), r.2) 158 [.ref x0, .int x1, .null, .null, .null, .int x5, .int x6, .null, .int x8, .int x9, .int x10, .int x11, .int x12, .null] [] h := by
  intro n
  induction n with
  | zero =>
    intro x0 x1 x5 x6 x8 x9 x10 x11 x12 h hf
    exact absurd hf (fun z => by cases z)
  | succ n ih =>
    intro x0 x1 x5 x6 x8 x9 x10 x11 x12 h hf
    unfold m_X8_failed_158 at hf
    refine bb_iload dX8_failed_158 rfl ?_
    refine bb_if_le (tgt := 219) dX8_failed_160 (by decide) (fun c160 => ?_) (fun c160 => ?_)
    · rw [if_pos c160] at hf
      refine bb_iload dX8_failed_219 rfl ?_
      refine bb_if_ne (tgt := 229) dX8_failed_221 (by decide) (fun c221 => ?_) (fun c221 => ?_)
      · rw [if_neg c221] at hf
        refine bb_iload dX8_failed_229 rfl ?_
        refine bb_iconst (v := 1) dX8_failed_231 (by decide) ?_
        refine bb_icmp_ne (tgt := 240) dX8_failed_232 (by decide) (fun c232 => ?_) (fun c232 => ?_)
        · rw [if_neg c232] at hf
          refine bb_iload dX8_failed_240 rfl ?_
          refine bb_fewer (L' := [.null, .null, .null, .null, .null, .null, .null, .null, .null, .null, .null, .null, .null, .null]) trivial ?_
          exact j_X8_failed_242 _ _ hf
        rw [if_pos c232] at hf
        refine bb_iload dX8_failed_235 rfl ?_
        refine bb_goto (tgt := 242) dX8_failed_237 (by decide) ?_
        refine bb_fewer (L' := [.null, .null, .null, .null, .null, .null, .null, .null, .null, .null, .null, .null, .null, .null]) trivial ?_
        exact j_X8_failed_242 _ _ hf
      rw [if_pos c221] at hf
      refine bb_iload dX8_failed_224 rfl ?_
      refine bb_goto (tgt := 242) dX8_failed_226 (by decide) ?_
      refine bb_fewer (L' := [.null, .null, .null, .null, .null, .null, .null, .null, .null, .null, .null, .null, .null, .null]) trivial ?_
      exact j_X8_failed_242 _ _ hf
    rw [if_neg c160] at hf
    refine bb_aload_n dX8_failed_163 rfl ?_
    obtain ⟨t164, h164, hf⟩ := bb_bind hf
    refine bb_getR fl_X8_7 dX8_failed_164 h164 ?_
    refine bb_iconst (v := 4) dX8_failed_167 (by decide) ?_
    refine bb_iload_n dX8_failed_168 rfl ?_
    refine bb_iadd dX8_failed_169 ?_
    refine bb_iload dX8_failed_170 rfl ?_
    obtain ⟨g172, h172, hf⟩ := bb_bind hf
    refine bb_iastore dX8_failed_172 h172 ?_
    refine bb_aload_n dX8_failed_173 rfl ?_
    refine bb_iload_n dX8_failed_174 rfl ?_
    refine bb_iload dX8_failed_175 rfl ?_
    refine bb_iload dX8_failed_177 rfl ?_
    obtain ⟨r179, h179, hf⟩ := bb_bind hf
    obtain ⟨⟨v179, b179⟩, h179⟩ := bb_rcv_spec h179
    refine bb_invV (ci := 8) (as := [.int x1, .int x8, .int x5]) iv_X8_166 (by unfold bb_rr; decide) rfl dX8_failed_179 rfl rfl b179 (Nat.le_of_ble_eq_true rfl) (ok_X8_isSo h179) ?_
    refine bb_istore (L' := [.ref x0, .int x1, .null, .null, .null, .int x5, .int x6, .null, .int x8, .int x9, .int x10, .int x11, .int x12, .int r179.1]) dX8_failed_182 (by decide) rfl rfl ?_
    refine bb_iload dX8_failed_184 rfl ?_
    refine bb_iload dX8_failed_186 rfl ?_
    refine bb_if_eq (tgt := 195) dX8_failed_188 (by decide) (fun c188 => ?_) (fun c188 => ?_)
    · rw [if_pos c188] at hf
      refine bb_iconst (v := 0) dX8_failed_195 (by decide) ?_
      refine bb_fewer (L' := [.ref x0, .int x1, .null, .null, .null, .int x5, .int x6, .null, .int x8, .int x9, .null, .int x11, .int x12, .int r179.1]) (And.intro rfl (And.intro rfl (And.intro rfl (And.intro rfl (And.intro rfl (And.intro rfl (And.intro rfl (And.intro rfl (And.intro rfl trivial))))))))) ?_
      exact j_X8_failed_196 ih _ _ _ _ _ _ _ _ _ _ _ _ hf
    rw [if_neg c188] at hf
    refine bb_iconst (v := 1) dX8_failed_191 (by decide) ?_
    refine bb_goto (tgt := 196) dX8_failed_192 (by decide) ?_
    refine bb_fewer (L' := [.ref x0, .int x1, .null, .null, .null, .int x5, .int x6, .null, .int x8, .int x9, .null, .int x11, .int x12, .int r179.1]) (And.intro rfl (And.intro rfl (And.intro rfl (And.intro rfl (And.intro rfl (And.intro rfl (And.intro rfl (And.intro rfl (And.intro rfl trivial))))))))) ?_
    exact j_X8_failed_196 ih _ _ _ _ _ _ _ _ _ _ _ _ hf
set_option maxRecDepth 100000 in
set_option maxHeartbeats 4000000 in
theorem j_X8_failed_99 {r : Int32 × bb_H} : ∀ (n : Nat) (x0 : Nat) (x1 : Int32) (x5 : Int32) (x6 : Int32) (x8 : Int32) (x9 : Int32) (x10 : Int32) (h : bb_H), m_X8_failed_99 n x0 x1 x5 x6 x8 x9 x10 h = some r → bb_J RX8 cX8_failed 14 (some .int) rm_X8_failed (some (.int r.1), r.2) 99 [.ref x0, .int x1, .null, .null, .null, .int x5, .int x6, .null, .int x8, .int x9, .int x10, .null, .null, .null] [] h := by
  intro n
  induction n with
  | zero =>
    intro x0 x1 x5 x6 x8 x9 x10 h hf
    exact absurd hf (fun z => by cases z)
  | succ n ih =>
    intro x0 x1 x5 x6 x8 x9 x10 h hf
    unfold m_X8_failed_99 at hf
    refine bb_iload dX8_failed_99 rfl ?_
    refine bb_iconst (v := 4) dX8_failed_101 (by decide) ?_
    refine bb_icmp_gt (tgt := 147) dX8_failed_102 (by decide) (fun c102 => ?_) (fun c102 => ?_)
    · rw [if_pos c102] at hf
      refine bb_iconst (v := 0) dX8_failed_147 (by decide) ?_
      refine bb_istore (L' := [.ref x0, .int x1, .null, .null, .null, .int x5, .int x6, .null, .int x8, .int x9, .int 0, .null, .null, .null]) dX8_failed_148 (by decide) rfl rfl ?_
      refine bb_bipush (v := (-4)) dX8_failed_150 (by decide) ?_
      refine bb_istore (L' := [.ref x0, .int x1, .null, .null, .null, .int x5, .int x6, .null, .int x8, .int x9, .int 0, .int (-4), .null, .null]) dX8_failed_152 (by decide) rfl rfl ?_
      refine bb_bipush (v := 60) dX8_failed_154 (by decide) ?_
      refine bb_istore (L' := [.ref x0, .int x1, .null, .null, .null, .int x5, .int x6, .null, .int x8, .int x9, .int 0, .int (-4), .int 60, .null]) dX8_failed_156 (by decide) rfl rfl ?_
      refine bb_fewer (L' := [.ref x0, .int x1, .null, .null, .null, .int x5, .int x6, .null, .int x8, .int x9, .int 0, .int (-4), .int 60, .null]) (And.intro rfl (And.intro rfl (And.intro rfl (And.intro rfl (And.intro rfl (And.intro rfl (And.intro rfl (And.intro rfl (And.intro rfl trivial))))))))) ?_
      exact j_X8_failed_158 _ _ _ _ _ _ _ _ _ _ _ hf
    rw [if_neg c102] at hf
    refine bb_aload_n dX8_failed_105 rfl ?_
    obtain ⟨t106, h106, hf⟩ := bb_bind hf
    refine bb_getR fl_X8_7 dX8_failed_106 h106 ?_
    refine bb_bipush (v := 16) dX8_failed_109 (by decide) ?_
    refine bb_iload_n dX8_failed_111 rfl ?_
    refine bb_iadd dX8_failed_112 ?_
    refine bb_iload dX8_failed_113 rfl ?_
    obtain ⟨g115, h115, hf⟩ := bb_bind hf
    refine bb_iastore dX8_failed_115 h115 ?_
    refine bb_iload dX8_failed_116 rfl ?_
    refine bb_aload_n dX8_failed_118 rfl ?_
    refine bb_iload_n dX8_failed_119 rfl ?_
    refine bb_iload dX8_failed_120 rfl ?_
    refine bb_iload dX8_failed_122 rfl ?_
    obtain ⟨r124, h124, hf⟩ := bb_bind hf
    obtain ⟨⟨v124, b124⟩, h124⟩ := bb_rcv_spec h124
    refine bb_invV (ci := 8) (as := [.int x1, .int x8, .int x5]) iv_X8_166 (by unfold bb_rr; decide) rfl dX8_failed_124 rfl rfl b124 (Nat.le_of_ble_eq_true rfl) (ok_X8_isSo h124) ?_
    refine bb_if_eq (tgt := 137) dX8_failed_127 (by decide) (fun c127 => ?_) (fun c127 => ?_)
    · rw [if_pos c127] at hf
      refine bb_iconst (v := 0) dX8_failed_137 (by decide) ?_
      refine bb_fewer (L' := [.ref x0, .int x1, .null, .null, .null, .int x5, .int x6, .null, .int x8, .null, .int x10, .null, .null, .null]) (And.intro rfl (And.intro rfl (And.intro rfl (And.intro rfl (And.intro rfl (And.intro rfl trivial)))))) ?_
      exact j_X8_failed_138 ih _ _ _ _ _ _ _ _ _ hf
    rw [if_neg c127] at hf
    refine bb_iconst (v := 1) dX8_failed_130 (by decide) ?_
    refine bb_iload dX8_failed_131 rfl ?_
    refine bb_ishl dX8_failed_133 ?_
    refine bb_goto (tgt := 138) dX8_failed_134 (by decide) ?_
    refine bb_fewer (L' := [.ref x0, .int x1, .null, .null, .null, .int x5, .int x6, .null, .int x8, .null, .int x10, .null, .null, .null]) (And.intro rfl (And.intro rfl (And.intro rfl (And.intro rfl (And.intro rfl (And.intro rfl trivial)))))) ?_
    exact j_X8_failed_138 ih _ _ _ _ _ _ _ _ _ hf
set_option maxRecDepth 100000 in
set_option maxHeartbeats 4000000 in
theorem j_X8_failed_0 {r : Int32 × bb_H} : ∀ (x0 : Nat) (x1 : Int32) (x2 : Int32) (x3 : Int32) (x4 : Int32) (x5 : Int32) (x6 : Int32) (h : bb_H), m_X8_failed x0 x1 x2 x3 x4 x5 x6 h = some r → bb_J RX8 cX8_failed 14 (some .int) rm_X8_failed (some (.int r.1), r.2) 0 [.ref x0, .int x1, .int x2, .int x3, .int x4, .int x5, .int x6, .null, .null, .null, .null, .null, .null, .null] [] h := by
  intro x0 x1 x2 x3 x4 x5 x6 h hf
  unfold m_X8_failed at hf
  refine bb_aload_n dX8_failed_0 rfl ?_
  refine bb_iload_n dX8_failed_1 rfl ?_
  obtain ⟨r2, h2, hf⟩ := bb_bind hf
  obtain ⟨⟨v2, b2⟩, h2⟩ := bb_rcv_spec h2
  refine bb_invV (ci := 8) (as := [.int x1]) iv_X8_52 (by unfold bb_rr; decide) rfl dX8_failed_2 rfl rfl b2 (Nat.le_of_ble_eq_true rfl) (ok_X8_isMan h2) ?_
  refine bb_if_eq (tgt := 45) dX8_failed_5 (by decide) (fun c5 => ?_) (fun c5 => ?_)
  · rw [if_pos c5] at hf
    refine bb_fewer (L' := [.null, .null, .null, .null, .null, .null, .null, .null, .null, .null, .null, .null, .null, .null]) trivial ?_
    exact j_X8_failed_45 _ hf
  rw [if_neg c5] at hf
  refine bb_iload_n dX8_failed_8 rfl ?_
  obtain ⟨r9, h9, hf⟩ := bb_bind hf
  refine bb_invS (as := [.int x2]) is_X8_159 (by unfold bb_rr; decide) dX8_failed_9 rfl rfl (Nat.le_of_ble_eq_true rfl) (ok_X8_isSheet h9) ?_
  refine bb_if_eq (tgt := 45) dX8_failed_12 (by decide) (fun c12 => ?_) (fun c12 => ?_)
  · rw [if_pos c12] at hf
    refine bb_fewer (L' := [.null, .null, .null, .null, .null, .null, .null, .null, .null, .null, .null, .null, .null, .null]) trivial ?_
    exact j_X8_failed_45 _ hf
  rw [if_neg c12] at hf
  refine bb_iload_n dX8_failed_15 rfl ?_
  refine bb_iconst (v := 0) dX8_failed_16 (by decide) ?_
  refine bb_iconst (v := 3) dX8_failed_17 (by decide) ?_
  obtain ⟨r18, h18, hf⟩ := bb_bind hf
  refine bb_invS (as := [.int x3, .int 0, .int 3]) is_X8_44 (by unfold bb_rr; decide) dX8_failed_18 rfl rfl (Nat.le_of_ble_eq_true rfl) (ok_X8_in h18) ?_
  refine bb_if_eq (tgt := 45) dX8_failed_21 (by decide) (fun c21 => ?_) (fun c21 => ?_)
  · rw [if_pos c21] at hf
    refine bb_fewer (L' := [.null, .null, .null, .null, .null, .null, .null, .null, .null, .null, .null, .null, .null, .null]) trivial ?_
    exact j_X8_failed_45 _ hf
  rw [if_neg c21] at hf
  refine bb_iload dX8_failed_24 rfl ?_
  refine bb_iconst (v := 1) dX8_failed_26 (by decide) ?_
  refine bb_bipush (v := 8) dX8_failed_27 (by decide) ?_
  obtain ⟨r29, h29, hf⟩ := bb_bind hf
  refine bb_invS (as := [.int x5, .int 1, .int 8]) is_X8_44 (by unfold bb_rr; decide) dX8_failed_29 rfl rfl (Nat.le_of_ble_eq_true rfl) (ok_X8_in h29) ?_
  refine bb_if_eq (tgt := 45) dX8_failed_32 (by decide) (fun c32 => ?_) (fun c32 => ?_)
  · rw [if_pos c32] at hf
    refine bb_fewer (L' := [.null, .null, .null, .null, .null, .null, .null, .null, .null, .null, .null, .null, .null, .null]) trivial ?_
    exact j_X8_failed_45 _ hf
  rw [if_neg c32] at hf
  refine bb_iload dX8_failed_35 rfl ?_
  refine bb_iconst (v := 0) dX8_failed_37 (by decide) ?_
  refine bb_iconst (v := 2) dX8_failed_38 (by decide) ?_
  obtain ⟨r39, h39, hf⟩ := bb_bind hf
  refine bb_invS (as := [.int x6, .int 0, .int 2]) is_X8_44 (by unfold bb_rr; decide) dX8_failed_39 rfl rfl (Nat.le_of_ble_eq_true rfl) (ok_X8_in h39) ?_
  refine bb_if_ne (tgt := 47) dX8_failed_42 (by decide) (fun c42 => ?_) (fun c42 => ?_)
  · rw [if_neg c42] at hf
    refine bb_aload_n dX8_failed_47 rfl ?_
    refine bb_iload_n dX8_failed_48 rfl ?_
    refine bb_iload_n dX8_failed_49 rfl ?_
    refine bb_iload dX8_failed_50 rfl ?_
    refine bb_iload dX8_failed_52 rfl ?_
    obtain ⟨r54, h54, hf⟩ := bb_bind hf
    obtain ⟨⟨v54, b54⟩, h54⟩ := bb_rcv_spec h54
    refine bb_invV (ci := 8) (as := [.int x2, .int x3, .int x4, .int x5]) iv_X8_162 (by unfold bb_rr; decide) rfl dX8_failed_54 rfl rfl b54 (Nat.le_of_ble_eq_true rfl) (ok_X8_barred h54) ?_
    refine bb_istore (L' := [.ref x0, .int x1, .int x2, .int x3, .int x4, .int x5, .int x6, .int r54.1, .null, .null, .null, .null, .null, .null]) dX8_failed_57 (by decide) rfl rfl ?_
    refine bb_iload dX8_failed_59 rfl ?_
    refine bb_if_eq (tgt := 67) dX8_failed_61 (by decide) (fun c61 => ?_) (fun c61 => ?_)
    · rw [if_pos c61] at hf
      refine bb_aload_n dX8_failed_67 rfl ?_
      refine bb_iload_n dX8_failed_68 rfl ?_
      obtain ⟨r69, h69, hf⟩ := bb_bind hf
      obtain ⟨⟨v69, b69⟩, h69⟩ := bb_rcv_spec h69
      refine bb_invV (ci := 8) (as := [.int x1]) iv_X8_59 (by unfold bb_rr; decide) rfl dX8_failed_69 rfl rfl b69 (Nat.le_of_ble_eq_true rfl) (ok_X8_seatOf h69) ?_
      refine bb_bipush (v := (-4)) dX8_failed_72 (by decide) ?_
      refine bb_icmp_ne (tgt := 80) dX8_failed_74 (by decide) (fun c74 => ?_) (fun c74 => ?_)
      · rw [if_neg c74] at hf
        refine bb_aload_n dX8_failed_80 rfl ?_
        obtain ⟨g81, h81, hf⟩ := bb_bind hf
        obtain ⟨⟨v81, b81⟩, h81⟩ := bb_rcv_spec h81
        refine bb_invV (ci := 8) (as := []) iv_X8_132 (by unfold bb_rr; decide) rfl dX8_failed_81 rfl rfl b81 (Nat.le_of_ble_eq_true rfl) (ok_X8_holds h81) ?_
        refine bb_bipush (v := 24) dX8_failed_84 (by decide) ?_
        refine bb_iload_n dX8_failed_86 rfl ?_
        refine bb_imul dX8_failed_87 ?_
        refine bb_iload dX8_failed_88 rfl ?_
        refine bb_iadd dX8_failed_90 ?_
        refine bb_istore (L' := [.ref x0, .int x1, .int x2, .int x3, .int x4, .int x5, .int x6, .int r54.1, .int ((24 * x2) + x4), .null, .null, .null, .null, .null]) dX8_failed_91 (by decide) rfl rfl ?_
        refine bb_iconst (v := 0) dX8_failed_93 (by decide) ?_
        refine bb_istore (L' := [.ref x0, .int x1, .int x2, .int x3, .int x4, .int x5, .int x6, .int r54.1, .int ((24 * x2) + x4), .int 0, .null, .null, .null, .null]) dX8_failed_94 (by decide) rfl rfl ?_
        refine bb_iconst (v := 0) dX8_failed_96 (by decide) ?_
        refine bb_istore (L' := [.ref x0, .int x1, .int x2, .int x3, .int x4, .int x5, .int x6, .int r54.1, .int ((24 * x2) + x4), .int 0, .int 0, .null, .null, .null]) dX8_failed_97 (by decide) rfl rfl ?_
        refine bb_fewer (L' := [.ref x0, .int x1, .null, .null, .null, .int x5, .int x6, .null, .int ((24 * x2) + x4), .int 0, .int 0, .null, .null, .null]) (And.intro rfl (And.intro rfl (And.intro rfl (And.intro rfl (And.intro rfl (And.intro rfl (And.intro rfl trivial))))))) ?_
        exact j_X8_failed_99 _ _ _ _ _ _ _ _ _ hf
      rw [if_pos c74] at hf
      refine bb_bipush (v := (-2)) dX8_failed_77 (by decide) ?_
      obtain rfl := Option.some.inj hf
      exact bb_iret rfl rfl dX8_failed_79
    rw [if_neg c61] at hf
    refine bb_iload dX8_failed_64 rfl ?_
    obtain rfl := Option.some.inj hf
    exact bb_iret rfl rfl dX8_failed_66
  rw [if_pos c42] at hf
  refine bb_fewer (L' := [.null, .null, .null, .null, .null, .null, .null, .null, .null, .null, .null, .null, .null, .null]) trivial ?_
  exact j_X8_failed_45 _ hf
theorem ok_X8_failed {x0 : Nat} {x1 : Int32} {x2 : Int32} {x3 : Int32} {x4 : Int32} {x5 : Int32} {x6 : Int32} {h : bb_H} {r : Int32 × bb_H} (hf : m_X8_failed x0 x1 x2 x3 x4 x5 x6 h = some r) : bb_Ok yX8_failed cX8_failed 14 (some .int) rm_X8_failed [.ref x0, .int x1, .int x2, .int x3, .int x4, .int x5, .int x6] h (some (.int r.1), r.2) :=
  bb_ok (L := [.ref x0, .int x1, .int x2, .int x3, .int x4, .int x5, .int x6, .null, .null, .null, .null, .null, .null, .null]) (by decide) (Nat.le_of_ble_eq_true rfl) rfl (bb_fewer (L' := [.ref x0, .int x1, .int x2, .int x3, .int x4, .int x5, .int x6, .null, .null, .null, .null, .null, .null, .null]) (And.intro rfl (And.intro rfl (And.intro rfl (And.intro rfl (And.intro rfl (And.intro rfl (And.intro rfl trivial))))))) (j_X8_failed_0 _ _ _ _ _ _ _ _ hf))
abbrev rm_X8_film : Room := { frames := 5, cells := 0, slots := 0, locals := 113 }
set_option maxRecDepth 100000 in
set_option maxHeartbeats 4000000 in
theorem j_X8_film_35 {r : Int32 × bb_H} : ∀ (h : bb_H), m_X8_film_35 h = some r → bb_J RX8 cX8_film 8 (some .int) rm_X8_film (some (.int r.1), r.2) 35 [.null, .null, .null, .null, .null, .null, .null, .null] [] h := by
  intro h hf
  unfold m_X8_film_35 at hf
  refine bb_iconst (v := (-1)) dX8_film_35 (by decide) ?_
  obtain rfl := Option.some.inj hf
  exact bb_iret rfl rfl dX8_film_36
set_option maxRecDepth 100000 in
set_option maxHeartbeats 4000000 in
theorem j_X8_film_64 {r : Int32 × bb_H} : ∀ (n : Nat) (x0 : Nat) (x1 : Int32) (x2 : Int32) (x3 : Int32) (x5 : Int32) (x7 : Int32) (h : bb_H), m_X8_film_64 n x0 x1 x2 x3 x5 x7 h = some r → bb_J RX8 cX8_film 8 (some .int) rm_X8_film (some (.int r.1), r.2) 64 [.ref x0, .int x1, .int x2, .int x3, .null, .int x5, .null, .int x7] [] h := by
  intro n
  induction n with
  | zero =>
    intro x0 x1 x2 x3 x5 x7 h hf
    exact absurd hf (fun z => by cases z)
  | succ n ih =>
    intro x0 x1 x2 x3 x5 x7 h hf
    unfold m_X8_film_64 at hf
    refine bb_iload dX8_film_64 rfl ?_
    refine bb_iload_n dX8_film_66 rfl ?_
    refine bb_icmp_ge (tgt := 104) dX8_film_67 (by decide) (fun c67 => ?_) (fun c67 => ?_)
    · rw [if_pos c67] at hf
      refine bb_aload_n dX8_film_104 rfl ?_
      obtain ⟨g105, h105, hf⟩ := bb_bind hf
      obtain ⟨⟨v105, b105⟩, h105⟩ := bb_rcv_spec h105
      refine bb_invV (ci := 8) (as := []) iv_X8_135 (by unfold bb_rr; decide) rfl dX8_film_105 rfl rfl b105 (Nat.le_of_ble_eq_true rfl) (ok_X8_lets h105) ?_
      refine bb_iload_n dX8_film_108 rfl ?_
      obtain rfl := Option.some.inj hf
      exact bb_iret rfl rfl dX8_film_109
    rw [if_neg c67] at hf
    refine bb_aload_n dX8_film_70 rfl ?_
    obtain ⟨g71, h71, hf⟩ := bb_bind hf
    obtain ⟨⟨v71, b71⟩, h71⟩ := bb_rcv_spec h71
    refine bb_invV (ci := 8) (as := []) iv_X8_122 (by unfold bb_rr; decide) rfl dX8_film_71 rfl rfl b71 (Nat.le_of_ble_eq_true rfl) (ok_X8_passes h71) ?_
    refine bb_aload_n dX8_film_74 rfl ?_
    obtain ⟨t75, h75, hf⟩ := bb_bind hf
    refine bb_getR fl_X8_22 dX8_film_75 h75 ?_
    refine bb_bipush (v := 24) dX8_film_78 (by decide) ?_
    refine bb_iload_n dX8_film_80 rfl ?_
    refine bb_imul dX8_film_81 ?_
    refine bb_iload dX8_film_82 rfl ?_
    refine bb_iadd dX8_film_84 ?_
    refine bb_iload dX8_film_85 rfl ?_
    refine bb_iadd dX8_film_87 ?_
    refine bb_aload_n dX8_film_88 rfl ?_
    obtain ⟨t89, h89, hf⟩ := bb_bind hf
    refine bb_getR fl_X8_7 dX8_film_89 h89 ?_
    refine bb_iconst (v := 4) dX8_film_92 (by decide) ?_
    refine bb_iload_n dX8_film_93 rfl ?_
    refine bb_iadd dX8_film_94 ?_
    obtain ⟨t95, h95, hf⟩ := bb_bind hf
    refine bb_iaload dX8_film_95 h95 ?_
    refine bb_i2l dX8_film_96 ?_
    obtain ⟨g97, h97, hf⟩ := bb_bind hf
    refine bb_lastore dX8_film_97 h97 ?_
    refine bb_iinc (v := x7 + 1) (L' := [.ref x0, .int x1, .int x2, .int x3, .null, .int x5, .null, .int (x7 + 1)]) dX8_film_98 rfl rfl (by decide) rfl rfl ?_
    refine bb_goto (tgt := 64) dX8_film_101 (by decide) ?_
    refine bb_fewer (L' := [.ref x0, .int x1, .int x2, .int x3, .null, .int x5, .null, .int (x7 + 1)]) (And.intro rfl (And.intro rfl (And.intro rfl (And.intro rfl (And.intro rfl (And.intro rfl trivial)))))) ?_
    exact ih _ _ _ _ _ _ _ hf
set_option maxRecDepth 100000 in
set_option maxHeartbeats 4000000 in
theorem j_X8_film_0 {r : Int32 × bb_H} : ∀ (x0 : Nat) (x1 : Int32) (x2 : Int32) (x3 : Int32) (x4 : Int32) (x5 : Int32) (h : bb_H), m_X8_film x0 x1 x2 x3 x4 x5 h = some r → bb_J RX8 cX8_film 8 (some .int) rm_X8_film (some (.int r.1), r.2) 0 [.ref x0, .int x1, .int x2, .int x3, .int x4, .int x5, .null, .null] [] h := by
  intro x0 x1 x2 x3 x4 x5 h hf
  unfold m_X8_film at hf
  refine bb_aload_n dX8_film_0 rfl ?_
  refine bb_iload_n dX8_film_1 rfl ?_
  obtain ⟨r2, h2, hf⟩ := bb_bind hf
  obtain ⟨⟨v2, b2⟩, h2⟩ := bb_rcv_spec h2
  refine bb_invV (ci := 8) (as := [.int x1]) iv_X8_52 (by unfold bb_rr; decide) rfl dX8_film_2 rfl rfl b2 (Nat.le_of_ble_eq_true rfl) (ok_X8_isMan h2) ?_
  refine bb_if_eq (tgt := 35) dX8_film_5 (by decide) (fun c5 => ?_) (fun c5 => ?_)
  · rw [if_pos c5] at hf
    refine bb_fewer (L' := [.null, .null, .null, .null, .null, .null, .null, .null]) trivial ?_
    exact j_X8_film_35 _ hf
  rw [if_neg c5] at hf
  refine bb_iload_n dX8_film_8 rfl ?_
  refine bb_iconst (v := 1) dX8_film_9 (by decide) ?_
  refine bb_bipush (v := 24) dX8_film_10 (by decide) ?_
  obtain ⟨r12, h12, hf⟩ := bb_bind hf
  refine bb_invS (as := [.int x2, .int 1, .int 24]) is_X8_44 (by unfold bb_rr; decide) dX8_film_12 rfl rfl (Nat.le_of_ble_eq_true rfl) (ok_X8_in h12) ?_
  refine bb_if_eq (tgt := 35) dX8_film_15 (by decide) (fun c15 => ?_) (fun c15 => ?_)
  · rw [if_pos c15] at hf
    refine bb_fewer (L' := [.null, .null, .null, .null, .null, .null, .null, .null]) trivial ?_
    exact j_X8_film_35 _ hf
  rw [if_neg c15] at hf
  refine bb_iload_n dX8_film_18 rfl ?_
  obtain ⟨r19, h19, hf⟩ := bb_bind hf
  refine bb_invS (as := [.int x3]) is_X8_159 (by unfold bb_rr; decide) dX8_film_19 rfl rfl (Nat.le_of_ble_eq_true rfl) (ok_X8_isSheet h19) ?_
  refine bb_if_eq (tgt := 35) dX8_film_22 (by decide) (fun c22 => ?_) (fun c22 => ?_)
  · rw [if_pos c22] at hf
    refine bb_fewer (L' := [.null, .null, .null, .null, .null, .null, .null, .null]) trivial ?_
    exact j_X8_film_35 _ hf
  rw [if_neg c22] at hf
  refine bb_iload dX8_film_25 rfl ?_
  refine bb_iconst (v := 0) dX8_film_27 (by decide) ?_
  refine bb_iconst (v := 3) dX8_film_28 (by decide) ?_
  obtain ⟨r29, h29, hf⟩ := bb_bind hf
  refine bb_invS (as := [.int x4, .int 0, .int 3]) is_X8_44 (by unfold bb_rr; decide) dX8_film_29 rfl rfl (Nat.le_of_ble_eq_true rfl) (ok_X8_in h29) ?_
  refine bb_if_ne (tgt := 37) dX8_film_32 (by decide) (fun c32 => ?_) (fun c32 => ?_)
  · rw [if_neg c32] at hf
    refine bb_aload_n dX8_film_37 rfl ?_
    refine bb_iload_n dX8_film_38 rfl ?_
    refine bb_iload dX8_film_39 rfl ?_
    refine bb_iload dX8_film_41 rfl ?_
    refine bb_iload_n dX8_film_43 rfl ?_
    obtain ⟨r44, h44, hf⟩ := bb_bind hf
    obtain ⟨⟨v44, b44⟩, h44⟩ := bb_rcv_spec h44
    refine bb_invV (ci := 8) (as := [.int x3, .int x4, .int x5, .int x2]) iv_X8_162 (by unfold bb_rr; decide) rfl dX8_film_44 rfl rfl b44 (Nat.le_of_ble_eq_true rfl) (ok_X8_barred h44) ?_
    refine bb_istore (L' := [.ref x0, .int x1, .int x2, .int x3, .int x4, .int x5, .int r44.1, .null]) dX8_film_47 (by decide) rfl rfl ?_
    refine bb_iload dX8_film_49 rfl ?_
    refine bb_if_eq (tgt := 57) dX8_film_51 (by decide) (fun c51 => ?_) (fun c51 => ?_)
    · rw [if_pos c51] at hf
      refine bb_aload_n dX8_film_57 rfl ?_
      obtain ⟨g58, h58, hf⟩ := bb_bind hf
      obtain ⟨⟨v58, b58⟩, h58⟩ := bb_rcv_spec h58
      refine bb_invV (ci := 8) (as := []) iv_X8_132 (by unfold bb_rr; decide) rfl dX8_film_58 rfl rfl b58 (Nat.le_of_ble_eq_true rfl) (ok_X8_holds h58) ?_
      refine bb_iconst (v := 0) dX8_film_61 (by decide) ?_
      refine bb_istore (L' := [.ref x0, .int x1, .int x2, .int x3, .int x4, .int x5, .int r44.1, .int 0]) dX8_film_62 (by decide) rfl rfl ?_
      refine bb_fewer (L' := [.ref x0, .int x1, .int x2, .int x3, .null, .int x5, .null, .int 0]) (And.intro rfl (And.intro rfl (And.intro rfl (And.intro rfl (And.intro rfl (And.intro rfl trivial)))))) ?_
      exact j_X8_film_64 _ _ _ _ _ _ _ _ hf
    rw [if_neg c51] at hf
    refine bb_iload dX8_film_54 rfl ?_
    obtain rfl := Option.some.inj hf
    exact bb_iret rfl rfl dX8_film_56
  rw [if_pos c32] at hf
  refine bb_fewer (L' := [.null, .null, .null, .null, .null, .null, .null, .null]) trivial ?_
  exact j_X8_film_35 _ hf
theorem ok_X8_film {x0 : Nat} {x1 : Int32} {x2 : Int32} {x3 : Int32} {x4 : Int32} {x5 : Int32} {h : bb_H} {r : Int32 × bb_H} (hf : m_X8_film x0 x1 x2 x3 x4 x5 h = some r) : bb_Ok yX8_film cX8_film 8 (some .int) rm_X8_film [.ref x0, .int x1, .int x2, .int x3, .int x4, .int x5] h (some (.int r.1), r.2) :=
  bb_ok (L := [.ref x0, .int x1, .int x2, .int x3, .int x4, .int x5, .null, .null]) (by decide) (Nat.le_of_ble_eq_true rfl) rfl (bb_fewer (L' := [.ref x0, .int x1, .int x2, .int x3, .int x4, .int x5, .null, .null]) (And.intro rfl (And.intro rfl (And.intro rfl (And.intro rfl (And.intro rfl (And.intro rfl trivial)))))) (j_X8_film_0 _ _ _ _ _ _ _ hf))
abbrev rm_X8_sheet : Room := { frames := 2, cells := 0, slots := 0, locals := 42 }
set_option maxRecDepth 100000 in
set_option maxHeartbeats 4000000 in
theorem j_X8_sheet_22 {r : Int32 × bb_H} : ∀ (h : bb_H), m_X8_sheet_22 h = some r → bb_J RX8 cX8_sheet 5 (some .int) rm_X8_sheet (some (.int r.1), r.2) 22 [.null, .null, .null, .null, .null] [] h := by
  intro h hf
  unfold m_X8_sheet_22 at hf
  refine bb_iconst (v := (-1)) dX8_sheet_22 (by decide) ?_
  obtain rfl := Option.some.inj hf
  exact bb_iret rfl rfl dX8_sheet_23
set_option maxRecDepth 100000 in
set_option maxHeartbeats 4000000 in
theorem j_X8_sheet_48 {r : Int32 × bb_H} : ∀ (n : Nat) (x0 : Nat) (x1 : Int32) (x3 : Int32) (x4 : Int32) (h : bb_H), m_X8_sheet_48 n x0 x1 x3 x4 h = some r → bb_J RX8 cX8_sheet 5 (some .int) rm_X8_sheet (some (.int r.1), r.2) 48 [.ref x0, .int x1, .null, .int x3, .int x4] [] h := by
  intro n
  induction n with
  | zero =>
    intro x0 x1 x3 x4 h hf
    exact absurd hf (fun z => by cases z)
  | succ n ih =>
    intro x0 x1 x3 x4 h hf
    unfold m_X8_sheet_48 at hf
    refine bb_iload dX8_sheet_48 rfl ?_
    refine bb_bipush (v := 24) dX8_sheet_50 (by decide) ?_
    refine bb_icmp_ge (tgt := 74) dX8_sheet_52 (by decide) (fun c52 => ?_) (fun c52 => ?_)
    · rw [if_pos c52] at hf
      refine bb_iload_n dX8_sheet_74 rfl ?_
      obtain rfl := Option.some.inj hf
      exact bb_iret rfl rfl dX8_sheet_75
    rw [if_neg c52] at hf
    refine bb_aload_n dX8_sheet_55 rfl ?_
    obtain ⟨t56, h56, hf⟩ := bb_bind hf
    refine bb_getR fl_X8_22 dX8_sheet_56 h56 ?_
    refine bb_bipush (v := 24) dX8_sheet_59 (by decide) ?_
    refine bb_iload_n dX8_sheet_61 rfl ?_
    refine bb_imul dX8_sheet_62 ?_
    refine bb_iload dX8_sheet_63 rfl ?_
    refine bb_iadd dX8_sheet_65 ?_
    refine bb_lconst (v := 0) dX8_sheet_66 (by decide) ?_
    obtain ⟨g67, h67, hf⟩ := bb_bind hf
    refine bb_lastore dX8_sheet_67 h67 ?_
    refine bb_iinc (v := x4 + 1) (L' := [.ref x0, .int x1, .null, .int x3, .int (x4 + 1)]) dX8_sheet_68 rfl rfl (by decide) rfl rfl ?_
    refine bb_goto (tgt := 48) dX8_sheet_71 (by decide) ?_
    refine bb_fewer (L' := [.ref x0, .int x1, .null, .int x3, .int (x4 + 1)]) (And.intro rfl (And.intro rfl (And.intro rfl (And.intro rfl trivial)))) ?_
    exact ih _ _ _ _ _ hf
set_option maxRecDepth 100000 in
set_option maxHeartbeats 4000000 in
theorem j_X8_sheet_0 {r : Int32 × bb_H} : ∀ (x0 : Nat) (x1 : Int32) (x2 : Int32) (x3 : Int32) (h : bb_H), m_X8_sheet x0 x1 x2 x3 h = some r → bb_J RX8 cX8_sheet 5 (some .int) rm_X8_sheet (some (.int r.1), r.2) 0 [.ref x0, .int x1, .int x2, .int x3, .null] [] h := by
  intro x0 x1 x2 x3 h hf
  unfold m_X8_sheet at hf
  refine bb_iload_n dX8_sheet_0 rfl ?_
  obtain ⟨r1, h1, hf⟩ := bb_bind hf
  refine bb_invS (as := [.int x1]) is_X8_159 (by unfold bb_rr; decide) dX8_sheet_1 rfl rfl (Nat.le_of_ble_eq_true rfl) (ok_X8_isSheet h1) ?_
  refine bb_if_eq (tgt := 22) dX8_sheet_4 (by decide) (fun c4 => ?_) (fun c4 => ?_)
  · rw [if_pos c4] at hf
    refine bb_fewer (L' := [.null, .null, .null, .null, .null]) trivial ?_
    exact j_X8_sheet_22 _ hf
  rw [if_neg c4] at hf
  refine bb_iload_n dX8_sheet_7 rfl ?_
  refine bb_iconst (v := 0) dX8_sheet_8 (by decide) ?_
  refine bb_iconst (v := 3) dX8_sheet_9 (by decide) ?_
  obtain ⟨r10, h10, hf⟩ := bb_bind hf
  refine bb_invS (as := [.int x2, .int 0, .int 3]) is_X8_44 (by unfold bb_rr; decide) dX8_sheet_10 rfl rfl (Nat.le_of_ble_eq_true rfl) (ok_X8_in h10) ?_
  refine bb_if_eq (tgt := 22) dX8_sheet_13 (by decide) (fun c13 => ?_) (fun c13 => ?_)
  · rw [if_pos c13] at hf
    refine bb_fewer (L' := [.null, .null, .null, .null, .null]) trivial ?_
    exact j_X8_sheet_22 _ hf
  rw [if_neg c13] at hf
  refine bb_iload_n dX8_sheet_16 rfl ?_
  refine bb_bipush (v := 24) dX8_sheet_17 (by decide) ?_
  refine bb_icmp_le (tgt := 24) dX8_sheet_19 (by decide) (fun c19 => ?_) (fun c19 => ?_)
  · rw [if_pos c19] at hf
    refine bb_iload_n dX8_sheet_24 rfl ?_
    refine bb_if_ge (tgt := 31) dX8_sheet_25 (by decide) (fun c25 => ?_) (fun c25 => ?_)
    · rw [if_pos c25] at hf
      refine bb_aload_n dX8_sheet_31 rfl ?_
      obtain ⟨t32, h32, hf⟩ := bb_bind hf
      refine bb_getR fl_X8_29 dX8_sheet_32 h32 ?_
      refine bb_iload_n dX8_sheet_35 rfl ?_
      refine bb_iload_n dX8_sheet_36 rfl ?_
      obtain ⟨g37, h37, hf⟩ := bb_bind hf
      refine bb_iastore dX8_sheet_37 h37 ?_
      refine bb_aload_n dX8_sheet_38 rfl ?_
      obtain ⟨t39, h39, hf⟩ := bb_bind hf
      refine bb_getR fl_X8_32 dX8_sheet_39 h39 ?_
      refine bb_iload_n dX8_sheet_42 rfl ?_
      refine bb_iload_n dX8_sheet_43 rfl ?_
      obtain ⟨g44, h44, hf⟩ := bb_bind hf
      refine bb_iastore dX8_sheet_44 h44 ?_
      refine bb_iconst (v := 0) dX8_sheet_45 (by decide) ?_
      refine bb_istore (L' := [.ref x0, .int x1, .int x2, .int x3, .int 0]) dX8_sheet_46 (by decide) rfl rfl ?_
      refine bb_fewer (L' := [.ref x0, .int x1, .null, .int x3, .int 0]) (And.intro rfl (And.intro rfl (And.intro rfl (And.intro rfl trivial)))) ?_
      exact j_X8_sheet_48 _ _ _ _ _ _ hf
    rw [if_neg c25] at hf
    refine bb_bipush (v := (-14)) dX8_sheet_28 (by decide) ?_
    obtain rfl := Option.some.inj hf
    exact bb_iret rfl rfl dX8_sheet_30
  rw [if_neg c19] at hf
  refine bb_fewer (L' := [.null, .null, .null, .null, .null]) trivial ?_
  exact j_X8_sheet_22 _ hf
theorem ok_X8_sheet {x0 : Nat} {x1 : Int32} {x2 : Int32} {x3 : Int32} {h : bb_H} {r : Int32 × bb_H} (hf : m_X8_sheet x0 x1 x2 x3 h = some r) : bb_Ok yX8_sheet cX8_sheet 5 (some .int) rm_X8_sheet [.ref x0, .int x1, .int x2, .int x3] h (some (.int r.1), r.2) :=
  bb_ok (L := [.ref x0, .int x1, .int x2, .int x3, .null]) (by decide) (Nat.le_of_ble_eq_true rfl) rfl (bb_fewer (L' := [.ref x0, .int x1, .int x2, .int x3, .null]) (And.intro rfl (And.intro rfl (And.intro rfl (And.intro rfl trivial)))) (j_X8_sheet_0 _ _ _ _ _ hf))
abbrev rm_X8_drop : Room := { frames := 2, cells := 0, slots := 0, locals := 42 }
set_option maxRecDepth 100000 in
set_option maxHeartbeats 4000000 in
theorem j_X8_drop_0 {r : Int32 × bb_H} : ∀ (x0 : Nat) (x1 : Int32) (h : bb_H), m_X8_drop x0 x1 h = some r → bb_J RX8 cX8_drop 3 (some .int) rm_X8_drop (some (.int r.1), r.2) 0 [.ref x0, .int x1, .null] [] h := by
  intro x0 x1 h hf
  unfold m_X8_drop at hf
  refine bb_iload_n dX8_drop_0 rfl ?_
  obtain ⟨r1, h1, hf⟩ := bb_bind hf
  refine bb_invS (as := [.int x1]) is_X8_159 (by unfold bb_rr; decide) dX8_drop_1 rfl rfl (Nat.le_of_ble_eq_true rfl) (ok_X8_isSheet h1) ?_
  refine bb_if_ne (tgt := 9) dX8_drop_4 (by decide) (fun c4 => ?_) (fun c4 => ?_)
  · rw [if_neg c4] at hf
    refine bb_aload_n dX8_drop_9 rfl ?_
    obtain ⟨t10, h10, hf⟩ := bb_bind hf
    refine bb_getR fl_X8_29 dX8_drop_10 h10 ?_
    refine bb_iload_n dX8_drop_13 rfl ?_
    obtain ⟨t14, h14, hf⟩ := bb_bind hf
    refine bb_iaload dX8_drop_14 h14 ?_
    refine bb_if_ge (tgt := 21) dX8_drop_15 (by decide) (fun c15 => ?_) (fun c15 => ?_)
    · rw [if_pos c15] at hf
      refine bb_aload_n dX8_drop_21 rfl ?_
      obtain ⟨t22, h22, hf⟩ := bb_bind hf
      refine bb_getR fl_X8_29 dX8_drop_22 h22 ?_
      refine bb_iload_n dX8_drop_25 rfl ?_
      obtain ⟨t26, h26, hf⟩ := bb_bind hf
      refine bb_iaload dX8_drop_26 h26 ?_
      refine bb_istore_n (L' := [.ref x0, .int x1, .int t26]) dX8_drop_27 (by decide) rfl rfl ?_
      refine bb_aload_n dX8_drop_28 rfl ?_
      obtain ⟨t29, h29, hf⟩ := bb_bind hf
      refine bb_getR fl_X8_29 dX8_drop_29 h29 ?_
      refine bb_iload_n dX8_drop_32 rfl ?_
      refine bb_iconst (v := (-1)) dX8_drop_33 (by decide) ?_
      obtain ⟨g34, h34, hf⟩ := bb_bind hf
      refine bb_iastore dX8_drop_34 h34 ?_
      refine bb_iload_n dX8_drop_35 rfl ?_
      obtain rfl := Option.some.inj hf
      exact bb_iret rfl rfl dX8_drop_36
    rw [if_neg c15] at hf
    refine bb_bipush (v := (-11)) dX8_drop_18 (by decide) ?_
    obtain rfl := Option.some.inj hf
    exact bb_iret rfl rfl dX8_drop_20
  rw [if_pos c4] at hf
  refine bb_iconst (v := (-1)) dX8_drop_7 (by decide) ?_
  obtain rfl := Option.some.inj hf
  exact bb_iret rfl rfl dX8_drop_8
theorem ok_X8_drop {x0 : Nat} {x1 : Int32} {h : bb_H} {r : Int32 × bb_H} (hf : m_X8_drop x0 x1 h = some r) : bb_Ok yX8_drop cX8_drop 3 (some .int) rm_X8_drop [.ref x0, .int x1] h (some (.int r.1), r.2) :=
  bb_ok (L := [.ref x0, .int x1, .null]) (by decide) (Nat.le_of_ble_eq_true rfl) rfl (bb_fewer (L' := [.ref x0, .int x1, .null]) (And.intro rfl (And.intro rfl trivial)) (j_X8_drop_0 _ _ _ hf))
abbrev rm_X8_item : Room := { frames := 2, cells := 0, slots := 0, locals := 42 }
set_option maxRecDepth 100000 in
set_option maxHeartbeats 4000000 in
theorem j_X8_item_16 {r : Int32 × bb_H} : ∀ (h : bb_H), m_X8_item_16 h = some r → bb_J RX8 cX8_item 7 (some .int) rm_X8_item (some (.int r.1), r.2) 16 [.null, .null, .null, .null, .null, .null, .null] [] h := by
  intro h hf
  unfold m_X8_item_16 at hf
  refine bb_iconst (v := (-1)) dX8_item_16 (by decide) ?_
  obtain rfl := Option.some.inj hf
  exact bb_iret rfl rfl dX8_item_17
set_option maxRecDepth 100000 in
set_option maxHeartbeats 4000000 in
theorem j_X8_item_0 {r : Int32 × bb_H} : ∀ (x0 : Nat) (x1 : Int32) (x2 : Int32) (x3 : Int32) (x4 : Int64) (h : bb_H), m_X8_item x0 x1 x2 x3 x4 h = some r → bb_J RX8 cX8_item 7 (some .int) rm_X8_item (some (.int r.1), r.2) 0 [.ref x0, .int x1, .int x2, .int x3, .long x4, .null, .null] [] h := by
  intro x0 x1 x2 x3 x4 h hf
  unfold m_X8_item at hf
  refine bb_iload_n dX8_item_0 rfl ?_
  obtain ⟨r1, h1, hf⟩ := bb_bind hf
  refine bb_invS (as := [.int x1]) is_X8_159 (by unfold bb_rr; decide) dX8_item_1 rfl rfl (Nat.le_of_ble_eq_true rfl) (ok_X8_isSheet h1) ?_
  refine bb_if_eq (tgt := 16) dX8_item_4 (by decide) (fun c4 => ?_) (fun c4 => ?_)
  · rw [if_pos c4] at hf
    refine bb_fewer (L' := [.null, .null, .null, .null, .null, .null, .null]) trivial ?_
    exact j_X8_item_16 _ hf
  rw [if_neg c4] at hf
  refine bb_iload_n dX8_item_7 rfl ?_
  refine bb_iconst (v := 0) dX8_item_8 (by decide) ?_
  refine bb_iconst (v := 3) dX8_item_9 (by decide) ?_
  obtain ⟨r10, h10, hf⟩ := bb_bind hf
  refine bb_invS (as := [.int x2, .int 0, .int 3]) is_X8_44 (by unfold bb_rr; decide) dX8_item_10 rfl rfl (Nat.le_of_ble_eq_true rfl) (ok_X8_in h10) ?_
  refine bb_if_ne (tgt := 18) dX8_item_13 (by decide) (fun c13 => ?_) (fun c13 => ?_)
  · rw [if_neg c13] at hf
    refine bb_aload_n dX8_item_18 rfl ?_
    refine bb_iload_n dX8_item_19 rfl ?_
    refine bb_iload_n dX8_item_20 rfl ?_
    refine bb_iload_n dX8_item_21 rfl ?_
    refine bb_iconst (v := 1) dX8_item_22 (by decide) ?_
    obtain ⟨r23, h23, hf⟩ := bb_bind hf
    obtain ⟨⟨v23, b23⟩, h23⟩ := bb_rcv_spec h23
    refine bb_invV (ci := 8) (as := [.int x1, .int x2, .int x3, .int 1]) iv_X8_162 (by unfold bb_rr; decide) rfl dX8_item_23 rfl rfl b23 (Nat.le_of_ble_eq_true rfl) (ok_X8_barred h23) ?_
    refine bb_istore (L' := [.ref x0, .int x1, .int x2, .int x3, .long x4, .null, .int r23.1]) dX8_item_26 (by decide) rfl rfl ?_
    refine bb_iload dX8_item_28 rfl ?_
    refine bb_if_eq (tgt := 36) dX8_item_30 (by decide) (fun c30 => ?_) (fun c30 => ?_)
    · rw [if_pos c30] at hf
      refine bb_aload_n dX8_item_36 rfl ?_
      obtain ⟨t37, h37, hf⟩ := bb_bind hf
      refine bb_getR fl_X8_22 dX8_item_37 h37 ?_
      refine bb_bipush (v := 24) dX8_item_40 (by decide) ?_
      refine bb_iload_n dX8_item_42 rfl ?_
      refine bb_imul dX8_item_43 ?_
      refine bb_iload_n dX8_item_44 rfl ?_
      refine bb_iadd dX8_item_45 ?_
      refine bb_iload_n dX8_item_46 rfl ?_
      refine bb_lload dX8_item_47 rfl ?_
      obtain ⟨r49, h49, hf⟩ := bb_bind hf
      refine bb_invS (as := [.int x2, .long x4]) is_X8_169 (by unfold bb_rr; decide) dX8_item_49 rfl rfl (Nat.le_of_ble_eq_true rfl) (ok_X8_cut h49) ?_
      obtain ⟨g52, h52, hf⟩ := bb_bind hf
      refine bb_lastore dX8_item_52 h52 ?_
      refine bb_iconst (v := 1) dX8_item_53 (by decide) ?_
      obtain rfl := Option.some.inj hf
      exact bb_iret rfl rfl dX8_item_54
    rw [if_neg c30] at hf
    refine bb_iload dX8_item_33 rfl ?_
    obtain rfl := Option.some.inj hf
    exact bb_iret rfl rfl dX8_item_35
  rw [if_pos c13] at hf
  refine bb_fewer (L' := [.null, .null, .null, .null, .null, .null, .null]) trivial ?_
  exact j_X8_item_16 _ hf
theorem ok_X8_item {x0 : Nat} {x1 : Int32} {x2 : Int32} {x3 : Int32} {x4 : Int64} {h : bb_H} {r : Int32 × bb_H} (hf : m_X8_item x0 x1 x2 x3 x4 h = some r) : bb_Ok yX8_item cX8_item 7 (some .int) rm_X8_item [.ref x0, .int x1, .int x2, .int x3, .long x4] h (some (.int r.1), r.2) :=
  bb_ok (L := [.ref x0, .int x1, .int x2, .int x3, .long x4, .null, .null]) (by decide) (Nat.le_of_ble_eq_true rfl) rfl (bb_fewer (L' := [.ref x0, .int x1, .int x2, .int x3, .long x4, .null, .null]) (And.intro rfl (And.intro rfl (And.intro rfl (And.intro rfl (And.intro rfl trivial))))) (j_X8_item_0 _ _ _ _ _ _ hf))
abbrev rm_X8_copy : Room := { frames := 2, cells := 0, slots := 0, locals := 42 }
set_option maxRecDepth 100000 in
set_option maxHeartbeats 4000000 in
theorem j_X8_copy_14 {r : Int32 × bb_H} : ∀ (h : bb_H), m_X8_copy_14 h = some r → bb_J RX8 cX8_copy 9 (some .int) rm_X8_copy (some (.int r.1), r.2) 14 [.null, .null, .null, .null, .null, .null, .null, .null, .null] [] h := by
  intro h hf
  unfold m_X8_copy_14 at hf
  refine bb_iconst (v := (-1)) dX8_copy_14 (by decide) ?_
  obtain rfl := Option.some.inj hf
  exact bb_iret rfl rfl dX8_copy_15
set_option maxRecDepth 100000 in
set_option maxHeartbeats 4000000 in
theorem j_X8_copy_34 {r : Int32 × bb_H} : ∀ (h : bb_H), m_X8_copy_34 h = some r → bb_J RX8 cX8_copy 9 (some .int) rm_X8_copy (some (.int r.1), r.2) 34 [.null, .null, .null, .null, .null, .null, .null, .null, .null] [] h := by
  intro h hf
  unfold m_X8_copy_34 at hf
  refine bb_bipush (v := (-11)) dX8_copy_34 (by decide) ?_
  obtain rfl := Option.some.inj hf
  exact bb_iret rfl rfl dX8_copy_36
set_option maxRecDepth 100000 in
set_option maxHeartbeats 4000000 in
theorem j_X8_copy_92 {r : Int32 × bb_H} : ∀ (z0 : Int32) (h : bb_H), m_X8_copy_92 z0 h = some r → bb_J RX8 cX8_copy 9 (some .int) rm_X8_copy (some (.int r.1), r.2) 92 [.null, .null, .null, .null, .null, .null, .null, .null, .null] [.int z0] h := by
  intro z0 h hf
  unfold m_X8_copy_92 at hf
  obtain rfl := Option.some.inj hf
  exact bb_iret rfl rfl dX8_copy_92
set_option maxRecDepth 100000 in
set_option maxHeartbeats 4000000 in
theorem j_X8_copy_80 {r : Int32 × bb_H} : ∀ (x6 : Int32) (x7 : Int32) (h : bb_H), m_X8_copy_80 x6 x7 h = some r → bb_J RX8 cX8_copy 9 (some .int) rm_X8_copy (some (.int r.1), r.2) 80 [.null, .null, .null, .null, .null, .null, .int x6, .int x7, .null] [] h := by
  intro x6 x7 h hf
  unfold m_X8_copy_80 at hf
  refine bb_iload dX8_copy_80 rfl ?_
  refine bb_if_eq (tgt := 90) dX8_copy_82 (by decide) (fun c82 => ?_) (fun c82 => ?_)
  · rw [if_pos c82] at hf
    refine bb_iload dX8_copy_90 rfl ?_
    refine bb_fewer (L' := [.null, .null, .null, .null, .null, .null, .null, .null, .null]) trivial ?_
    exact j_X8_copy_92 _ _ hf
  rw [if_neg c82] at hf
  refine bb_iload dX8_copy_85 rfl ?_
  refine bb_goto (tgt := 92) dX8_copy_87 (by decide) ?_
  refine bb_fewer (L' := [.null, .null, .null, .null, .null, .null, .null, .null, .null]) trivial ?_
  exact j_X8_copy_92 _ _ hf
set_option maxRecDepth 100000 in
set_option maxHeartbeats 4000000 in
theorem j_X8_copy_133 {r : Int32 × bb_H} : ∀ (n : Nat) (x0 : Nat) (x3 : Int32) (x4 : Int32) (x5 : Int32) (x8 : Int32) (h : bb_H), m_X8_copy_133 n x0 x3 x4 x5 x8 h = some r → bb_J RX8 cX8_copy 9 (some .int) rm_X8_copy (some (.int r.1), r.2) 133 [.ref x0, .null, .null, .int x3, .int x4, .int x5, .null, .null, .int x8] [] h := by
  intro n
  induction n with
  | zero =>
    intro x0 x3 x4 x5 x8 h hf
    exact absurd hf (fun z => by cases z)
  | succ n ih =>
    intro x0 x3 x4 x5 x8 h hf
    unfold m_X8_copy_133 at hf
    refine bb_iload dX8_copy_133 rfl ?_
    refine bb_iload dX8_copy_135 rfl ?_
    refine bb_icmp_ge (tgt := 168) dX8_copy_137 (by decide) (fun c137 => ?_) (fun c137 => ?_)
    · rw [if_pos c137] at hf
      refine bb_iload dX8_copy_168 rfl ?_
      obtain rfl := Option.some.inj hf
      exact bb_iret rfl rfl dX8_copy_170
    rw [if_neg c137] at hf
    refine bb_aload_n dX8_copy_140 rfl ?_
    obtain ⟨t141, h141, hf⟩ := bb_bind hf
    refine bb_getR fl_X8_22 dX8_copy_141 h141 ?_
    refine bb_bipush (v := 24) dX8_copy_144 (by decide) ?_
    refine bb_iload_n dX8_copy_146 rfl ?_
    refine bb_imul dX8_copy_147 ?_
    refine bb_iload dX8_copy_148 rfl ?_
    refine bb_iadd dX8_copy_150 ?_
    refine bb_iload dX8_copy_151 rfl ?_
    refine bb_iadd dX8_copy_153 ?_
    refine bb_aload_n dX8_copy_154 rfl ?_
    obtain ⟨t155, h155, hf⟩ := bb_bind hf
    refine bb_getR fl_X8_26 dX8_copy_155 h155 ?_
    refine bb_iload dX8_copy_158 rfl ?_
    obtain ⟨t160, h160, hf⟩ := bb_bind hf
    refine bb_laload dX8_copy_160 h160 ?_
    obtain ⟨g161, h161, hf⟩ := bb_bind hf
    refine bb_lastore dX8_copy_161 h161 ?_
    refine bb_iinc (v := x8 + 1) (L' := [.ref x0, .null, .null, .int x3, .int x4, .int x5, .null, .null, .int (x8 + 1)]) dX8_copy_162 rfl rfl (by decide) rfl rfl ?_
    refine bb_goto (tgt := 133) dX8_copy_165 (by decide) ?_
    refine bb_fewer (L' := [.ref x0, .null, .null, .int x3, .int x4, .int x5, .null, .null, .int (x8 + 1)]) (And.intro rfl (And.intro rfl (And.intro rfl (And.intro rfl (And.intro rfl trivial))))) ?_
    exact ih _ _ _ _ _ _ hf
set_option maxRecDepth 100000 in
set_option maxHeartbeats 4000000 in
theorem j_X8_copy_96 {r : Int32 × bb_H} : ∀ (n : Nat) (x0 : Nat) (x1 : Int32) (x2 : Int32) (x3 : Int32) (x4 : Int32) (x5 : Int32) (x8 : Int32) (h : bb_H), m_X8_copy_96 n x0 x1 x2 x3 x4 x5 x8 h = some r → bb_J RX8 cX8_copy 9 (some .int) rm_X8_copy (some (.int r.1), r.2) 96 [.ref x0, .int x1, .int x2, .int x3, .int x4, .int x5, .null, .null, .int x8] [] h := by
  intro n
  induction n with
  | zero =>
    intro x0 x1 x2 x3 x4 x5 x8 h hf
    exact absurd hf (fun z => by cases z)
  | succ n ih =>
    intro x0 x1 x2 x3 x4 x5 x8 h hf
    unfold m_X8_copy_96 at hf
    refine bb_iload dX8_copy_96 rfl ?_
    refine bb_iload dX8_copy_98 rfl ?_
    refine bb_icmp_ge (tgt := 130) dX8_copy_100 (by decide) (fun c100 => ?_) (fun c100 => ?_)
    · rw [if_pos c100] at hf
      refine bb_iconst (v := 0) dX8_copy_130 (by decide) ?_
      refine bb_istore (L' := [.ref x0, .int x1, .int x2, .int x3, .int x4, .int x5, .null, .null, .int 0]) dX8_copy_131 (by decide) rfl rfl ?_
      refine bb_fewer (L' := [.ref x0, .null, .null, .int x3, .int x4, .int x5, .null, .null, .int 0]) (And.intro rfl (And.intro rfl (And.intro rfl (And.intro rfl (And.intro rfl trivial))))) ?_
      exact j_X8_copy_133 _ _ _ _ _ _ _ hf
    rw [if_neg c100] at hf
    refine bb_aload_n dX8_copy_103 rfl ?_
    obtain ⟨t104, h104, hf⟩ := bb_bind hf
    refine bb_getR fl_X8_26 dX8_copy_104 h104 ?_
    refine bb_iload dX8_copy_107 rfl ?_
    refine bb_aload_n dX8_copy_109 rfl ?_
    obtain ⟨t110, h110, hf⟩ := bb_bind hf
    refine bb_getR fl_X8_22 dX8_copy_110 h110 ?_
    refine bb_bipush (v := 24) dX8_copy_113 (by decide) ?_
    refine bb_iload_n dX8_copy_115 rfl ?_
    refine bb_imul dX8_copy_116 ?_
    refine bb_iload_n dX8_copy_117 rfl ?_
    refine bb_iadd dX8_copy_118 ?_
    refine bb_iload dX8_copy_119 rfl ?_
    refine bb_iadd dX8_copy_121 ?_
    obtain ⟨t122, h122, hf⟩ := bb_bind hf
    refine bb_laload dX8_copy_122 h122 ?_
    obtain ⟨g123, h123, hf⟩ := bb_bind hf
    refine bb_lastore dX8_copy_123 h123 ?_
    refine bb_iinc (v := x8 + 1) (L' := [.ref x0, .int x1, .int x2, .int x3, .int x4, .int x5, .null, .null, .int (x8 + 1)]) dX8_copy_124 rfl rfl (by decide) rfl rfl ?_
    refine bb_goto (tgt := 96) dX8_copy_127 (by decide) ?_
    refine bb_fewer (L' := [.ref x0, .int x1, .int x2, .int x3, .int x4, .int x5, .null, .null, .int (x8 + 1)]) (And.intro rfl (And.intro rfl (And.intro rfl (And.intro rfl (And.intro rfl (And.intro rfl (And.intro rfl trivial))))))) ?_
    exact ih _ _ _ _ _ _ _ _ hf
set_option maxRecDepth 100000 in
set_option maxHeartbeats 4000000 in
theorem j_X8_copy_0 {r : Int32 × bb_H} : ∀ (x0 : Nat) (x1 : Int32) (x2 : Int32) (x3 : Int32) (x4 : Int32) (x5 : Int32) (h : bb_H), m_X8_copy x0 x1 x2 x3 x4 x5 h = some r → bb_J RX8 cX8_copy 9 (some .int) rm_X8_copy (some (.int r.1), r.2) 0 [.ref x0, .int x1, .int x2, .int x3, .int x4, .int x5, .null, .null, .null] [] h := by
  intro x0 x1 x2 x3 x4 x5 h hf
  unfold m_X8_copy at hf
  refine bb_iload_n dX8_copy_0 rfl ?_
  obtain ⟨r1, h1, hf⟩ := bb_bind hf
  refine bb_invS (as := [.int x1]) is_X8_159 (by unfold bb_rr; decide) dX8_copy_1 rfl rfl (Nat.le_of_ble_eq_true rfl) (ok_X8_isSheet h1) ?_
  refine bb_if_eq (tgt := 14) dX8_copy_4 (by decide) (fun c4 => ?_) (fun c4 => ?_)
  · rw [if_pos c4] at hf
    refine bb_fewer (L' := [.null, .null, .null, .null, .null, .null, .null, .null, .null]) trivial ?_
    exact j_X8_copy_14 _ hf
  rw [if_neg c4] at hf
  refine bb_iload_n dX8_copy_7 rfl ?_
  obtain ⟨r8, h8, hf⟩ := bb_bind hf
  refine bb_invS (as := [.int x3]) is_X8_159 (by unfold bb_rr; decide) dX8_copy_8 rfl rfl (Nat.le_of_ble_eq_true rfl) (ok_X8_isSheet h8) ?_
  refine bb_if_ne (tgt := 16) dX8_copy_11 (by decide) (fun c11 => ?_) (fun c11 => ?_)
  · rw [if_neg c11] at hf
    refine bb_aload_n dX8_copy_16 rfl ?_
    obtain ⟨t17, h17, hf⟩ := bb_bind hf
    refine bb_getR fl_X8_29 dX8_copy_17 h17 ?_
    refine bb_iload_n dX8_copy_20 rfl ?_
    obtain ⟨t21, h21, hf⟩ := bb_bind hf
    refine bb_iaload dX8_copy_21 h21 ?_
    refine bb_if_lt (tgt := 34) dX8_copy_22 (by decide) (fun c22 => ?_) (fun c22 => ?_)
    · rw [if_pos c22] at hf
      refine bb_fewer (L' := [.null, .null, .null, .null, .null, .null, .null, .null, .null]) trivial ?_
      exact j_X8_copy_34 _ hf
    rw [if_neg c22] at hf
    refine bb_aload_n dX8_copy_25 rfl ?_
    obtain ⟨t26, h26, hf⟩ := bb_bind hf
    refine bb_getR fl_X8_29 dX8_copy_26 h26 ?_
    refine bb_iload_n dX8_copy_29 rfl ?_
    obtain ⟨t30, h30, hf⟩ := bb_bind hf
    refine bb_iaload dX8_copy_30 h30 ?_
    refine bb_if_ge (tgt := 37) dX8_copy_31 (by decide) (fun c31 => ?_) (fun c31 => ?_)
    · rw [if_pos c31] at hf
      refine bb_aload_n dX8_copy_37 rfl ?_
      refine bb_iload_n dX8_copy_38 rfl ?_
      refine bb_aload_n dX8_copy_39 rfl ?_
      obtain ⟨t40, h40, hf⟩ := bb_bind hf
      refine bb_getR fl_X8_32 dX8_copy_40 h40 ?_
      refine bb_iload_n dX8_copy_43 rfl ?_
      obtain ⟨t44, h44, hf⟩ := bb_bind hf
      refine bb_iaload dX8_copy_44 h44 ?_
      refine bb_iload_n dX8_copy_45 rfl ?_
      refine bb_iload dX8_copy_46 rfl ?_
      obtain ⟨r48, h48, hf⟩ := bb_bind hf
      obtain ⟨⟨v48, b48⟩, h48⟩ := bb_rcv_spec h48
      refine bb_invV (ci := 8) (as := [.int x1, .int t44, .int x2, .int x5]) iv_X8_162 (by unfold bb_rr; decide) rfl dX8_copy_48 rfl rfl b48 (Nat.le_of_ble_eq_true rfl) (ok_X8_barred h48) ?_
      refine bb_istore (L' := [.ref x0, .int x1, .int x2, .int x3, .int x4, .int x5, .int r48.1, .null, .null]) dX8_copy_51 (by decide) rfl rfl ?_
      refine bb_aload_n dX8_copy_53 rfl ?_
      refine bb_iload_n dX8_copy_54 rfl ?_
      refine bb_aload_n dX8_copy_55 rfl ?_
      obtain ⟨t56, h56, hf⟩ := bb_bind hf
      refine bb_getR fl_X8_32 dX8_copy_56 h56 ?_
      refine bb_iload_n dX8_copy_59 rfl ?_
      obtain ⟨t60, h60, hf⟩ := bb_bind hf
      refine bb_iaload dX8_copy_60 h60 ?_
      refine bb_iload dX8_copy_61 rfl ?_
      refine bb_iload dX8_copy_63 rfl ?_
      obtain ⟨r65, h65, hf⟩ := bb_bind hf
      obtain ⟨⟨v65, b65⟩, h65⟩ := bb_rcv_spec h65
      refine bb_invV (ci := 8) (as := [.int x3, .int t60, .int x4, .int x5]) iv_X8_162 (by unfold bb_rr; decide) rfl dX8_copy_65 rfl rfl b65 (Nat.le_of_ble_eq_true rfl) (ok_X8_barred h65) ?_
      refine bb_istore (L' := [.ref x0, .int x1, .int x2, .int x3, .int x4, .int x5, .int r48.1, .int r65.1, .null]) dX8_copy_68 (by decide) rfl rfl ?_
      refine bb_iload dX8_copy_70 rfl ?_
      refine bb_if_ne (tgt := 80) dX8_copy_72 (by decide) (fun c72 => ?_) (fun c72 => ?_)
      · rw [if_neg c72] at hf
        refine bb_fewer (L' := [.null, .null, .null, .null, .null, .null, .int r48.1, .int r65.1, .null]) (And.intro rfl (And.intro rfl trivial)) ?_
        exact j_X8_copy_80 _ _ _ hf
      rw [if_pos c72] at hf
      refine bb_iload dX8_copy_75 rfl ?_
      refine bb_if_eq (tgt := 93) dX8_copy_77 (by decide) (fun c77 => ?_) (fun c77 => ?_)
      · rw [if_pos c77] at hf
        refine bb_iconst (v := 0) dX8_copy_93 (by decide) ?_
        refine bb_istore (L' := [.ref x0, .int x1, .int x2, .int x3, .int x4, .int x5, .int r48.1, .int r65.1, .int 0]) dX8_copy_94 (by decide) rfl rfl ?_
        refine bb_fewer (L' := [.ref x0, .int x1, .int x2, .int x3, .int x4, .int x5, .null, .null, .int 0]) (And.intro rfl (And.intro rfl (And.intro rfl (And.intro rfl (And.intro rfl (And.intro rfl (And.intro rfl trivial))))))) ?_
        exact j_X8_copy_96 _ _ _ _ _ _ _ _ _ hf
      rw [if_neg c77] at hf
      refine bb_fewer (L' := [.null, .null, .null, .null, .null, .null, .int r48.1, .int r65.1, .null]) (And.intro rfl (And.intro rfl trivial)) ?_
      exact j_X8_copy_80 _ _ _ hf
    rw [if_neg c31] at hf
    refine bb_fewer (L' := [.null, .null, .null, .null, .null, .null, .null, .null, .null]) trivial ?_
    exact j_X8_copy_34 _ hf
  rw [if_pos c11] at hf
  refine bb_fewer (L' := [.null, .null, .null, .null, .null, .null, .null, .null, .null]) trivial ?_
  exact j_X8_copy_14 _ hf
theorem ok_X8_copy {x0 : Nat} {x1 : Int32} {x2 : Int32} {x3 : Int32} {x4 : Int32} {x5 : Int32} {h : bb_H} {r : Int32 × bb_H} (hf : m_X8_copy x0 x1 x2 x3 x4 x5 h = some r) : bb_Ok yX8_copy cX8_copy 9 (some .int) rm_X8_copy [.ref x0, .int x1, .int x2, .int x3, .int x4, .int x5] h (some (.int r.1), r.2) :=
  bb_ok (L := [.ref x0, .int x1, .int x2, .int x3, .int x4, .int x5, .null, .null, .null]) (by decide) (Nat.le_of_ble_eq_true rfl) rfl (bb_fewer (L' := [.ref x0, .int x1, .int x2, .int x3, .int x4, .int x5, .null, .null, .null]) (And.intro rfl (And.intro rfl (And.intro rfl (And.intro rfl (And.intro rfl (And.intro rfl trivial)))))) (j_X8_copy_0 _ _ _ _ _ _ _ hf))
