theorem fl_X6_15 : bb_fl RX6 15 6 1 := ⟨RX6, TX6, 6, rfl, by decide, bb_u6, by decide +kernel⟩
theorem fl_X6_9 : bb_fl RX6 9 6 0 := ⟨RX6, TX6, 6, rfl, by decide, bb_u6, by decide +kernel⟩
theorem fp_X6_15 : bb_fp RX6 15 6 1 .int := ⟨RX6, TX6, 6, tyX6, rfl, by decide, bb_u6, by decide +kernel, tyX6_ok, nmX6, rfl, rfl⟩
theorem fl_X6_30 : bb_fl RX6 30 6 4 := ⟨RX6, TX6, 6, rfl, by decide, bb_u6, by decide +kernel⟩
theorem iv_X6_51 : bb_iv RX6 51 RX6 yX6_here cX6_here 1 (some .char) 0 := by unfold bb_iv; decide +kernel
theorem fp_X6_30 : bb_fp RX6 30 6 4 .int := ⟨RX6, TX6, 6, tyX6, rfl, by decide, bb_u6, by decide +kernel, tyX6_ok, nmX6, rfl, rfl⟩
theorem fl_X6_33 : bb_fl RX6 33 6 5 := ⟨RX6, TX6, 6, rfl, by decide, bb_u6, by decide +kernel⟩
theorem fp_X6_33 : bb_fp RX6 33 6 5 .int := ⟨RX6, TX6, 6, tyX6, rfl, by decide, bb_u6, by decide +kernel, tyX6_ok, nmX6, rfl, rfl⟩
theorem in_X6_88 : bb_in_ RX6 88 "BattleBench" yX7_within cX7_within 3 (some .boolean) 3 := by unfold bb_in_; decide +kernel
theorem iv_X6_61 : bb_iv RX6 61 RX6 yX6_faultAt cX6_faultAt 2 none 1 := by unfold bb_iv; decide +kernel
theorem iv_X6_46 : bb_iv RX6 46 RX6 yX6_skipBlanks cX6_skipBlanks 1 none 0 := by unfold bb_iv; decide +kernel
theorem iv_X6_82 : bb_iv RX6 82 RX6 yX6_isDigit cX6_isDigit 1 (some .boolean) 0 := by unfold bb_iv; decide +kernel
theorem iv_X6_85 : bb_iv RX6 85 RX6 yX6_readDigit cX6_readDigit 2 (some .int) 0 := by unfold bb_iv; decide +kernel
theorem fl_X6_22 : bb_fl RX6 22 6 2 := ⟨RX6, TX6, 6, rfl, by decide, bb_u6, by decide +kernel⟩
theorem iv_X6_92 : bb_iv RX6 92 RX3 yX3_isTaken cX3_isTaken 4 (some .boolean) 2 := by unfold bb_iv; decide +kernel
theorem iv_X6_96 : bb_iv RX6 96 RX3 yX3_placeNext cX3_placeNext 3 none 2 := by unfold bb_iv; decide +kernel
theorem fl_X6_36 : bb_fl RX6 36 3 0 := ⟨RX3, TX3, 4, rfl, by decide, bb_u3, by decide +kernel⟩
theorem fl_X6_26 : bb_fl RX6 26 6 3 := ⟨RX6, TX6, 6, rfl, by decide, bb_u6, by decide +kernel⟩
theorem iv_X6_79 : bb_iv RX6 79 RX3 yX3_adm cX3_adm 2 none 1 := by unfold bb_iv; decide +kernel
theorem ix_X6_55 : bb_iix RX6 55 := by unfold bb_iix bb_iv; decide +kernel
theorem iv_X6_65 : bb_iv RX6 65 RX6 yX6_readLife cX6_readLife 3 (some .int) 0 := by unfold bb_iv; decide +kernel
theorem iv_X6_72 : bb_iv RX6 72 RX3 yX3_isTakenAtAnyHour cX3_isTakenAtAnyHour 3 (some .boolean) 1 := by unfold bb_iv; decide +kernel
theorem iv_X6_76 : bb_iv RX6 76 RX3 yX3_placeNextByNumber cX3_placeNextByNumber 2 none 0 := by unfold bb_iv; decide +kernel
theorem iv_X6_69 : bb_iv RX6 69 RX6 yX6_readPlaces cX6_readPlaces 2 none 0 := by unfold bb_iv; decide +kernel
theorem iv_X6_39 : bb_iv RX6 39 RX6 yX6_readMan cX6_readMan 4 none 0 := by unfold bb_iv; decide +kernel
theorem iv_X6_42 : bb_iv RX6 42 RX6 yX6_readComma cX6_readComma 1 (some .boolean) 0 := by unfold bb_iv; decide +kernel
theorem fp_X6_36 : bb_fp RX6 36 3 0 .int := ⟨RX3, TX3, 4, tyX3, rfl, by decide, bb_u3, by decide +kernel, tyX3_ok, nmX3, rfl, rfl⟩
theorem is_X7_62 : bb_is_ RX7 62 yX7_within cX7_within 3 (some .boolean) 3 := by unfold bb_is_; decide +kernel
theorem fl_X7_12 : bb_fl RX7 12 7 0 := ⟨RX7, TX7, 9, rfl, by decide, bb_u7, by decide +kernel⟩
theorem fl_X7_66 : bb_fl RX7 66 5 0 := ⟨RX5, TX5, 3, rfl, by decide, bb_u5, by decide +kernel⟩
theorem fl_X7_69 : bb_fl RX7 69 3 0 := ⟨RX3, TX3, 4, rfl, by decide, bb_u3, by decide +kernel⟩
theorem iv_X7_73 : bb_iv RX7 73 RX3 yX3_isTakenAtAnyHour cX3_isTakenAtAnyHour 3 (some .boolean) 1 := by unfold bb_iv; decide +kernel
theorem iv_X7_77 : bb_iv RX7 77 RX3 yX3_placeNextByNumber cX3_placeNextByNumber 2 none 0 := by unfold bb_iv; decide +kernel
theorem iv_X7_80 : bb_iv RX7 80 RX3 yX3_adm cX3_adm 2 none 1 := by unfold bb_iv; decide +kernel
theorem iv_X7_84 : bb_iv RX7 84 RX3 yX3_findWhoStoodBy cX3_findWhoStoodBy 3 none 0 := by unfold bb_iv; decide +kernel
theorem fl_X7_87 : bb_fl RX7 87 5 1 := ⟨RX5, TX5, 3, rfl, by decide, bb_u5, by decide +kernel⟩
theorem iv_X7_90 : bb_iv RX7 90 RX0 yX0_seatLast cX0_seatLast 3 none 2 := by unfold bb_iv; decide +kernel
theorem fl_X7_94 : bb_fl RX7 94 5 2 := ⟨RX5, TX5, 3, rfl, by decide, bb_u5, by decide +kernel⟩
theorem iv_X7_98 : bb_iv RX7 98 RX1 yX1_forget cX1_forget 1 none 0 := by unfold bb_iv; decide +kernel
theorem iv_X7_103 : bb_iv RX7 103 RX3 yX3_has cX3_has 2 (some .boolean) 1 := by unfold bb_iv; decide +kernel
theorem is_X7_106 : bb_is_ RX7 106 yX7_isHour cX7_isHour 1 (some .boolean) 1 := by unfold bb_is_; decide +kernel
theorem iv_X7_109 : bb_iv RX7 109 RX3 yX3_isTaken cX3_isTaken 4 (some .boolean) 2 := by unfold bb_iv; decide +kernel
theorem fl_X7_113 : bb_fl RX7 113 3 2 := ⟨RX3, TX3, 4, rfl, by decide, bb_u3, by decide +kernel⟩
theorem fl_X7_117 : bb_fl RX7 117 3 1 := ⟨RX3, TX3, 4, rfl, by decide, bb_u3, by decide +kernel⟩
theorem fl_X7_120 : bb_fl RX7 120 0 0 := ⟨RX0, TX0, 5, rfl, by decide, bb_u0, by decide +kernel⟩
theorem iv_X7_123 : bb_iv RX7 123 RX0 yX0_seatOf cX0_seatOf 3 (some .int) 1 := by unfold bb_iv; decide +kernel
theorem fl_X7_127 : bb_fl RX7 127 3 3 := ⟨RX3, TX3, 4, rfl, by decide, bb_u3, by decide +kernel⟩
theorem iv_X7_130 : bb_iv RX7 130 RX0 yX0_whoSitsBy cX0_whoSitsBy 3 (some .int) 1 := by unfold bb_iv; decide +kernel
theorem iv_X7_133 : bb_iv RX7 133 RX0 yX0_lossOf cX0_lossOf 4 (some .int) 2 := by unfold bb_iv; decide +kernel
theorem iv_X7_137 : bb_iv RX7 137 RX0 yX0_whoIsOn cX0_whoIsOn 2 (some .int) 1 := by unfold bb_iv; decide +kernel
theorem fl_X7_26 : bb_fl RX7 26 7 3 := ⟨RX7, TX7, 9, rfl, by decide, bb_u7, by decide +kernel⟩
theorem fl_X7_140 : bb_fl RX7 140 6 1 := ⟨RX6, TX6, 6, rfl, by decide, bb_u6, by decide +kernel⟩
theorem iv_X7_143 : bb_iv RX7 143 RX6 yX6_add cX6_add 2 none 1 := by unfold bb_iv; decide +kernel
theorem iv_X7_147 : bb_iv RX7 147 RX6 yX6_readBench cX6_readBench 2 (some .int) 0 := by unfold bb_iv; decide +kernel
theorem fp_X7_140 : bb_fp RX7 140 6 1 .int := ⟨RX6, TX6, 6, tyX6, rfl, by decide, bb_u6, by decide +kernel, tyX6_ok, nmX6, rfl, rfl⟩
theorem fl_X7_151 : bb_fl RX7 151 6 2 := ⟨RX6, TX6, 6, rfl, by decide, bb_u6, by decide +kernel⟩
theorem iv_X7_152 : bb_iv RX7 152 RX3 yX3_takeFrom cX3_takeFrom 4 none 1 := by unfold bb_iv; decide +kernel
theorem fl_X7_156 : bb_fl RX7 156 6 3 := ⟨RX6, TX6, 6, rfl, by decide, bb_u6, by decide +kernel⟩
theorem iv_X7_157 : bb_iv RX7 157 RX0 yX0_seatAll cX0_seatAll 4 none 2 := by unfold bb_iv; decide +kernel
theorem fl_X7_161 : bb_fl RX7 161 0 2 := ⟨RX0, TX0, 5, rfl, by decide, bb_u0, by decide +kernel⟩
theorem fl_X7_164 : bb_fl RX7 164 0 3 := ⟨RX0, TX0, 5, rfl, by decide, bb_u0, by decide +kernel⟩
theorem iv_X7_167 : bb_iv RX7 167 RX0 yX0_whoSits cX0_whoSits 3 (some .int) 0 := by unfold bb_iv; decide +kernel
theorem iv_X7_170 : bb_iv RX7 170 RX0 yX0_lifeOfAll cX0_lifeOfAll 3 (some .int) 0 := by unfold bb_iv; decide +kernel
theorem fl_X7_173 : bb_fl RX7 173 0 1 := ⟨RX0, TX0, 5, rfl, by decide, bb_u0, by decide +kernel⟩
theorem iv_X7_176 : bb_iv RX7 176 RX3 yX3_wrongPairs cX3_wrongPairs 5 (some .int) 2 := by unfold bb_iv; decide +kernel
theorem fl_X7_180 : bb_fl RX7 180 1 1 := ⟨RX1, TX1, 3, rfl, by decide, bb_u1, by decide +kernel⟩
theorem iv_X7_212 : bb_iv RX7 212 RX0 yX0_passYear cX0_passYear 8 none 1 := by unfold bb_iv; decide +kernel
theorem iv_X7_190 : bb_iv RX7 190 RX1 yX1_keep cX1_keep 2 none 1 := by unfold bb_iv; decide +kernel
theorem iv_X7_209 : bb_iv RX7 209 RX0 yX0_moveByDraw cX0_moveByDraw 1 none 0 := by unfold bb_iv; decide +kernel
theorem iv_X7_183 : bb_iv RX7 183 RX7 yX7_goOn cX7_goOn 5 (some .int) 2 := by unfold bb_iv; decide +kernel
theorem iv_X7_187 : bb_iv RX7 187 RX0 yX0_hasPairAt cX0_hasPairAt 2 (some .boolean) 1 := by unfold bb_iv; decide +kernel
theorem iv_X7_194 : bb_iv RX7 194 RX0 yX0_swapAt cX0_swapAt 3 none 1 := by unfold bb_iv; decide +kernel
theorem imin_X7_197 : bb_in2 RX7 197 := by unfold bb_in2; decide +kernel
theorem iv_X7_203 : bb_iv RX7 203 RX1 yX1_giveBack cX1_giveBack 2 none 1 := by unfold bb_iv; decide +kernel
theorem fl_X7_206 : bb_fl RX7 206 0 4 := ⟨RX0, TX0, 5, rfl, by decide, bb_u0, by decide +kernel⟩
theorem fp_X7_206 : bb_fp RX7 206 0 4 .int := ⟨RX0, TX0, 5, tyX0, rfl, by decide, bb_u0, by decide +kernel, tyX0_ok, nmX0, rfl, rfl⟩
theorem fl_X7_39 : bb_fl RX7 39 7 5 := ⟨RX7, TX7, 9, rfl, by decide, bb_u7, by decide +kernel⟩
theorem iv_X7_218 : bb_iv RX7 218 RX0 yX0_takeFrom cX0_takeFrom 3 none 1 := by unfold bb_iv; decide +kernel
theorem iv_X7_319 : bb_iv RX7 319 RX0 yX0_passYears cX0_passYears 4 none 2 := by unfold bb_iv; decide +kernel
theorem iv_X7_215 : bb_iv RX7 215 RX7 yX7_foretell cX7_foretell 2 none 1 := by unfold bb_iv; decide +kernel
theorem is_X7_220 : bb_is_ RX7 220 yX7_holds cX7_holds 2 (some .boolean) 2 := by unfold bb_is_; decide +kernel
theorem fl_X7_57 : bb_fl RX7 57 7 8 := ⟨RX7, TX7, 9, rfl, by decide, bb_u7, by decide +kernel⟩
theorem imax_X7_330 : bb_im RX7 330 := by unfold bb_im; decide +kernel
theorem iv_X7_327 : bb_iv RX7 327 RX7 yX7_measureChains cX7_measureChains 7 (some .int) 1 := by unfold bb_iv; decide +kernel
theorem iv_X7_223 : bb_iv RX7 223 RX7 yX7_whoCouldStay cX7_whoCouldStay 8 (some .int) 1 := by unfold bb_iv; decide +kernel
theorem is_X7_227 : bb_is_ RX7 227 yJ6_bitCount_0f7a4 cJ6_bitCount_0f7a4 1 (some .int) 1 := by unfold bb_is_; decide +kernel
theorem fl_X7_53 : bb_fl RX7 53 7 7 := ⟨RX7, TX7, 9, rfl, by decide, bb_u7, by decide +kernel⟩
theorem iv_X7_240 : bb_iv RX7 240 RX2 yX2_advance cX2_advance 5 (some .boolean) 0 := by unfold bb_iv; decide +kernel
theorem fl_X7_235 : bb_fl RX7 235 2 0 := ⟨RX2, TX2, 3, rfl, by decide, bb_u2, by decide +kernel⟩
theorem fl_X7_237 : bb_fl RX7 237 2 2 := ⟨RX2, TX2, 3, rfl, by decide, bb_u2, by decide +kernel⟩
theorem iv_X7_232 : bb_iv RX7 232 RX2 yX2_start cX2_start 4 none 1 := by unfold bb_iv; decide +kernel
theorem iv_X7_333 : bb_iv RX7 333 RX2 yX2_keepAsBest cX2_keepAsBest 2 none 0 := by unfold bb_iv; decide +kernel
theorem iv_X7_244 : bb_iv RX7 244 RX7 yX7_findEase cX7_findEase 4 (some .int) 0 := by unfold bb_iv; decide +kernel
theorem iv_X7_247 : bb_iv RX7 247 RX2 yX2_bestOn cX2_bestOn 2 (some .int) 1 := by unfold bb_iv; decide +kernel
theorem iv_X7_323 : bb_iv RX7 323 RX0 yX0_seatAs cX0_seatAs 3 none 1 := by unfold bb_iv; decide +kernel
theorem iv_X7_336 : bb_iv RX7 336 RX2 yX2_isTurnedRound cX2_isTurnedRound 1 (some .boolean) 0 := by unfold bb_iv; decide +kernel
theorem iv_X7_256 : bb_iv RX7 256 RX7 yX7_foretellFor cX7_foretellFor 3 none 2 := by unfold bb_iv; decide +kernel
theorem iv_X7_250 : bb_iv RX7 250 RX7 yX7_findMostLeft cX7_findMostLeft 6 none 1 := by unfold bb_iv; decide +kernel
theorem fl_X7_253 : bb_fl RX7 253 2 1 := ⟨RX2, TX2, 3, rfl, by decide, bb_u2, by decide +kernel⟩
theorem iv_X7_339 : bb_iv RX7 339 RX7 yX7_areAllByTheirOwn cX7_areAllByTheirOwn 5 (some .boolean) 1 := by unfold bb_iv; decide +kernel
theorem is_X7_263 : bb_is_ RX7 263 yX7_power cX7_power 4 (some .int) 2 := by unfold bb_is_; decide +kernel
theorem iv_X7_260 : bb_iv RX7 260 RX7 yX7_weightOfWinters cX7_weightOfWinters 7 (some .int) 2 := by unfold bb_iv; decide +kernel
theorem is_X7_266 : bb_is_ RX7 266 yX7_commonDivisor cX7_commonDivisor 6 (some .int) 2 := by unfold bb_is_; decide +kernel
theorem fl_X7_16 : bb_fl RX7 16 7 1 := ⟨RX7, TX7, 9, rfl, by decide, bb_u7, by decide +kernel⟩
theorem iv_X7_269 : bb_iv RX7 269 RX5 yX5_takeFrom cX5_takeFrom 2 none 1 := by unfold bb_iv; decide +kernel
theorem fl_X7_19 : bb_fl RX7 19 7 2 := ⟨RX7, TX7, 9, rfl, by decide, bb_u7, by decide +kernel⟩
theorem fp_X7_19 : bb_fp RX7 19 7 2 .boolean := ⟨RX7, TX7, 9, tyX7, rfl, by decide, bb_u7, by decide +kernel, tyX7_ok, nmX7, rfl, rfl⟩
theorem fl_X7_46 : bb_fl RX7 46 7 6 := ⟨RX7, TX7, 9, rfl, by decide, bb_u7, by decide +kernel⟩
theorem fl_X7_309 : bb_fl RX7 309 4 3 := ⟨RX4, TX4, 4, rfl, by decide, bb_u4, by decide +kernel⟩
theorem iv_X7_342 : bb_iv RX7 342 RX7 yX7_doesFail cX7_doesFail 6 (some .boolean) 4 := by unfold bb_iv; decide +kernel
theorem iv_X7_346 : bb_iv RX7 346 RX7 yX7_doesLifeFit cX7_doesLifeFit 6 (some .boolean) 5 := by unfold bb_iv; decide +kernel
theorem is_X7_272 : bb_is_ RX7 272 yX7_isSheet cX7_isSheet 1 (some .boolean) 1 := by unfold bb_is_; decide +kernel
theorem is_X7_275 : bb_is_ RX7 275 yX7_isLane cX7_isLane 1 (some .boolean) 1 := by unfold bb_is_; decide +kernel
theorem fl_X7_32 : bb_fl RX7 32 7 4 := ⟨RX7, TX7, 9, rfl, by decide, bb_u7, by decide +kernel⟩
theorem iv_X7_278 : bb_iv RX7 278 RX4 yX4_refusalOf cX4_refusalOf 4 (some .int) 3 := by unfold bb_iv; decide +kernel
theorem iv_X7_282 : bb_iv RX7 282 RX7 yX7_kindsThatFit cX7_kindsThatFit 7 (some .int) 4 := by unfold bb_iv; decide +kernel
theorem iv_X7_286 : bb_iv RX7 286 RX7 yX7_howManyLivesFit cX7_howManyLivesFit 7 (some .int) 4 := by unfold bb_iv; decide +kernel
theorem iv_X7_289 : bb_iv RX7 289 RX7 yX7_leastLifeThatFits cX7_leastLifeThatFits 6 (some .int) 4 := by unfold bb_iv; decide +kernel
theorem iv_X7_292 : bb_iv RX7 292 RX4 yX4_put cX4_put 4 none 2 := by unfold bb_iv; decide +kernel
theorem iv_X7_296 : bb_iv RX7 296 RX4 yX4_renew cX4_renew 4 none 2 := by unfold bb_iv; decide +kernel
theorem fl_X7_299 : bb_fl RX7 299 4 0 := ⟨RX4, TX4, 4, rfl, by decide, bb_u4, by decide +kernel⟩
theorem fp_X7_299 : bb_fp RX7 299 4 0 .boolean := ⟨RX4, TX4, 4, tyX4, rfl, by decide, bb_u4, by decide +kernel, tyX4_ok, nmX4, rfl, rfl⟩
theorem fl_X7_302 : bb_fl RX7 302 4 2 := ⟨RX4, TX4, 4, rfl, by decide, bb_u4, by decide +kernel⟩
theorem fl_X7_303 : bb_fl RX7 303 4 1 := ⟨RX4, TX4, 4, rfl, by decide, bb_u4, by decide +kernel⟩
theorem iv_X7_306 : bb_iv RX7 306 RX4 yX4_spans cX4_spans 3 (some .boolean) 2 := by unfold bb_iv; decide +kernel
theorem ac_X7_313 : bb_iac RX7 313 := by unfold bb_iac; decide +kernel
abbrev rm_X6_add : Room := { frames := 0, cells := 0, slots := 0, locals := 0 }
set_option maxRecDepth 100000 in
set_option maxHeartbeats 4000000 in
theorem j_X6_add_29 {r : bb_H} : ∀ (h : bb_H), m_X6_add_29 h = some r → bb_J RX6 cX6_add 2 none rm_X6_add (none, r) 29 [.null, .null] [] h := by
  intro h hf
  unfold m_X6_add_29 at hf
  obtain rfl := Option.some.inj hf
  exact bb_vret rfl rfl dX6_add_29
set_option maxRecDepth 100000 in
set_option maxHeartbeats 4000000 in
theorem j_X6_add_0 {r : bb_H} : ∀ (x0 : Nat) (x1 : Int32) (h : bb_H), m_X6_add x0 x1 h = some r → bb_J RX6 cX6_add 2 none rm_X6_add (none, r) 0 [.ref x0, .int x1] [] h := by
  intro x0 x1 h hf
  unfold m_X6_add at hf
  refine bb_aload_n dX6_add_0 rfl ?_
  obtain ⟨t1, h1, hf⟩ := bb_bind hf
  refine bb_getI fl_X6_15 dX6_add_1 h1 ?_
  refine bb_bipush (v := 70) dX6_add_4 (by decide) ?_
  refine bb_icmp_ge (tgt := 29) dX6_add_6 (by decide) (fun c6 => ?_) (fun c6 => ?_)
  · rw [if_pos c6] at hf
    refine bb_fewer (L' := [.null, .null]) trivial ?_
    exact j_X6_add_29 _ hf
  rw [if_neg c6] at hf
  refine bb_aload_n dX6_add_9 rfl ?_
  obtain ⟨t10, h10, hf⟩ := bb_bind hf
  refine bb_getR fl_X6_9 dX6_add_10 h10 ?_
  refine bb_aload_n dX6_add_13 rfl ?_
  obtain ⟨t14, h14, hf⟩ := bb_bind hf
  refine bb_getI fl_X6_15 dX6_add_14 h14 ?_
  refine bb_iload_n dX6_add_17 rfl ?_
  obtain ⟨g18, h18, hf⟩ := bb_bind hf
  refine bb_castore dX6_add_18 h18 ?_
  refine bb_aload_n dX6_add_19 rfl ?_
  refine bb_dup dX6_add_20 rfl ?_
  obtain ⟨t21, h21, hf⟩ := bb_bind hf
  refine bb_getI fl_X6_15 dX6_add_21 h21 ?_
  refine bb_iconst (v := 1) dX6_add_24 (by decide) ?_
  refine bb_iadd dX6_add_25 ?_
  obtain ⟨g26, h26, hf⟩ := bb_bind hf
  refine bb_putI fp_X6_15 dX6_add_26 h26 ?_
  refine bb_fewer (L' := [.null, .null]) trivial ?_
  exact j_X6_add_29 _ hf
theorem ok_X6_add {x0 : Nat} {x1 : Int32} {h : bb_H} {r : bb_H} (hf : m_X6_add x0 x1 h = some r) : bb_Ok yX6_add cX6_add 2 none rm_X6_add [.ref x0, .int x1] h (none, r) :=
  bb_ok (L := [.ref x0, .int x1]) (by decide) (Nat.le_of_ble_eq_true rfl) rfl (bb_fewer (L' := [.ref x0, .int x1]) (And.intro rfl (And.intro rfl trivial)) (j_X6_add_0 _ _ _ hf))
abbrev rm_X6_here : Room := { frames := 0, cells := 0, slots := 0, locals := 0 }
set_option maxRecDepth 100000 in
set_option maxHeartbeats 4000000 in
theorem j_X6_here_40 {r : Int32 × bb_H} : ∀ (z0 : Int32) (h : bb_H), m_X6_here_40 z0 h = some r → bb_J RX6 cX6_here 1 (some .char) rm_X6_here (some (.int r.1), r.2) 40 [.null] [.int z0] h := by
  intro z0 h hf
  unfold m_X6_here_40 at hf
  obtain ⟨hn, rfl⟩ := bb_rc_spec hf
  exact bb_zret rfl hn rfl dX6_here_40
set_option maxRecDepth 100000 in
set_option maxHeartbeats 4000000 in
theorem j_X6_here_39 {r : Int32 × bb_H} : ∀ (h : bb_H), m_X6_here_39 h = some r → bb_J RX6 cX6_here 1 (some .char) rm_X6_here (some (.int r.1), r.2) 39 [.null] [] h := by
  intro h hf
  unfold m_X6_here_39 at hf
  refine bb_iconst (v := 0) dX6_here_39 (by decide) ?_
  refine bb_fewer (L' := [.null]) trivial ?_
  exact j_X6_here_40 _ _ hf
set_option maxRecDepth 100000 in
set_option maxHeartbeats 4000000 in
theorem j_X6_here_0 {r : Int32 × bb_H} : ∀ (x0 : Nat) (h : bb_H), m_X6_here x0 h = some r → bb_J RX6 cX6_here 1 (some .char) rm_X6_here (some (.int r.1), r.2) 0 [.ref x0] [] h := by
  intro x0 h hf
  unfold m_X6_here at hf
  refine bb_aload_n dX6_here_0 rfl ?_
  obtain ⟨t1, h1, hf⟩ := bb_bind hf
  refine bb_getI fl_X6_30 dX6_here_1 h1 ?_
  refine bb_if_lt (tgt := 39) dX6_here_4 (by decide) (fun c4 => ?_) (fun c4 => ?_)
  · rw [if_pos c4] at hf
    refine bb_fewer (L' := [.null]) trivial ?_
    exact j_X6_here_39 _ hf
  rw [if_neg c4] at hf
  refine bb_aload_n dX6_here_7 rfl ?_
  obtain ⟨t8, h8, hf⟩ := bb_bind hf
  refine bb_getI fl_X6_30 dX6_here_8 h8 ?_
  refine bb_aload_n dX6_here_11 rfl ?_
  obtain ⟨t12, h12, hf⟩ := bb_bind hf
  refine bb_getI fl_X6_15 dX6_here_12 h12 ?_
  refine bb_icmp_ge (tgt := 39) dX6_here_15 (by decide) (fun c15 => ?_) (fun c15 => ?_)
  · rw [if_pos c15] at hf
    refine bb_fewer (L' := [.null]) trivial ?_
    exact j_X6_here_39 _ hf
  rw [if_neg c15] at hf
  refine bb_aload_n dX6_here_18 rfl ?_
  obtain ⟨t19, h19, hf⟩ := bb_bind hf
  refine bb_getI fl_X6_30 dX6_here_19 h19 ?_
  refine bb_bipush (v := 70) dX6_here_22 (by decide) ?_
  refine bb_icmp_ge (tgt := 39) dX6_here_24 (by decide) (fun c24 => ?_) (fun c24 => ?_)
  · rw [if_pos c24] at hf
    refine bb_fewer (L' := [.null]) trivial ?_
    exact j_X6_here_39 _ hf
  rw [if_neg c24] at hf
  refine bb_aload_n dX6_here_27 rfl ?_
  obtain ⟨t28, h28, hf⟩ := bb_bind hf
  refine bb_getR fl_X6_9 dX6_here_28 h28 ?_
  refine bb_aload_n dX6_here_31 rfl ?_
  obtain ⟨t32, h32, hf⟩ := bb_bind hf
  refine bb_getI fl_X6_30 dX6_here_32 h32 ?_
  obtain ⟨t35, h35, hf⟩ := bb_bind hf
  refine bb_caload dX6_here_35 h35 ?_
  refine bb_goto (tgt := 40) dX6_here_36 (by decide) ?_
  refine bb_fewer (L' := [.null]) trivial ?_
  exact j_X6_here_40 _ _ hf
theorem ok_X6_here {x0 : Nat} {h : bb_H} {r : Int32 × bb_H} (hf : m_X6_here x0 h = some r) : bb_Ok yX6_here cX6_here 1 (some .char) rm_X6_here [.ref x0] h (some (.int r.1), r.2) :=
  bb_ok (L := [.ref x0]) (by decide) (Nat.le_of_ble_eq_true rfl) rfl (bb_fewer (L' := [.ref x0]) (And.intro rfl trivial) (j_X6_here_0 _ _ hf))
abbrev rm_X6_skipBlanks : Room := { frames := 1, cells := 0, slots := 0, locals := 20 }
set_option maxRecDepth 100000 in
set_option maxHeartbeats 4000000 in
theorem j_X6_skipBlanks_33 {r : bb_H} : ∀ (h : bb_H), m_X6_skipBlanks_33 h = some r → bb_J RX6 cX6_skipBlanks 1 none rm_X6_skipBlanks (none, r) 33 [.null] [] h := by
  intro h hf
  unfold m_X6_skipBlanks_33 at hf
  obtain rfl := Option.some.inj hf
  exact bb_vret rfl rfl dX6_skipBlanks_33
set_option maxRecDepth 100000 in
set_option maxHeartbeats 4000000 in
theorem j_X6_skipBlanks_0 {r : bb_H} : ∀ (n : Nat) (x0 : Nat) (h : bb_H), m_X6_skipBlanks_0 n x0 h = some r → bb_J RX6 cX6_skipBlanks 1 none rm_X6_skipBlanks (none, r) 0 [.ref x0] [] h := by
  intro n
  induction n with
  | zero =>
    intro x0 h hf
    exact absurd hf (fun z => by cases z)
  | succ n ih =>
    intro x0 h hf
    unfold m_X6_skipBlanks_0 at hf
    refine bb_aload_n dX6_skipBlanks_0 rfl ?_
    obtain ⟨t1, h1, hf⟩ := bb_bind hf
    refine bb_getI fl_X6_30 dX6_skipBlanks_1 h1 ?_
    refine bb_aload_n dX6_skipBlanks_4 rfl ?_
    obtain ⟨t5, h5, hf⟩ := bb_bind hf
    refine bb_getI fl_X6_15 dX6_skipBlanks_5 h5 ?_
    refine bb_icmp_ge (tgt := 33) dX6_skipBlanks_8 (by decide) (fun c8 => ?_) (fun c8 => ?_)
    · rw [if_pos c8] at hf
      refine bb_fewer (L' := [.null]) trivial ?_
      exact j_X6_skipBlanks_33 _ hf
    rw [if_neg c8] at hf
    refine bb_aload_n dX6_skipBlanks_11 rfl ?_
    obtain ⟨r12, h12, hf⟩ := bb_bind hf
    obtain ⟨⟨v12, b12⟩, h12⟩ := bb_rcv_spec h12
    refine bb_invV (ci := 6) (as := []) iv_X6_51 (by unfold bb_rr; decide) rfl dX6_skipBlanks_12 rfl rfl b12 (Nat.le_of_ble_eq_true rfl) (ok_X6_here h12) ?_
    refine bb_bipush (v := 32) dX6_skipBlanks_15 (by decide) ?_
    refine bb_icmp_ne (tgt := 33) dX6_skipBlanks_17 (by decide) (fun c17 => ?_) (fun c17 => ?_)
    · rw [if_neg c17] at hf
      refine bb_fewer (L' := [.null]) trivial ?_
      exact j_X6_skipBlanks_33 _ hf
    rw [if_pos c17] at hf
    refine bb_aload_n dX6_skipBlanks_20 rfl ?_
    refine bb_dup dX6_skipBlanks_21 rfl ?_
    obtain ⟨t22, h22, hf⟩ := bb_bind hf
    refine bb_getI fl_X6_30 dX6_skipBlanks_22 h22 ?_
    refine bb_iconst (v := 1) dX6_skipBlanks_25 (by decide) ?_
    refine bb_iadd dX6_skipBlanks_26 ?_
    obtain ⟨g27, h27, hf⟩ := bb_bind hf
    refine bb_putI fp_X6_30 dX6_skipBlanks_27 h27 ?_
    refine bb_goto (tgt := 0) dX6_skipBlanks_30 (by decide) ?_
    refine bb_fewer (L' := [.ref x0]) (And.intro rfl trivial) ?_
    exact ih _ _ hf
theorem ok_X6_skipBlanks {x0 : Nat} {h : bb_H} {r : bb_H} (hf : m_X6_skipBlanks x0 h = some r) : bb_Ok yX6_skipBlanks cX6_skipBlanks 1 none rm_X6_skipBlanks [.ref x0] h (none, r) :=
  bb_ok (L := [.ref x0]) (by decide) (Nat.le_of_ble_eq_true rfl) rfl (bb_fewer (L' := [.ref x0]) (And.intro rfl trivial) (j_X6_skipBlanks_0 _ _ _ hf))
abbrev rm_X6_faultAt : Room := { frames := 0, cells := 0, slots := 0, locals := 0 }
set_option maxRecDepth 100000 in
set_option maxHeartbeats 4000000 in
theorem j_X6_faultAt_0 {r : bb_H} : ∀ (x0 : Nat) (x1 : Int32) (h : bb_H), m_X6_faultAt x0 x1 h = some r → bb_J RX6 cX6_faultAt 2 none rm_X6_faultAt (none, r) 0 [.ref x0, .int x1] [] h := by
  intro x0 x1 h hf
  unfold m_X6_faultAt at hf
  refine bb_aload_n dX6_faultAt_0 rfl ?_
  refine bb_bipush (v := (-20)) dX6_faultAt_1 (by decide) ?_
  refine bb_iload_n dX6_faultAt_3 rfl ?_
  refine bb_isub dX6_faultAt_4 ?_
  obtain ⟨g5, h5, hf⟩ := bb_bind hf
  refine bb_putI fp_X6_33 dX6_faultAt_5 h5 ?_
  obtain rfl := Option.some.inj hf
  exact bb_vret rfl rfl dX6_faultAt_8
theorem ok_X6_faultAt {x0 : Nat} {x1 : Int32} {h : bb_H} {r : bb_H} (hf : m_X6_faultAt x0 x1 h = some r) : bb_Ok yX6_faultAt cX6_faultAt 2 none rm_X6_faultAt [.ref x0, .int x1] h (none, r) :=
  bb_ok (L := [.ref x0, .int x1]) (by decide) (Nat.le_of_ble_eq_true rfl) rfl (bb_fewer (L' := [.ref x0, .int x1]) (And.intro rfl (And.intro rfl trivial)) (j_X6_faultAt_0 _ _ _ hf))
abbrev rm_X6_isDigit : Room := { frames := 1, cells := 0, slots := 0, locals := 22 }
set_option maxRecDepth 100000 in
set_option maxHeartbeats 4000000 in
theorem j_X6_isDigit_0 {r : Int32 × bb_H} : ∀ (x0 : Nat) (h : bb_H), m_X6_isDigit x0 h = some r → bb_J RX6 cX6_isDigit 1 (some .boolean) rm_X6_isDigit (some (.int r.1), r.2) 0 [.ref x0] [] h := by
  intro x0 h hf
  unfold m_X6_isDigit at hf
  refine bb_aload_n dX6_isDigit_0 rfl ?_
  obtain ⟨r1, h1, hf⟩ := bb_bind hf
  obtain ⟨⟨v1, b1⟩, h1⟩ := bb_rcv_spec h1
  refine bb_invV (ci := 6) (as := []) iv_X6_51 (by unfold bb_rr; decide) rfl dX6_isDigit_1 rfl rfl b1 (Nat.le_of_ble_eq_true rfl) (ok_X6_here h1) ?_
  refine bb_bipush (v := 48) dX6_isDigit_4 (by decide) ?_
  refine bb_bipush (v := 57) dX6_isDigit_6 (by decide) ?_
  obtain ⟨r8, h8, hf⟩ := bb_bind hf
  refine bb_invN (as := [.int r1.1, .int 48, .int 57]) in_X6_88 (by unfold bb_rr; decide) dX6_isDigit_8 rfl rfl (Nat.le_of_ble_eq_true rfl) (ok_X7_within h8) ?_
  obtain ⟨hn, rfl⟩ := bb_rz_spec hf
  exact bb_zret rfl hn rfl dX6_isDigit_11
theorem ok_X6_isDigit {x0 : Nat} {h : bb_H} {r : Int32 × bb_H} (hf : m_X6_isDigit x0 h = some r) : bb_Ok yX6_isDigit cX6_isDigit 1 (some .boolean) rm_X6_isDigit [.ref x0] h (some (.int r.1), r.2) :=
  bb_ok (L := [.ref x0]) (by decide) (Nat.le_of_ble_eq_true rfl) rfl (bb_fewer (L' := [.ref x0]) (And.intro rfl trivial) (j_X6_isDigit_0 _ _ hf))
abbrev rm_X6_readDigit : Room := { frames := 1, cells := 0, slots := 0, locals := 20 }
set_option maxRecDepth 100000 in
set_option maxHeartbeats 4000000 in
theorem j_X6_readDigit_0 {r : Int32 × bb_H} : ∀ (x0 : Nat) (h : bb_H), m_X6_readDigit x0 h = some r → bb_J RX6 cX6_readDigit 2 (some .int) rm_X6_readDigit (some (.int r.1), r.2) 0 [.ref x0, .null] [] h := by
  intro x0 h hf
  unfold m_X6_readDigit at hf
  refine bb_aload_n dX6_readDigit_0 rfl ?_
  obtain ⟨r1, h1, hf⟩ := bb_bind hf
  obtain ⟨⟨v1, b1⟩, h1⟩ := bb_rcv_spec h1
  refine bb_invV (ci := 6) (as := []) iv_X6_51 (by unfold bb_rr; decide) rfl dX6_readDigit_1 rfl rfl b1 (Nat.le_of_ble_eq_true rfl) (ok_X6_here h1) ?_
  refine bb_bipush (v := 48) dX6_readDigit_4 (by decide) ?_
  refine bb_isub dX6_readDigit_6 ?_
  refine bb_istore_n (L' := [.ref x0, .int (r1.1 - 48)]) dX6_readDigit_7 (by decide) rfl rfl ?_
  refine bb_aload_n dX6_readDigit_8 rfl ?_
  refine bb_dup dX6_readDigit_9 rfl ?_
  obtain ⟨t10, h10, hf⟩ := bb_bind hf
  refine bb_getI fl_X6_30 dX6_readDigit_10 h10 ?_
  refine bb_iconst (v := 1) dX6_readDigit_13 (by decide) ?_
  refine bb_iadd dX6_readDigit_14 ?_
  obtain ⟨g15, h15, hf⟩ := bb_bind hf
  refine bb_putI fp_X6_30 dX6_readDigit_15 h15 ?_
  refine bb_iload_n dX6_readDigit_18 rfl ?_
  obtain rfl := Option.some.inj hf
  exact bb_iret rfl rfl dX6_readDigit_19
theorem ok_X6_readDigit {x0 : Nat} {h : bb_H} {r : Int32 × bb_H} (hf : m_X6_readDigit x0 h = some r) : bb_Ok yX6_readDigit cX6_readDigit 2 (some .int) rm_X6_readDigit [.ref x0] h (some (.int r.1), r.2) :=
  bb_ok (L := [.ref x0, .null]) (by decide) (Nat.le_of_ble_eq_true rfl) rfl (bb_fewer (L' := [.ref x0, .null]) (And.intro rfl trivial) (j_X6_readDigit_0 _ _ hf))
abbrev rm_X6_readLife : Room := { frames := 2, cells := 0, slots := 0, locals := 42 }
set_option maxRecDepth 100000 in
set_option maxHeartbeats 4000000 in
theorem j_X6_readLife_63 {r : Int32 × bb_H} : ∀ (x2 : Int32) (h : bb_H), m_X6_readLife_63 x2 h = some r → bb_J RX6 cX6_readLife 3 (some .int) rm_X6_readLife (some (.int r.1), r.2) 63 [.null, .null, .int x2] [] h := by
  intro x2 h hf
  unfold m_X6_readLife_63 at hf
  refine bb_iload_n dX6_readLife_63 rfl ?_
  obtain rfl := Option.some.inj hf
  exact bb_iret rfl rfl dX6_readLife_64
set_option maxRecDepth 100000 in
set_option maxHeartbeats 4000000 in
theorem j_X6_readLife_48 {r : Int32 × bb_H} : ∀ (x0 : Nat) (x1 : Int32) (x2 : Int32) (h : bb_H), m_X6_readLife_48 x0 x1 x2 h = some r → bb_J RX6 cX6_readLife 3 (some .int) rm_X6_readLife (some (.int r.1), r.2) 48 [.ref x0, .int x1, .int x2] [] h := by
  intro x0 x1 x2 h hf
  unfold m_X6_readLife_48 at hf
  refine bb_iload_n dX6_readLife_48 rfl ?_
  refine bb_iconst (v := 1) dX6_readLife_49 (by decide) ?_
  refine bb_bipush (v := 60) dX6_readLife_50 (by decide) ?_
  obtain ⟨r52, h52, hf⟩ := bb_bind hf
  refine bb_invN (as := [.int x2, .int 1, .int 60]) in_X6_88 (by unfold bb_rr; decide) dX6_readLife_52 rfl rfl (Nat.le_of_ble_eq_true rfl) (ok_X7_within h52) ?_
  refine bb_if_ne (tgt := 63) dX6_readLife_55 (by decide) (fun c55 => ?_) (fun c55 => ?_)
  · rw [if_neg c55] at hf
    refine bb_fewer (L' := [.null, .null, .int x2]) (And.intro rfl trivial) ?_
    exact j_X6_readLife_63 _ _ hf
  rw [if_pos c55] at hf
  refine bb_aload_n dX6_readLife_58 rfl ?_
  refine bb_iload_n dX6_readLife_59 rfl ?_
  obtain ⟨g60, h60, hf⟩ := bb_bind hf
  obtain ⟨⟨v60, b60⟩, h60⟩ := bb_rcv_spec h60
  refine bb_invV (ci := 6) (as := [.int x1]) iv_X6_61 (by unfold bb_rr; decide) rfl dX6_readLife_60 rfl rfl b60 (Nat.le_of_ble_eq_true rfl) (ok_X6_faultAt h60) ?_
  refine bb_fewer (L' := [.null, .null, .int x2]) (And.intro rfl trivial) ?_
  exact j_X6_readLife_63 _ _ hf
set_option maxRecDepth 100000 in
set_option maxHeartbeats 4000000 in
theorem j_X6_readLife_0 {r : Int32 × bb_H} : ∀ (x0 : Nat) (h : bb_H), m_X6_readLife x0 h = some r → bb_J RX6 cX6_readLife 3 (some .int) rm_X6_readLife (some (.int r.1), r.2) 0 [.ref x0, .null, .null] [] h := by
  intro x0 h hf
  unfold m_X6_readLife at hf
  refine bb_aload_n dX6_readLife_0 rfl ?_
  obtain ⟨g1, h1, hf⟩ := bb_bind hf
  obtain ⟨⟨v1, b1⟩, h1⟩ := bb_rcv_spec h1
  refine bb_invV (ci := 6) (as := []) iv_X6_46 (by unfold bb_rr; decide) rfl dX6_readLife_1 rfl rfl b1 (Nat.le_of_ble_eq_true rfl) (ok_X6_skipBlanks h1) ?_
  refine bb_aload_n dX6_readLife_4 rfl ?_
  obtain ⟨t5, h5, hf⟩ := bb_bind hf
  refine bb_getI fl_X6_30 dX6_readLife_5 h5 ?_
  refine bb_istore_n (L' := [.ref x0, .int t5, .null]) dX6_readLife_8 (by decide) rfl rfl ?_
  refine bb_aload_n dX6_readLife_9 rfl ?_
  obtain ⟨r10, h10, hf⟩ := bb_bind hf
  obtain ⟨⟨v10, b10⟩, h10⟩ := bb_rcv_spec h10
  refine bb_invV (ci := 6) (as := []) iv_X6_82 (by unfold bb_rr; decide) rfl dX6_readLife_10 rfl rfl b10 (Nat.le_of_ble_eq_true rfl) (ok_X6_isDigit h10) ?_
  refine bb_if_ne (tgt := 26) dX6_readLife_13 (by decide) (fun c13 => ?_) (fun c13 => ?_)
  · rw [if_neg c13] at hf
    refine bb_aload_n dX6_readLife_26 rfl ?_
    obtain ⟨r27, h27, hf⟩ := bb_bind hf
    obtain ⟨⟨v27, b27⟩, h27⟩ := bb_rcv_spec h27
    refine bb_invV (ci := 6) (as := []) iv_X6_85 (by unfold bb_rr; decide) rfl dX6_readLife_27 rfl rfl b27 (Nat.le_of_ble_eq_true rfl) (ok_X6_readDigit h27) ?_
    refine bb_istore_n (L' := [.ref x0, .int t5, .int r27.1]) dX6_readLife_30 (by decide) rfl rfl ?_
    refine bb_aload_n dX6_readLife_31 rfl ?_
    obtain ⟨r32, h32, hf⟩ := bb_bind hf
    obtain ⟨⟨v32, b32⟩, h32⟩ := bb_rcv_spec h32
    refine bb_invV (ci := 6) (as := []) iv_X6_82 (by unfold bb_rr; decide) rfl dX6_readLife_32 rfl rfl b32 (Nat.le_of_ble_eq_true rfl) (ok_X6_isDigit h32) ?_
    refine bb_if_eq (tgt := 48) dX6_readLife_35 (by decide) (fun c35 => ?_) (fun c35 => ?_)
    · rw [if_pos c35] at hf
      refine bb_fewer (L' := [.ref x0, .int t5, .int r27.1]) (And.intro rfl (And.intro rfl (And.intro rfl trivial))) ?_
      exact j_X6_readLife_48 _ _ _ _ hf
    rw [if_neg c35] at hf
    refine bb_bipush (v := 10) dX6_readLife_38 (by decide) ?_
    refine bb_iload_n dX6_readLife_40 rfl ?_
    refine bb_imul dX6_readLife_41 ?_
    refine bb_aload_n dX6_readLife_42 rfl ?_
    obtain ⟨r43, h43, hf⟩ := bb_bind hf
    obtain ⟨⟨v43, b43⟩, h43⟩ := bb_rcv_spec h43
    refine bb_invV (ci := 6) (as := []) iv_X6_85 (by unfold bb_rr; decide) rfl dX6_readLife_43 rfl rfl b43 (Nat.le_of_ble_eq_true rfl) (ok_X6_readDigit h43) ?_
    refine bb_iadd dX6_readLife_46 ?_
    refine bb_istore_n (L' := [.ref x0, .int t5, .int ((10 * r27.1) + r43.1)]) dX6_readLife_47 (by decide) rfl rfl ?_
    refine bb_fewer (L' := [.ref x0, .int t5, .int ((10 * r27.1) + r43.1)]) (And.intro rfl (And.intro rfl (And.intro rfl trivial))) ?_
    exact j_X6_readLife_48 _ _ _ _ hf
  rw [if_pos c13] at hf
  refine bb_aload_n dX6_readLife_16 rfl ?_
  refine bb_aload_n dX6_readLife_17 rfl ?_
  obtain ⟨t18, h18, hf⟩ := bb_bind hf
  refine bb_getI fl_X6_30 dX6_readLife_18 h18 ?_
  obtain ⟨g21, h21, hf⟩ := bb_bind hf
  obtain ⟨⟨v21, b21⟩, h21⟩ := bb_rcv_spec h21
  refine bb_invV (ci := 6) (as := [.int t18]) iv_X6_61 (by unfold bb_rr; decide) rfl dX6_readLife_21 rfl rfl b21 (Nat.le_of_ble_eq_true rfl) (ok_X6_faultAt h21) ?_
  refine bb_iconst (v := 0) dX6_readLife_24 (by decide) ?_
  obtain rfl := Option.some.inj hf
  exact bb_iret rfl rfl dX6_readLife_25
theorem ok_X6_readLife {x0 : Nat} {h : bb_H} {r : Int32 × bb_H} (hf : m_X6_readLife x0 h = some r) : bb_Ok yX6_readLife cX6_readLife 3 (some .int) rm_X6_readLife [.ref x0] h (some (.int r.1), r.2) :=
  bb_ok (L := [.ref x0, .null, .null]) (by decide) (Nat.le_of_ble_eq_true rfl) rfl (bb_fewer (L' := [.ref x0, .null, .null]) (And.intro rfl trivial) (j_X6_readLife_0 _ _ hf))
abbrev rm_X6_readPlaces : Room := { frames := 2, cells := 0, slots := 0, locals := 42 }
set_option maxRecDepth 100000 in
set_option maxHeartbeats 4000000 in
theorem j_X6_readPlaces_36 {r : bb_H} : ∀ (x0 : Nat) (h : bb_H), m_X6_readPlaces_36 x0 h = some r → bb_J RX6 cX6_readPlaces 2 none rm_X6_readPlaces (none, r) 36 [.ref x0, .null] [] h := by
  intro x0 h hf
  unfold m_X6_readPlaces_36 at hf
  refine bb_aload_n dX6_readPlaces_36 rfl ?_
  refine bb_aload_n dX6_readPlaces_37 rfl ?_
  obtain ⟨t38, h38, hf⟩ := bb_bind hf
  refine bb_getI fl_X6_30 dX6_readPlaces_38 h38 ?_
  obtain ⟨g41, h41, hf⟩ := bb_bind hf
  obtain ⟨⟨v41, b41⟩, h41⟩ := bb_rcv_spec h41
  refine bb_invV (ci := 6) (as := [.int t38]) iv_X6_61 (by unfold bb_rr; decide) rfl dX6_readPlaces_41 rfl rfl b41 (Nat.le_of_ble_eq_true rfl) (ok_X6_faultAt h41) ?_
  obtain rfl := Option.some.inj hf
  exact bb_vret rfl rfl dX6_readPlaces_44
set_option maxRecDepth 100000 in
set_option maxHeartbeats 4000000 in
theorem j_X6_readPlaces_2 {r : bb_H} : ∀ (n : Nat) (x0 : Nat) (x1 : Int32) (h : bb_H), m_X6_readPlaces_2 n x0 x1 h = some r → bb_J RX6 cX6_readPlaces 2 none rm_X6_readPlaces (none, r) 2 [.ref x0, .int x1] [] h := by
  intro n
  induction n with
  | zero =>
    intro x0 x1 h hf
    exact absurd hf (fun z => by cases z)
  | succ n ih =>
    intro x0 x1 h hf
    unfold m_X6_readPlaces_2 at hf
    refine bb_iload_n dX6_readPlaces_2 rfl ?_
    refine bb_iconst (v := 3) dX6_readPlaces_3 (by decide) ?_
    refine bb_icmp_ge (tgt := 63) dX6_readPlaces_4 (by decide) (fun c4 => ?_) (fun c4 => ?_)
    · rw [if_pos c4] at hf
      obtain rfl := Option.some.inj hf
      exact bb_vret rfl rfl dX6_readPlaces_63
    rw [if_neg c4] at hf
    refine bb_aload_n dX6_readPlaces_7 rfl ?_
    obtain ⟨g8, h8, hf⟩ := bb_bind hf
    obtain ⟨⟨v8, b8⟩, h8⟩ := bb_rcv_spec h8
    refine bb_invV (ci := 6) (as := []) iv_X6_46 (by unfold bb_rr; decide) rfl dX6_readPlaces_8 rfl rfl b8 (Nat.le_of_ble_eq_true rfl) (ok_X6_skipBlanks h8) ?_
    refine bb_aload_n dX6_readPlaces_11 rfl ?_
    obtain ⟨r12, h12, hf⟩ := bb_bind hf
    obtain ⟨⟨v12, b12⟩, h12⟩ := bb_rcv_spec h12
    refine bb_invV (ci := 6) (as := []) iv_X6_82 (by unfold bb_rr; decide) rfl dX6_readPlaces_12 rfl rfl b12 (Nat.le_of_ble_eq_true rfl) (ok_X6_isDigit h12) ?_
    refine bb_if_eq (tgt := 36) dX6_readPlaces_15 (by decide) (fun c15 => ?_) (fun c15 => ?_)
    · rw [if_pos c15] at hf
      refine bb_fewer (L' := [.ref x0, .null]) (And.intro rfl trivial) ?_
      exact j_X6_readPlaces_36 _ _ hf
    rw [if_neg c15] at hf
    refine bb_aload_n dX6_readPlaces_18 rfl ?_
    obtain ⟨t19, h19, hf⟩ := bb_bind hf
    refine bb_getR fl_X6_22 dX6_readPlaces_19 h19 ?_
    refine bb_iload_n dX6_readPlaces_22 rfl ?_
    refine bb_aload_n dX6_readPlaces_23 rfl ?_
    obtain ⟨r24, h24, hf⟩ := bb_bind hf
    obtain ⟨⟨v24, b24⟩, h24⟩ := bb_rcv_spec h24
    refine bb_invV (ci := 6) (as := []) iv_X6_51 (by unfold bb_rr; decide) rfl dX6_readPlaces_24 rfl rfl b24 (Nat.le_of_ble_eq_true rfl) (ok_X6_here h24) ?_
    refine bb_bipush (v := 48) dX6_readPlaces_27 (by decide) ?_
    refine bb_isub dX6_readPlaces_29 ?_
    obtain ⟨r30, h30, hf⟩ := bb_bind hf
    obtain ⟨⟨v30, b30⟩, h30⟩ := bb_rcv_spec h30
    refine bb_invV (ci := 3) (as := [.int x1, .int (r24.1 - 48)]) iv_X6_92 (by unfold bb_rr; decide) rfl dX6_readPlaces_30 rfl rfl b30 (Nat.le_of_ble_eq_true rfl) (ok_X3_isTaken h30) ?_
    refine bb_if_eq (tgt := 45) dX6_readPlaces_33 (by decide) (fun c33 => ?_) (fun c33 => ?_)
    · rw [if_pos c33] at hf
      refine bb_aload_n dX6_readPlaces_45 rfl ?_
      obtain ⟨t46, h46, hf⟩ := bb_bind hf
      refine bb_getR fl_X6_22 dX6_readPlaces_46 h46 ?_
      refine bb_iload_n dX6_readPlaces_49 rfl ?_
      refine bb_aload_n dX6_readPlaces_50 rfl ?_
      obtain ⟨r51, h51, hf⟩ := bb_bind hf
      obtain ⟨⟨v51, b51⟩, h51⟩ := bb_rcv_spec h51
      refine bb_invV (ci := 6) (as := []) iv_X6_85 (by unfold bb_rr; decide) rfl dX6_readPlaces_51 rfl rfl b51 (Nat.le_of_ble_eq_true rfl) (ok_X6_readDigit h51) ?_
      obtain ⟨g54, h54, hf⟩ := bb_bind hf
      obtain ⟨⟨v54, b54⟩, h54⟩ := bb_rcv_spec h54
      refine bb_invV (ci := 3) (as := [.int x1, .int r51.1]) iv_X6_96 (by unfold bb_rr; decide) rfl dX6_readPlaces_54 rfl rfl b54 (Nat.le_of_ble_eq_true rfl) (ok_X3_placeNext h54) ?_
      refine bb_iinc (v := x1 + 1) (L' := [.ref x0, .int (x1 + 1)]) dX6_readPlaces_57 rfl rfl (by decide) rfl rfl ?_
      refine bb_goto (tgt := 2) dX6_readPlaces_60 (by decide) ?_
      refine bb_fewer (L' := [.ref x0, .int (x1 + 1)]) (And.intro rfl (And.intro rfl trivial)) ?_
      exact ih _ _ _ hf
    rw [if_neg c33] at hf
    refine bb_fewer (L' := [.ref x0, .null]) (And.intro rfl trivial) ?_
    exact j_X6_readPlaces_36 _ _ hf
set_option maxRecDepth 100000 in
set_option maxHeartbeats 4000000 in
theorem j_X6_readPlaces_0 {r : bb_H} : ∀ (x0 : Nat) (h : bb_H), m_X6_readPlaces x0 h = some r → bb_J RX6 cX6_readPlaces 2 none rm_X6_readPlaces (none, r) 0 [.ref x0, .null] [] h := by
  intro x0 h hf
  unfold m_X6_readPlaces at hf
  refine bb_iconst (v := 0) dX6_readPlaces_0 (by decide) ?_
  refine bb_istore_n (L' := [.ref x0, .int 0]) dX6_readPlaces_1 (by decide) rfl rfl ?_
  refine bb_fewer (L' := [.ref x0, .int 0]) (And.intro rfl (And.intro rfl trivial)) ?_
  exact j_X6_readPlaces_2 _ _ _ _ hf
theorem ok_X6_readPlaces {x0 : Nat} {h : bb_H} {r : bb_H} (hf : m_X6_readPlaces x0 h = some r) : bb_Ok yX6_readPlaces cX6_readPlaces 2 none rm_X6_readPlaces [.ref x0] h (none, r) :=
  bb_ok (L := [.ref x0, .null]) (by decide) (Nat.le_of_ble_eq_true rfl) rfl (bb_fewer (L' := [.ref x0, .null]) (And.intro rfl trivial) (j_X6_readPlaces_0 _ _ hf))
abbrev rm_X6_readMan : Room := { frames := 6, cells := 0, slots := 0, locals := 150 }
set_option maxRecDepth 100000 in
set_option maxHeartbeats 4000000 in
theorem j_X6_readMan_157 {r : bb_H} : ∀ (h : bb_H), m_X6_readMan_157 h = some r → bb_J RX6 cX6_readMan 4 none rm_X6_readMan (none, r) 157 [.null, .null, .null, .null] [] h := by
  intro h hf
  unfold m_X6_readMan_157 at hf
  obtain rfl := Option.some.inj hf
  exact bb_vret rfl rfl dX6_readMan_157
set_option maxRecDepth 100000 in
set_option maxHeartbeats 4000000 in
theorem j_X6_readMan_117 {r : bb_H} : ∀ (x0 : Nat) (x2 : Int32) (x3 : Int32) (h : bb_H), m_X6_readMan_117 x0 x2 x3 h = some r → bb_J RX6 cX6_readMan 4 none rm_X6_readMan (none, r) 117 [.ref x0, .null, .int x2, .int x3] [] h := by
  intro x0 x2 x3 h hf
  unfold m_X6_readMan_117 at hf
  refine bb_aload_n dX6_readMan_117 rfl ?_
  obtain ⟨t118, h118, hf⟩ := bb_bind hf
  refine bb_getI fl_X6_33 dX6_readMan_118 h118 ?_
  refine bb_if_ne (tgt := 157) dX6_readMan_121 (by decide) (fun c121 => ?_) (fun c121 => ?_)
  · rw [if_neg c121] at hf
    refine bb_fewer (L' := [.null, .null, .null, .null]) trivial ?_
    exact j_X6_readMan_157 _ hf
  rw [if_pos c121] at hf
  refine bb_aload_n dX6_readMan_124 rfl ?_
  obtain ⟨t125, h125, hf⟩ := bb_bind hf
  refine bb_getR fl_X6_22 dX6_readMan_125 h125 ?_
  obtain ⟨t128, h128, hf⟩ := bb_bind hf
  refine bb_getI fl_X6_36 dX6_readMan_128 h128 ?_
  refine bb_bipush (v := 6) dX6_readMan_131 (by decide) ?_
  refine bb_icmp_ge (tgt := 157) dX6_readMan_133 (by decide) (fun c133 => ?_) (fun c133 => ?_)
  · rw [if_pos c133] at hf
    refine bb_fewer (L' := [.null, .null, .null, .null]) trivial ?_
    exact j_X6_readMan_157 _ hf
  rw [if_neg c133] at hf
  refine bb_aload_n dX6_readMan_136 rfl ?_
  obtain ⟨t137, h137, hf⟩ := bb_bind hf
  refine bb_getR fl_X6_26 dX6_readMan_137 h137 ?_
  refine bb_aload_n dX6_readMan_140 rfl ?_
  obtain ⟨t141, h141, hf⟩ := bb_bind hf
  refine bb_getR fl_X6_22 dX6_readMan_141 h141 ?_
  obtain ⟨t144, h144, hf⟩ := bb_bind hf
  refine bb_getI fl_X6_36 dX6_readMan_144 h144 ?_
  refine bb_iload_n dX6_readMan_147 rfl ?_
  obtain ⟨g148, h148, hf⟩ := bb_bind hf
  refine bb_iastore dX6_readMan_148 h148 ?_
  refine bb_aload_n dX6_readMan_149 rfl ?_
  obtain ⟨t150, h150, hf⟩ := bb_bind hf
  refine bb_getR fl_X6_22 dX6_readMan_150 h150 ?_
  refine bb_iload_n dX6_readMan_153 rfl ?_
  obtain ⟨g154, h154, hf⟩ := bb_bind hf
  obtain ⟨⟨v154, b154⟩, h154⟩ := bb_rcv_spec h154
  refine bb_invV (ci := 3) (as := [.int x2]) iv_X6_79 (by unfold bb_rr; decide) rfl dX6_readMan_154 rfl rfl b154 (Nat.le_of_ble_eq_true rfl) (ok_X3_adm h154) ?_
  refine bb_fewer (L' := [.null, .null, .null, .null]) trivial ?_
  exact j_X6_readMan_157 _ hf
set_option maxRecDepth 100000 in
set_option maxHeartbeats 4000000 in
theorem j_X6_readMan_0 {r : bb_H} : ∀ (x0 : Nat) (h : bb_H), m_X6_readMan x0 h = some r → bb_J RX6 cX6_readMan 4 none rm_X6_readMan (none, r) 0 [.ref x0, .null, .null, .null] [] h := by
  intro x0 h hf
  unfold m_X6_readMan at hf
  refine bb_aload_n dX6_readMan_0 rfl ?_
  obtain ⟨g1, h1, hf⟩ := bb_bind hf
  obtain ⟨⟨v1, b1⟩, h1⟩ := bb_rcv_spec h1
  refine bb_invV (ci := 6) (as := []) iv_X6_46 (by unfold bb_rr; decide) rfl dX6_readMan_1 rfl rfl b1 (Nat.le_of_ble_eq_true rfl) (ok_X6_skipBlanks h1) ?_
  refine bb_aload_n dX6_readMan_4 rfl ?_
  obtain ⟨t5, h5, hf⟩ := bb_bind hf
  refine bb_getI fl_X6_30 dX6_readMan_5 h5 ?_
  refine bb_istore_n (L' := [.ref x0, .int t5, .null, .null]) dX6_readMan_8 (by decide) rfl rfl ?_
  refine bb_ldcS dX6_readMan_9 ?_
  refine bb_aload_n dX6_readMan_11 rfl ?_
  obtain ⟨r12, h12, hf⟩ := bb_bind hf
  obtain ⟨⟨v12, b12⟩, h12⟩ := bb_rcv_spec h12
  refine bb_invV (ci := 6) (as := []) iv_X6_51 (by unfold bb_rr; decide) rfl dX6_readMan_12 rfl rfl b12 (Nat.le_of_ble_eq_true rfl) (ok_X6_here h12) ?_
  refine bb_indexOf ix_X6_55 (by decide) (by decide) (Nat.le_of_ble_eq_true rfl) dX6_readMan_15 ?_
  refine bb_istore_n (L' := [.ref x0, .int t5, .int (bb_kix r12.1), .null]) dX6_readMan_18 (by decide) rfl rfl ?_
  refine bb_iload_n dX6_readMan_19 rfl ?_
  refine bb_if_ge (tgt := 32) dX6_readMan_20 (by decide) (fun c20 => ?_) (fun c20 => ?_)
  · rw [if_pos c20] at hf
    refine bb_aload_n dX6_readMan_32 rfl ?_
    refine bb_dup dX6_readMan_33 rfl ?_
    obtain ⟨t34, h34, hf⟩ := bb_bind hf
    refine bb_getI fl_X6_30 dX6_readMan_34 h34 ?_
    refine bb_iconst (v := 1) dX6_readMan_37 (by decide) ?_
    refine bb_iadd dX6_readMan_38 ?_
    obtain ⟨g39, h39, hf⟩ := bb_bind hf
    refine bb_putI fp_X6_30 dX6_readMan_39 h39 ?_
    refine bb_aload_n dX6_readMan_42 rfl ?_
    obtain ⟨r43, h43, hf⟩ := bb_bind hf
    obtain ⟨⟨v43, b43⟩, h43⟩ := bb_rcv_spec h43
    refine bb_invV (ci := 6) (as := []) iv_X6_65 (by unfold bb_rr; decide) rfl dX6_readMan_43 rfl rfl b43 (Nat.le_of_ble_eq_true rfl) (ok_X6_readLife h43) ?_
    refine bb_istore_n (L' := [.ref x0, .int t5, .int (bb_kix r12.1), .int r43.1]) dX6_readMan_46 (by decide) rfl rfl ?_
    refine bb_aload_n dX6_readMan_47 rfl ?_
    obtain ⟨t48, h48, hf⟩ := bb_bind hf
    refine bb_getI fl_X6_33 dX6_readMan_48 h48 ?_
    refine bb_if_eq (tgt := 55) dX6_readMan_51 (by decide) (fun c51 => ?_) (fun c51 => ?_)
    · rw [if_pos c51] at hf
      refine bb_aload_n dX6_readMan_55 rfl ?_
      obtain ⟨g56, h56, hf⟩ := bb_bind hf
      obtain ⟨⟨v56, b56⟩, h56⟩ := bb_rcv_spec h56
      refine bb_invV (ci := 6) (as := []) iv_X6_46 (by unfold bb_rr; decide) rfl dX6_readMan_56 rfl rfl b56 (Nat.le_of_ble_eq_true rfl) (ok_X6_skipBlanks h56) ?_
      refine bb_aload_n dX6_readMan_59 rfl ?_
      obtain ⟨r60, h60, hf⟩ := bb_bind hf
      obtain ⟨⟨v60, b60⟩, h60⟩ := bb_rcv_spec h60
      refine bb_invV (ci := 6) (as := []) iv_X6_51 (by unfold bb_rr; decide) rfl dX6_readMan_60 rfl rfl b60 (Nat.le_of_ble_eq_true rfl) (ok_X6_here h60) ?_
      refine bb_bipush (v := 46) dX6_readMan_63 (by decide) ?_
      refine bb_icmp_ne (tgt := 85) dX6_readMan_65 (by decide) (fun c65 => ?_) (fun c65 => ?_)
      · rw [if_neg c65] at hf
        refine bb_aload_n dX6_readMan_85 rfl ?_
        obtain ⟨t86, h86, hf⟩ := bb_bind hf
        refine bb_getR fl_X6_22 dX6_readMan_86 h86 ?_
        refine bb_aload_n dX6_readMan_89 rfl ?_
        obtain ⟨t90, h90, hf⟩ := bb_bind hf
        refine bb_getR fl_X6_22 dX6_readMan_90 h90 ?_
        obtain ⟨t93, h93, hf⟩ := bb_bind hf
        refine bb_getI fl_X6_36 dX6_readMan_93 h93 ?_
        obtain ⟨r96, h96, hf⟩ := bb_bind hf
        obtain ⟨⟨v96, b96⟩, h96⟩ := bb_rcv_spec h96
        refine bb_invV (ci := 3) (as := [.int t93]) iv_X6_72 (by unfold bb_rr; decide) rfl dX6_readMan_96 rfl rfl b96 (Nat.le_of_ble_eq_true rfl) (ok_X3_isTakenAtAnyHour h96) ?_
        refine bb_if_eq (tgt := 110) dX6_readMan_99 (by decide) (fun c99 => ?_) (fun c99 => ?_)
        · rw [if_pos c99] at hf
          refine bb_aload_n dX6_readMan_110 rfl ?_
          obtain ⟨t111, h111, hf⟩ := bb_bind hf
          refine bb_getR fl_X6_22 dX6_readMan_111 h111 ?_
          obtain ⟨g114, h114, hf⟩ := bb_bind hf
          obtain ⟨⟨v114, b114⟩, h114⟩ := bb_rcv_spec h114
          refine bb_invV (ci := 3) (as := []) iv_X6_76 (by unfold bb_rr; decide) rfl dX6_readMan_114 rfl rfl b114 (Nat.le_of_ble_eq_true rfl) (ok_X3_placeNextByNumber h114) ?_
          refine bb_fewer (L' := [.ref x0, .null, .int (bb_kix r12.1), .int r43.1]) (And.intro rfl (And.intro rfl (And.intro rfl trivial))) ?_
          exact j_X6_readMan_117 _ _ _ _ hf
        rw [if_neg c99] at hf
        refine bb_aload_n dX6_readMan_102 rfl ?_
        refine bb_iload_n dX6_readMan_103 rfl ?_
        obtain ⟨g104, h104, hf⟩ := bb_bind hf
        obtain ⟨⟨v104, b104⟩, h104⟩ := bb_rcv_spec h104
        refine bb_invV (ci := 6) (as := [.int t5]) iv_X6_61 (by unfold bb_rr; decide) rfl dX6_readMan_104 rfl rfl b104 (Nat.le_of_ble_eq_true rfl) (ok_X6_faultAt h104) ?_
        refine bb_goto (tgt := 117) dX6_readMan_107 (by decide) ?_
        refine bb_fewer (L' := [.ref x0, .null, .int (bb_kix r12.1), .int r43.1]) (And.intro rfl (And.intro rfl (And.intro rfl trivial))) ?_
        exact j_X6_readMan_117 _ _ _ _ hf
      rw [if_pos c65] at hf
      refine bb_aload_n dX6_readMan_68 rfl ?_
      refine bb_dup dX6_readMan_69 rfl ?_
      obtain ⟨t70, h70, hf⟩ := bb_bind hf
      refine bb_getI fl_X6_30 dX6_readMan_70 h70 ?_
      refine bb_iconst (v := 1) dX6_readMan_73 (by decide) ?_
      refine bb_iadd dX6_readMan_74 ?_
      obtain ⟨g75, h75, hf⟩ := bb_bind hf
      refine bb_putI fp_X6_30 dX6_readMan_75 h75 ?_
      refine bb_aload_n dX6_readMan_78 rfl ?_
      obtain ⟨g79, h79, hf⟩ := bb_bind hf
      obtain ⟨⟨v79, b79⟩, h79⟩ := bb_rcv_spec h79
      refine bb_invV (ci := 6) (as := []) iv_X6_69 (by unfold bb_rr; decide) rfl dX6_readMan_79 rfl rfl b79 (Nat.le_of_ble_eq_true rfl) (ok_X6_readPlaces h79) ?_
      refine bb_goto (tgt := 117) dX6_readMan_82 (by decide) ?_
      refine bb_fewer (L' := [.ref x0, .null, .int (bb_kix r12.1), .int r43.1]) (And.intro rfl (And.intro rfl (And.intro rfl trivial))) ?_
      exact j_X6_readMan_117 _ _ _ _ hf
    rw [if_neg c51] at hf
    obtain rfl := Option.some.inj hf
    exact bb_vret rfl rfl dX6_readMan_54
  rw [if_neg c20] at hf
  refine bb_aload_n dX6_readMan_23 rfl ?_
  refine bb_aload_n dX6_readMan_24 rfl ?_
  obtain ⟨t25, h25, hf⟩ := bb_bind hf
  refine bb_getI fl_X6_30 dX6_readMan_25 h25 ?_
  obtain ⟨g28, h28, hf⟩ := bb_bind hf
  obtain ⟨⟨v28, b28⟩, h28⟩ := bb_rcv_spec h28
  refine bb_invV (ci := 6) (as := [.int t25]) iv_X6_61 (by unfold bb_rr; decide) rfl dX6_readMan_28 rfl rfl b28 (Nat.le_of_ble_eq_true rfl) (ok_X6_faultAt h28) ?_
  obtain rfl := Option.some.inj hf
  exact bb_vret rfl rfl dX6_readMan_31
theorem ok_X6_readMan {x0 : Nat} {h : bb_H} {r : bb_H} (hf : m_X6_readMan x0 h = some r) : bb_Ok yX6_readMan cX6_readMan 4 none rm_X6_readMan [.ref x0] h (none, r) :=
  bb_ok (L := [.ref x0, .null, .null, .null]) (by decide) (Nat.le_of_ble_eq_true rfl) rfl (bb_fewer (L' := [.ref x0, .null, .null, .null]) (And.intro rfl trivial) (j_X6_readMan_0 _ _ hf))
abbrev rm_X6_readComma : Room := { frames := 2, cells := 0, slots := 0, locals := 40 }
set_option maxRecDepth 100000 in
set_option maxHeartbeats 4000000 in
theorem j_X6_readComma_38 {r : Int32 × bb_H} : ∀ (x0 : Nat) (h : bb_H), m_X6_readComma_38 x0 h = some r → bb_J RX6 cX6_readComma 1 (some .boolean) rm_X6_readComma (some (.int r.1), r.2) 38 [.ref x0] [] h := by
  intro x0 h hf
  unfold m_X6_readComma_38 at hf
  refine bb_aload_n dX6_readComma_38 rfl ?_
  refine bb_aload_n dX6_readComma_39 rfl ?_
  obtain ⟨t40, h40, hf⟩ := bb_bind hf
  refine bb_getI fl_X6_30 dX6_readComma_40 h40 ?_
  obtain ⟨g43, h43, hf⟩ := bb_bind hf
  obtain ⟨⟨v43, b43⟩, h43⟩ := bb_rcv_spec h43
  refine bb_invV (ci := 6) (as := [.int t40]) iv_X6_61 (by unfold bb_rr; decide) rfl dX6_readComma_43 rfl rfl b43 (Nat.le_of_ble_eq_true rfl) (ok_X6_faultAt h43) ?_
  refine bb_iconst (v := 0) dX6_readComma_46 (by decide) ?_
  obtain rfl := Option.some.inj hf
  exact bb_zret rfl (by decide) rfl dX6_readComma_47
set_option maxRecDepth 100000 in
set_option maxHeartbeats 4000000 in
theorem j_X6_readComma_0 {r : Int32 × bb_H} : ∀ (x0 : Nat) (h : bb_H), m_X6_readComma x0 h = some r → bb_J RX6 cX6_readComma 1 (some .boolean) rm_X6_readComma (some (.int r.1), r.2) 0 [.ref x0] [] h := by
  intro x0 h hf
  unfold m_X6_readComma at hf
  refine bb_aload_n dX6_readComma_0 rfl ?_
  obtain ⟨g1, h1, hf⟩ := bb_bind hf
  obtain ⟨⟨v1, b1⟩, h1⟩ := bb_rcv_spec h1
  refine bb_invV (ci := 6) (as := []) iv_X6_46 (by unfold bb_rr; decide) rfl dX6_readComma_1 rfl rfl b1 (Nat.le_of_ble_eq_true rfl) (ok_X6_skipBlanks h1) ?_
  refine bb_aload_n dX6_readComma_4 rfl ?_
  obtain ⟨t5, h5, hf⟩ := bb_bind hf
  refine bb_getI fl_X6_30 dX6_readComma_5 h5 ?_
  refine bb_aload_n dX6_readComma_8 rfl ?_
  obtain ⟨t9, h9, hf⟩ := bb_bind hf
  refine bb_getI fl_X6_15 dX6_readComma_9 h9 ?_
  refine bb_icmp_lt (tgt := 17) dX6_readComma_12 (by decide) (fun c12 => ?_) (fun c12 => ?_)
  · rw [if_pos c12] at hf
    refine bb_aload_n dX6_readComma_17 rfl ?_
    obtain ⟨r18, h18, hf⟩ := bb_bind hf
    obtain ⟨⟨v18, b18⟩, h18⟩ := bb_rcv_spec h18
    refine bb_invV (ci := 6) (as := []) iv_X6_51 (by unfold bb_rr; decide) rfl dX6_readComma_18 rfl rfl b18 (Nat.le_of_ble_eq_true rfl) (ok_X6_here h18) ?_
    refine bb_bipush (v := 44) dX6_readComma_21 (by decide) ?_
    refine bb_icmp_ne (tgt := 38) dX6_readComma_23 (by decide) (fun c23 => ?_) (fun c23 => ?_)
    · rw [if_neg c23] at hf
      refine bb_fewer (L' := [.ref x0]) (And.intro rfl trivial) ?_
      exact j_X6_readComma_38 _ _ hf
    rw [if_pos c23] at hf
    refine bb_aload_n dX6_readComma_26 rfl ?_
    obtain ⟨t27, h27, hf⟩ := bb_bind hf
    refine bb_getR fl_X6_22 dX6_readComma_27 h27 ?_
    obtain ⟨t30, h30, hf⟩ := bb_bind hf
    refine bb_getI fl_X6_36 dX6_readComma_30 h30 ?_
    refine bb_bipush (v := 6) dX6_readComma_33 (by decide) ?_
    refine bb_icmp_lt (tgt := 48) dX6_readComma_35 (by decide) (fun c35 => ?_) (fun c35 => ?_)
    · rw [if_pos c35] at hf
      refine bb_aload_n dX6_readComma_48 rfl ?_
      refine bb_dup dX6_readComma_49 rfl ?_
      obtain ⟨t50, h50, hf⟩ := bb_bind hf
      refine bb_getI fl_X6_30 dX6_readComma_50 h50 ?_
      refine bb_iconst (v := 1) dX6_readComma_53 (by decide) ?_
      refine bb_iadd dX6_readComma_54 ?_
      obtain ⟨g55, h55, hf⟩ := bb_bind hf
      refine bb_putI fp_X6_30 dX6_readComma_55 h55 ?_
      refine bb_iconst (v := 1) dX6_readComma_58 (by decide) ?_
      obtain rfl := Option.some.inj hf
      exact bb_zret rfl (by decide) rfl dX6_readComma_59
    rw [if_neg c35] at hf
    refine bb_fewer (L' := [.ref x0]) (And.intro rfl trivial) ?_
    exact j_X6_readComma_38 _ _ hf
  rw [if_neg c12] at hf
  refine bb_iconst (v := 0) dX6_readComma_15 (by decide) ?_
  obtain rfl := Option.some.inj hf
  exact bb_zret rfl (by decide) rfl dX6_readComma_16
theorem ok_X6_readComma {x0 : Nat} {h : bb_H} {r : Int32 × bb_H} (hf : m_X6_readComma x0 h = some r) : bb_Ok yX6_readComma cX6_readComma 1 (some .boolean) rm_X6_readComma [.ref x0] h (some (.int r.1), r.2) :=
  bb_ok (L := [.ref x0]) (by decide) (Nat.le_of_ble_eq_true rfl) rfl (bb_fewer (L' := [.ref x0]) (And.intro rfl trivial) (j_X6_readComma_0 _ _ hf))
abbrev rm_X6_readBench : Room := { frames := 7, cells := 0, slots := 0, locals := 173 }
set_option maxRecDepth 100000 in
set_option maxHeartbeats 4000000 in
theorem j_X6_readBench_53 {r : Int32 × bb_H} : ∀ (x0 : Nat) (h : bb_H), m_X6_readBench_53 x0 h = some r → bb_J RX6 cX6_readBench 2 (some .int) rm_X6_readBench (some (.int r.1), r.2) 53 [.ref x0, .null] [] h := by
  intro x0 h hf
  unfold m_X6_readBench_53 at hf
  refine bb_aload_n dX6_readBench_53 rfl ?_
  obtain ⟨t54, h54, hf⟩ := bb_bind hf
  refine bb_getI fl_X6_33 dX6_readBench_54 h54 ?_
  obtain rfl := Option.some.inj hf
  exact bb_iret rfl rfl dX6_readBench_57
set_option maxRecDepth 100000 in
set_option maxHeartbeats 4000000 in
theorem j_X6_readBench_20 {r : Int32 × bb_H} : ∀ (n : Nat) (x0 : Nat) (x1 : Int32) (h : bb_H), m_X6_readBench_20 n x0 x1 h = some r → bb_J RX6 cX6_readBench 2 (some .int) rm_X6_readBench (some (.int r.1), r.2) 20 [.ref x0, .int x1] [] h := by
  intro n
  induction n with
  | zero =>
    intro x0 x1 h hf
    exact absurd hf (fun z => by cases z)
  | succ n ih =>
    intro x0 x1 h hf
    unfold m_X6_readBench_20 at hf
    refine bb_iload_n dX6_readBench_20 rfl ?_
    refine bb_bipush (v := 6) dX6_readBench_21 (by decide) ?_
    refine bb_icmp_ge (tgt := 53) dX6_readBench_23 (by decide) (fun c23 => ?_) (fun c23 => ?_)
    · rw [if_pos c23] at hf
      refine bb_fewer (L' := [.ref x0, .null]) (And.intro rfl trivial) ?_
      exact j_X6_readBench_53 _ _ hf
    rw [if_neg c23] at hf
    refine bb_aload_n dX6_readBench_26 rfl ?_
    obtain ⟨g27, h27, hf⟩ := bb_bind hf
    obtain ⟨⟨v27, b27⟩, h27⟩ := bb_rcv_spec h27
    refine bb_invV (ci := 6) (as := []) iv_X6_39 (by unfold bb_rr; decide) rfl dX6_readBench_27 rfl rfl b27 (Nat.le_of_ble_eq_true rfl) (ok_X6_readMan h27) ?_
    refine bb_aload_n dX6_readBench_30 rfl ?_
    obtain ⟨t31, h31, hf⟩ := bb_bind hf
    refine bb_getI fl_X6_33 dX6_readBench_31 h31 ?_
    refine bb_if_ne (tgt := 53) dX6_readBench_34 (by decide) (fun c34 => ?_) (fun c34 => ?_)
    · rw [if_neg c34] at hf
      refine bb_fewer (L' := [.ref x0, .null]) (And.intro rfl trivial) ?_
      exact j_X6_readBench_53 _ _ hf
    rw [if_pos c34] at hf
    refine bb_aload_n dX6_readBench_37 rfl ?_
    obtain ⟨r38, h38, hf⟩ := bb_bind hf
    obtain ⟨⟨v38, b38⟩, h38⟩ := bb_rcv_spec h38
    refine bb_invV (ci := 6) (as := []) iv_X6_42 (by unfold bb_rr; decide) rfl dX6_readBench_38 rfl rfl b38 (Nat.le_of_ble_eq_true rfl) (ok_X6_readComma h38) ?_
    refine bb_if_ne (tgt := 47) dX6_readBench_41 (by decide) (fun c41 => ?_) (fun c41 => ?_)
    · rw [if_neg c41] at hf
      refine bb_iinc (v := x1 + 1) (L' := [.ref x0, .int (x1 + 1)]) dX6_readBench_47 rfl rfl (by decide) rfl rfl ?_
      refine bb_goto (tgt := 20) dX6_readBench_50 (by decide) ?_
      refine bb_fewer (L' := [.ref x0, .int (x1 + 1)]) (And.intro rfl (And.intro rfl trivial)) ?_
      exact ih _ _ _ hf
    rw [if_pos c41] at hf
    refine bb_goto (tgt := 53) dX6_readBench_44 (by decide) ?_
    refine bb_fewer (L' := [.ref x0, .null]) (And.intro rfl trivial) ?_
    exact j_X6_readBench_53 _ _ hf
set_option maxRecDepth 100000 in
set_option maxHeartbeats 4000000 in
theorem j_X6_readBench_0 {r : Int32 × bb_H} : ∀ (x0 : Nat) (h : bb_H), m_X6_readBench x0 h = some r → bb_J RX6 cX6_readBench 2 (some .int) rm_X6_readBench (some (.int r.1), r.2) 0 [.ref x0, .null] [] h := by
  intro x0 h hf
  unfold m_X6_readBench at hf
  refine bb_aload_n dX6_readBench_0 rfl ?_
  refine bb_iconst (v := 0) dX6_readBench_1 (by decide) ?_
  obtain ⟨g2, h2, hf⟩ := bb_bind hf
  refine bb_putI fp_X6_30 dX6_readBench_2 h2 ?_
  refine bb_aload_n dX6_readBench_5 rfl ?_
  refine bb_iconst (v := 0) dX6_readBench_6 (by decide) ?_
  obtain ⟨g7, h7, hf⟩ := bb_bind hf
  refine bb_putI fp_X6_33 dX6_readBench_7 h7 ?_
  refine bb_aload_n dX6_readBench_10 rfl ?_
  obtain ⟨t11, h11, hf⟩ := bb_bind hf
  refine bb_getR fl_X6_22 dX6_readBench_11 h11 ?_
  refine bb_iconst (v := 0) dX6_readBench_14 (by decide) ?_
  obtain ⟨g15, h15, hf⟩ := bb_bind hf
  refine bb_putI fp_X6_36 dX6_readBench_15 h15 ?_
  refine bb_iconst (v := 0) dX6_readBench_18 (by decide) ?_
  refine bb_istore_n (L' := [.ref x0, .int 0]) dX6_readBench_19 (by decide) rfl rfl ?_
  refine bb_fewer (L' := [.ref x0, .int 0]) (And.intro rfl (And.intro rfl trivial)) ?_
  exact j_X6_readBench_20 _ _ _ _ hf
theorem ok_X6_readBench {x0 : Nat} {h : bb_H} {r : Int32 × bb_H} (hf : m_X6_readBench x0 h = some r) : bb_Ok yX6_readBench cX6_readBench 2 (some .int) rm_X6_readBench [.ref x0] h (some (.int r.1), r.2) :=
  bb_ok (L := [.ref x0, .null]) (by decide) (Nat.le_of_ble_eq_true rfl) rfl (bb_fewer (L' := [.ref x0, .null]) (And.intro rfl trivial) (j_X6_readBench_0 _ _ hf))
abbrev rm_X7_man : Room := { frames := 4, cells := 0, slots := 0, locals := 92 }
set_option maxRecDepth 100000 in
set_option maxHeartbeats 4000000 in
theorem j_X7_man_19 {r : Int32 × bb_H} : ∀ (h : bb_H), m_X7_man_19 h = some r → bb_J RX7 cX7_man 5 (some .int) rm_X7_man (some (.int r.1), r.2) 19 [.null, .null, .null, .null, .null] [] h := by
  intro h hf
  unfold m_X7_man_19 at hf
  refine bb_iconst (v := (-1)) dX7_man_19 (by decide) ?_
  obtain rfl := Option.some.inj hf
  exact bb_iret rfl rfl dX7_man_20
set_option maxRecDepth 100000 in
set_option maxHeartbeats 4000000 in
theorem j_X7_man_0 {r : Int32 × bb_H} : ∀ (x0 : Nat) (x1 : Int32) (x2 : Int32) (h : bb_H), m_X7_man x0 x1 x2 h = some r → bb_J RX7 cX7_man 5 (some .int) rm_X7_man (some (.int r.1), r.2) 0 [.ref x0, .int x1, .int x2, .null, .null] [] h := by
  intro x0 x1 x2 h hf
  unfold m_X7_man at hf
  refine bb_iload_n dX7_man_0 rfl ?_
  refine bb_iconst (v := 0) dX7_man_1 (by decide) ?_
  refine bb_iconst (v := 4) dX7_man_2 (by decide) ?_
  obtain ⟨r3, h3, hf⟩ := bb_bind hf
  refine bb_invS (as := [.int x1, .int 0, .int 4]) is_X7_62 (by unfold bb_rr; decide) dX7_man_3 rfl rfl (Nat.le_of_ble_eq_true rfl) (ok_X7_within h3) ?_
  refine bb_if_eq (tgt := 19) dX7_man_6 (by decide) (fun c6 => ?_) (fun c6 => ?_)
  · rw [if_pos c6] at hf
    refine bb_fewer (L' := [.null, .null, .null, .null, .null]) trivial ?_
    exact j_X7_man_19 _ hf
  rw [if_neg c6] at hf
  refine bb_iload_n dX7_man_9 rfl ?_
  refine bb_iconst (v := 1) dX7_man_10 (by decide) ?_
  refine bb_bipush (v := 60) dX7_man_11 (by decide) ?_
  obtain ⟨r13, h13, hf⟩ := bb_bind hf
  refine bb_invS (as := [.int x2, .int 1, .int 60]) is_X7_62 (by unfold bb_rr; decide) dX7_man_13 rfl rfl (Nat.le_of_ble_eq_true rfl) (ok_X7_within h13) ?_
  refine bb_if_ne (tgt := 21) dX7_man_16 (by decide) (fun c16 => ?_) (fun c16 => ?_)
  · rw [if_neg c16] at hf
    refine bb_aload_n dX7_man_21 rfl ?_
    obtain ⟨t22, h22, hf⟩ := bb_bind hf
    refine bb_getR fl_X7_12 dX7_man_22 h22 ?_
    obtain ⟨t25, h25, hf⟩ := bb_bind hf
    refine bb_getR fl_X7_66 dX7_man_25 h25 ?_
    refine bb_astore_n (L' := [.ref x0, .int x1, .int x2, .ref t25, .null]) dX7_man_28 (by decide) rfl rfl ?_
    refine bb_aload_n dX7_man_29 rfl ?_
    obtain ⟨t30, h30, hf⟩ := bb_bind hf
    refine bb_getI fl_X7_69 dX7_man_30 h30 ?_
    refine bb_istore (L' := [.ref x0, .int x1, .int x2, .ref t25, .int t30]) dX7_man_33 (by decide) rfl rfl ?_
    refine bb_iload dX7_man_35 rfl ?_
    refine bb_bipush (v := 6) dX7_man_37 (by decide) ?_
    refine bb_icmp_lt (tgt := 45) dX7_man_39 (by decide) (fun c39 => ?_) (fun c39 => ?_)
    · rw [if_pos c39] at hf
      refine bb_aload_n dX7_man_45 rfl ?_
      refine bb_iload dX7_man_46 rfl ?_
      obtain ⟨r48, h48, hf⟩ := bb_bind hf
      obtain ⟨⟨v48, b48⟩, h48⟩ := bb_rcv_spec h48
      refine bb_invV (ci := 3) (as := [.int t30]) iv_X7_73 (by unfold bb_rr; decide) rfl dX7_man_48 rfl rfl b48 (Nat.le_of_ble_eq_true rfl) (ok_X3_isTakenAtAnyHour h48) ?_
      refine bb_if_eq (tgt := 57) dX7_man_51 (by decide) (fun c51 => ?_) (fun c51 => ?_)
      · rw [if_pos c51] at hf
        refine bb_aload_n dX7_man_57 rfl ?_
        obtain ⟨g58, h58, hf⟩ := bb_bind hf
        obtain ⟨⟨v58, b58⟩, h58⟩ := bb_rcv_spec h58
        refine bb_invV (ci := 3) (as := []) iv_X7_77 (by unfold bb_rr; decide) rfl dX7_man_58 rfl rfl b58 (Nat.le_of_ble_eq_true rfl) (ok_X3_placeNextByNumber h58) ?_
        refine bb_aload_n dX7_man_61 rfl ?_
        refine bb_iload_n dX7_man_62 rfl ?_
        obtain ⟨g63, h63, hf⟩ := bb_bind hf
        obtain ⟨⟨v63, b63⟩, h63⟩ := bb_rcv_spec h63
        refine bb_invV (ci := 3) (as := [.int x1]) iv_X7_80 (by unfold bb_rr; decide) rfl dX7_man_63 rfl rfl b63 (Nat.le_of_ble_eq_true rfl) (ok_X3_adm h63) ?_
        refine bb_aload_n dX7_man_66 rfl ?_
        obtain ⟨g67, h67, hf⟩ := bb_bind hf
        obtain ⟨⟨v67, b67⟩, h67⟩ := bb_rcv_spec h67
        refine bb_invV (ci := 3) (as := []) iv_X7_84 (by unfold bb_rr; decide) rfl dX7_man_67 rfl rfl b67 (Nat.le_of_ble_eq_true rfl) (ok_X3_findWhoStoodBy h67) ?_
        refine bb_aload_n dX7_man_70 rfl ?_
        obtain ⟨t71, h71, hf⟩ := bb_bind hf
        refine bb_getR fl_X7_12 dX7_man_71 h71 ?_
        obtain ⟨t74, h74, hf⟩ := bb_bind hf
        refine bb_getR fl_X7_87 dX7_man_74 h74 ?_
        refine bb_iload dX7_man_77 rfl ?_
        refine bb_iload_n dX7_man_79 rfl ?_
        obtain ⟨g80, h80, hf⟩ := bb_bind hf
        obtain ⟨⟨v80, b80⟩, h80⟩ := bb_rcv_spec h80
        refine bb_invV (ci := 0) (as := [.int t30, .int x2]) iv_X7_90 (by unfold bb_rr; decide) rfl dX7_man_80 rfl rfl b80 (Nat.le_of_ble_eq_true rfl) (ok_X0_seatLast h80) ?_
        refine bb_aload_n dX7_man_83 rfl ?_
        obtain ⟨t84, h84, hf⟩ := bb_bind hf
        refine bb_getR fl_X7_12 dX7_man_84 h84 ?_
        obtain ⟨t87, h87, hf⟩ := bb_bind hf
        refine bb_getR fl_X7_94 dX7_man_87 h87 ?_
        obtain ⟨g90, h90, hf⟩ := bb_bind hf
        obtain ⟨⟨v90, b90⟩, h90⟩ := bb_rcv_spec h90
        refine bb_invV (ci := 1) (as := []) iv_X7_98 (by unfold bb_rr; decide) rfl dX7_man_90 rfl rfl b90 (Nat.le_of_ble_eq_true rfl) (ok_X1_forget h90) ?_
        refine bb_iload dX7_man_93 rfl ?_
        obtain rfl := Option.some.inj hf
        exact bb_iret rfl rfl dX7_man_95
      rw [if_neg c51] at hf
      refine bb_bipush (v := (-2)) dX7_man_54 (by decide) ?_
      obtain rfl := Option.some.inj hf
      exact bb_iret rfl rfl dX7_man_56
    rw [if_neg c39] at hf
    refine bb_bipush (v := (-3)) dX7_man_42 (by decide) ?_
    obtain rfl := Option.some.inj hf
    exact bb_iret rfl rfl dX7_man_44
  rw [if_pos c16] at hf
  refine bb_fewer (L' := [.null, .null, .null, .null, .null]) trivial ?_
  exact j_X7_man_19 _ hf
theorem ok_X7_man {x0 : Nat} {x1 : Int32} {x2 : Int32} {h : bb_H} {r : Int32 × bb_H} (hf : m_X7_man x0 x1 x2 h = some r) : bb_Ok yX7_man cX7_man 5 (some .int) rm_X7_man [.ref x0, .int x1, .int x2] h (some (.int r.1), r.2) :=
  bb_ok (L := [.ref x0, .int x1, .int x2, .null, .null]) (by decide) (Nat.le_of_ble_eq_true rfl) rfl (bb_fewer (L' := [.ref x0, .int x1, .int x2, .null, .null]) (And.intro rfl (And.intro rfl (And.intro rfl trivial))) (j_X7_man_0 _ _ _ _ hf))
abbrev rm_X7_isHour : Room := { frames := 1, cells := 0, slots := 0, locals := 22 }
set_option maxRecDepth 100000 in
set_option maxHeartbeats 4000000 in
theorem j_X7_isHour_0 {r : Int32 × bb_H} : ∀ (x0 : Int32) (h : bb_H), m_X7_isHour x0 h = some r → bb_J RX7 cX7_isHour 1 (some .boolean) rm_X7_isHour (some (.int r.1), r.2) 0 [.int x0] [] h := by
  intro x0 h hf
  unfold m_X7_isHour at hf
  refine bb_iload_n dX7_isHour_0 rfl ?_
  refine bb_iconst (v := 0) dX7_isHour_1 (by decide) ?_
  refine bb_iconst (v := 2) dX7_isHour_2 (by decide) ?_
  obtain ⟨r3, h3, hf⟩ := bb_bind hf
  refine bb_invS (as := [.int x0, .int 0, .int 2]) is_X7_62 (by unfold bb_rr; decide) dX7_isHour_3 rfl rfl (Nat.le_of_ble_eq_true rfl) (ok_X7_within h3) ?_
  obtain ⟨hn, rfl⟩ := bb_rz_spec hf
  exact bb_zret rfl hn rfl dX7_isHour_6
theorem ok_X7_isHour {x0 : Int32} {h : bb_H} {r : Int32 × bb_H} (hf : m_X7_isHour x0 h = some r) : bb_Ok yX7_isHour cX7_isHour 1 (some .boolean) rm_X7_isHour [.int x0] h (some (.int r.1), r.2) :=
  bb_ok (L := [.int x0]) (by decide) (Nat.le_of_ble_eq_true rfl) rfl (bb_fewer (L' := [.int x0]) (And.intro rfl trivial) (j_X7_isHour_0 _ _ hf))
abbrev rm_X7_stood : Room := { frames := 4, cells := 0, slots := 0, locals := 92 }
set_option maxRecDepth 100000 in
set_option maxHeartbeats 4000000 in
theorem j_X7_stood_35 {r : Int32 × bb_H} : ∀ (h : bb_H), m_X7_stood_35 h = some r → bb_J RX7 cX7_stood 6 (some .int) rm_X7_stood (some (.int r.1), r.2) 35 [.null, .null, .null, .null, .null, .null] [] h := by
  intro h hf
  unfold m_X7_stood_35 at hf
  refine bb_iconst (v := (-1)) dX7_stood_35 (by decide) ?_
  obtain rfl := Option.some.inj hf
  exact bb_iret rfl rfl dX7_stood_36
set_option maxRecDepth 100000 in
set_option maxHeartbeats 4000000 in
theorem j_X7_stood_0 {r : Int32 × bb_H} : ∀ (x0 : Nat) (x1 : Int32) (x2 : Int32) (x3 : Int32) (h : bb_H), m_X7_stood x0 x1 x2 x3 h = some r → bb_J RX7 cX7_stood 6 (some .int) rm_X7_stood (some (.int r.1), r.2) 0 [.ref x0, .int x1, .int x2, .int x3, .null, .null] [] h := by
  intro x0 x1 x2 x3 h hf
  unfold m_X7_stood at hf
  refine bb_aload_n dX7_stood_0 rfl ?_
  obtain ⟨t1, h1, hf⟩ := bb_bind hf
  refine bb_getR fl_X7_12 dX7_stood_1 h1 ?_
  obtain ⟨t4, h4, hf⟩ := bb_bind hf
  refine bb_getR fl_X7_66 dX7_stood_4 h4 ?_
  refine bb_astore (L' := [.ref x0, .int x1, .int x2, .int x3, .ref t4, .null]) dX7_stood_7 (by decide) rfl rfl ?_
  refine bb_aload dX7_stood_9 rfl ?_
  refine bb_iload_n dX7_stood_11 rfl ?_
  obtain ⟨r12, h12, hf⟩ := bb_bind hf
  obtain ⟨⟨v12, b12⟩, h12⟩ := bb_rcv_spec h12
  refine bb_invV (ci := 3) (as := [.int x1]) iv_X7_103 (by unfold bb_rr; decide) rfl dX7_stood_12 rfl rfl b12 (Nat.le_of_ble_eq_true rfl) (ok_X3_has h12) ?_
  refine bb_if_eq (tgt := 35) dX7_stood_15 (by decide) (fun c15 => ?_) (fun c15 => ?_)
  · rw [if_pos c15] at hf
    refine bb_fewer (L' := [.null, .null, .null, .null, .null, .null]) trivial ?_
    exact j_X7_stood_35 _ hf
  rw [if_neg c15] at hf
  refine bb_iload_n dX7_stood_18 rfl ?_
  obtain ⟨r19, h19, hf⟩ := bb_bind hf
  refine bb_invS (as := [.int x2]) is_X7_106 (by unfold bb_rr; decide) dX7_stood_19 rfl rfl (Nat.le_of_ble_eq_true rfl) (ok_X7_isHour h19) ?_
  refine bb_if_eq (tgt := 35) dX7_stood_22 (by decide) (fun c22 => ?_) (fun c22 => ?_)
  · rw [if_pos c22] at hf
    refine bb_fewer (L' := [.null, .null, .null, .null, .null, .null]) trivial ?_
    exact j_X7_stood_35 _ hf
  rw [if_neg c22] at hf
  refine bb_iload_n dX7_stood_25 rfl ?_
  refine bb_iconst (v := 0) dX7_stood_26 (by decide) ?_
  refine bb_bipush (v := 9) dX7_stood_27 (by decide) ?_
  obtain ⟨r29, h29, hf⟩ := bb_bind hf
  refine bb_invS (as := [.int x3, .int 0, .int 9]) is_X7_62 (by unfold bb_rr; decide) dX7_stood_29 rfl rfl (Nat.le_of_ble_eq_true rfl) (ok_X7_within h29) ?_
  refine bb_if_ne (tgt := 37) dX7_stood_32 (by decide) (fun c32 => ?_) (fun c32 => ?_)
  · rw [if_neg c32] at hf
    refine bb_aload dX7_stood_37 rfl ?_
    refine bb_iload_n dX7_stood_39 rfl ?_
    refine bb_iload_n dX7_stood_40 rfl ?_
    obtain ⟨r41, h41, hf⟩ := bb_bind hf
    obtain ⟨⟨v41, b41⟩, h41⟩ := bb_rcv_spec h41
    refine bb_invV (ci := 3) (as := [.int x2, .int x3]) iv_X7_109 (by unfold bb_rr; decide) rfl dX7_stood_41 rfl rfl b41 (Nat.le_of_ble_eq_true rfl) (ok_X3_isTaken h41) ?_
    refine bb_if_eq (tgt := 50) dX7_stood_44 (by decide) (fun c44 => ?_) (fun c44 => ?_)
    · rw [if_pos c44] at hf
      refine bb_aload dX7_stood_50 rfl ?_
      obtain ⟨t52, h52, hf⟩ := bb_bind hf
      refine bb_getR fl_X7_113 dX7_stood_52 h52 ?_
      refine bb_iload_n dX7_stood_55 rfl ?_
      obtain ⟨t56, h56, hf⟩ := bb_bind hf
      refine bb_aaload (t0 := 5) (fun _ => rfl) rfl (fun _ _ => rfl) dX7_stood_56 h56 ?_
      refine bb_iload_n dX7_stood_57 rfl ?_
      obtain ⟨t58, h58, hf⟩ := bb_bind hf
      refine bb_iaload dX7_stood_58 h58 ?_
      refine bb_istore (L' := [.ref x0, .int x1, .int x2, .int x3, .ref t4, .int t58]) dX7_stood_59 (by decide) rfl rfl ?_
      refine bb_aload dX7_stood_61 rfl ?_
      obtain ⟨t63, h63, hf⟩ := bb_bind hf
      refine bb_getR fl_X7_113 dX7_stood_63 h63 ?_
      refine bb_iload_n dX7_stood_66 rfl ?_
      obtain ⟨t67, h67, hf⟩ := bb_bind hf
      refine bb_aaload (t0 := 5) (fun _ => rfl) rfl (fun _ _ => rfl) dX7_stood_67 h67 ?_
      refine bb_iload_n dX7_stood_68 rfl ?_
      refine bb_iload_n dX7_stood_69 rfl ?_
      obtain ⟨g70, h70, hf⟩ := bb_bind hf
      refine bb_iastore dX7_stood_70 h70 ?_
      refine bb_aload dX7_stood_71 rfl ?_
      obtain ⟨g73, h73, hf⟩ := bb_bind hf
      obtain ⟨⟨v73, b73⟩, h73⟩ := bb_rcv_spec h73
      refine bb_invV (ci := 3) (as := []) iv_X7_84 (by unfold bb_rr; decide) rfl dX7_stood_73 rfl rfl b73 (Nat.le_of_ble_eq_true rfl) (ok_X3_findWhoStoodBy h73) ?_
      refine bb_iload dX7_stood_76 rfl ?_
      obtain rfl := Option.some.inj hf
      exact bb_iret rfl rfl dX7_stood_78
    rw [if_neg c44] at hf
    refine bb_bipush (v := (-2)) dX7_stood_47 (by decide) ?_
    obtain rfl := Option.some.inj hf
    exact bb_iret rfl rfl dX7_stood_49
  rw [if_pos c32] at hf
  refine bb_fewer (L' := [.null, .null, .null, .null, .null, .null]) trivial ?_
  exact j_X7_stood_35 _ hf
theorem ok_X7_stood {x0 : Nat} {x1 : Int32} {x2 : Int32} {x3 : Int32} {h : bb_H} {r : Int32 × bb_H} (hf : m_X7_stood x0 x1 x2 x3 h = some r) : bb_Ok yX7_stood cX7_stood 6 (some .int) rm_X7_stood [.ref x0, .int x1, .int x2, .int x3] h (some (.int r.1), r.2) :=
  bb_ok (L := [.ref x0, .int x1, .int x2, .int x3, .null, .null]) (by decide) (Nat.le_of_ble_eq_true rfl) rfl (bb_fewer (L' := [.ref x0, .int x1, .int x2, .int x3, .null, .null]) (And.intro rfl (And.intro rfl (And.intro rfl (And.intro rfl trivial)))) (j_X7_stood_0 _ _ _ _ _ hf))
abbrev rm_X7_of : Room := { frames := 3, cells := 0, slots := 0, locals := 68 }
set_option maxRecDepth 100000 in
set_option maxHeartbeats 4000000 in
theorem j_X7_of_102 {r : Int32 × bb_H} : ∀ (x1 : Int32) (x2 : Int32) (x3 : Nat) (h : bb_H), m_X7_of_102 x1 x2 x3 h = some r → bb_J RX7 cX7_of 5 (some .int) rm_X7_of (some (.int r.1), r.2) 102 [.null, .int x1, .int x2, .ref x3, .null] [] h := by
  intro x1 x2 x3 h hf
  unfold m_X7_of_102 at hf
  refine bb_aload_n dX7_of_102 rfl ?_
  obtain ⟨t103, h103, hf⟩ := bb_bind hf
  refine bb_getR fl_X7_113 dX7_of_103 h103 ?_
  refine bb_iload_n dX7_of_106 rfl ?_
  refine bb_iconst (v := 3) dX7_of_107 (by decide) ?_
  refine bb_isub dX7_of_108 ?_
  obtain ⟨t109, h109, hf⟩ := bb_bind hf
  refine bb_aaload (t0 := 5) (fun _ => rfl) rfl (fun _ _ => rfl) dX7_of_109 h109 ?_
  refine bb_iload_n dX7_of_110 rfl ?_
  obtain ⟨t111, h111, hf⟩ := bb_bind hf
  refine bb_iaload dX7_of_111 h111 ?_
  obtain rfl := Option.some.inj hf
  exact bb_iret rfl rfl dX7_of_112
set_option maxRecDepth 100000 in
set_option maxHeartbeats 4000000 in
theorem j_X7_of_0 {r : Int32 × bb_H} : ∀ (x0 : Nat) (x1 : Int32) (x2 : Int32) (h : bb_H), m_X7_of x0 x1 x2 h = some r → bb_J RX7 cX7_of 5 (some .int) rm_X7_of (some (.int r.1), r.2) 0 [.ref x0, .int x1, .int x2, .null, .null] [] h := by
  intro x0 x1 x2 h hf
  unfold m_X7_of at hf
  refine bb_aload_n dX7_of_0 rfl ?_
  obtain ⟨t1, h1, hf⟩ := bb_bind hf
  refine bb_getR fl_X7_12 dX7_of_1 h1 ?_
  obtain ⟨t4, h4, hf⟩ := bb_bind hf
  refine bb_getR fl_X7_66 dX7_of_4 h4 ?_
  refine bb_astore_n (L' := [.ref x0, .int x1, .int x2, .ref t4, .null]) dX7_of_7 (by decide) rfl rfl ?_
  refine bb_aload_n dX7_of_8 rfl ?_
  refine bb_iload_n dX7_of_9 rfl ?_
  obtain ⟨r10, h10, hf⟩ := bb_bind hf
  obtain ⟨⟨v10, b10⟩, h10⟩ := bb_rcv_spec h10
  refine bb_invV (ci := 3) (as := [.int x1]) iv_X7_103 (by unfold bb_rr; decide) rfl dX7_of_10 rfl rfl b10 (Nat.le_of_ble_eq_true rfl) (ok_X3_has h10) ?_
  refine bb_if_ne (tgt := 18) dX7_of_13 (by decide) (fun c13 => ?_) (fun c13 => ?_)
  · rw [if_neg c13] at hf
    refine bb_aload_n dX7_of_18 rfl ?_
    obtain ⟨t19, h19, hf⟩ := bb_bind hf
    refine bb_getR fl_X7_12 dX7_of_19 h19 ?_
    obtain ⟨t22, h22, hf⟩ := bb_bind hf
    refine bb_getR fl_X7_87 dX7_of_22 h22 ?_
    refine bb_astore (L' := [.ref x0, .int x1, .int x2, .ref t4, .ref t22]) dX7_of_25 (by decide) rfl rfl ?_
    refine bb_iload_n dX7_of_27 rfl ?_
    by_cases c28_0 : x2 = 0
    · rw [if_pos c28_0] at hf
      refine bb_tableIn (tgt := 80) dX7_of_28 (by rw [c28_0]; decide) (by rw [c28_0]; decide) (off := 52) (by rw [c28_0]; decide) (by decide) ?_
      refine bb_aload_n dX7_of_80 rfl ?_
      obtain ⟨t81, h81, hf⟩ := bb_bind hf
      refine bb_getR fl_X7_117 dX7_of_81 h81 ?_
      refine bb_iload_n dX7_of_84 rfl ?_
      obtain ⟨t85, h85, hf⟩ := bb_bind hf
      refine bb_iaload dX7_of_85 h85 ?_
      obtain rfl := Option.some.inj hf
      exact bb_iret rfl rfl dX7_of_86
    rw [if_neg c28_0] at hf
    by_cases c28_1 : x2 = 1
    · rw [if_pos c28_1] at hf
      refine bb_tableIn (tgt := 87) dX7_of_28 (by rw [c28_1]; decide) (by rw [c28_1]; decide) (off := 59) (by rw [c28_1]; decide) (by decide) ?_
      refine bb_aload dX7_of_87 rfl ?_
      obtain ⟨t89, h89, hf⟩ := bb_bind hf
      refine bb_getR fl_X7_120 dX7_of_89 h89 ?_
      refine bb_iload_n dX7_of_92 rfl ?_
      obtain ⟨t93, h93, hf⟩ := bb_bind hf
      refine bb_iaload dX7_of_93 h93 ?_
      obtain rfl := Option.some.inj hf
      exact bb_iret rfl rfl dX7_of_94
    rw [if_neg c28_1] at hf
    by_cases c28_2 : x2 = 2
    · rw [if_pos c28_2] at hf
      refine bb_tableIn (tgt := 95) dX7_of_28 (by rw [c28_2]; decide) (by rw [c28_2]; decide) (off := 67) (by rw [c28_2]; decide) (by decide) ?_
      refine bb_aload dX7_of_95 rfl ?_
      refine bb_iload_n dX7_of_97 rfl ?_
      obtain ⟨r98, h98, hf⟩ := bb_bind hf
      obtain ⟨⟨v98, b98⟩, h98⟩ := bb_rcv_spec h98
      refine bb_invV (ci := 0) (as := [.int x1]) iv_X7_123 (by unfold bb_rr; decide) rfl dX7_of_98 rfl rfl b98 (Nat.le_of_ble_eq_true rfl) (ok_X0_seatOf h98) ?_
      obtain rfl := Option.some.inj hf
      exact bb_iret rfl rfl dX7_of_101
    rw [if_neg c28_2] at hf
    by_cases c28_3 : x2 = 3
    · rw [if_pos c28_3] at hf
      refine bb_tableIn (tgt := 102) dX7_of_28 (by rw [c28_3]; decide) (by rw [c28_3]; decide) (off := 74) (by rw [c28_3]; decide) (by decide) ?_
      refine bb_fewer (L' := [.null, .int x1, .int x2, .ref t4, .null]) (And.intro rfl (And.intro rfl (And.intro rfl trivial))) ?_
      exact j_X7_of_102 _ _ _ _ hf
    rw [if_neg c28_3] at hf
    by_cases c28_4 : x2 = 4
    · rw [if_pos c28_4] at hf
      refine bb_tableIn (tgt := 102) dX7_of_28 (by rw [c28_4]; decide) (by rw [c28_4]; decide) (off := 74) (by rw [c28_4]; decide) (by decide) ?_
      refine bb_fewer (L' := [.null, .int x1, .int x2, .ref t4, .null]) (And.intro rfl (And.intro rfl (And.intro rfl trivial))) ?_
      exact j_X7_of_102 _ _ _ _ hf
    rw [if_neg c28_4] at hf
    by_cases c28_5 : x2 = 5
    · rw [if_pos c28_5] at hf
      refine bb_tableIn (tgt := 102) dX7_of_28 (by rw [c28_5]; decide) (by rw [c28_5]; decide) (off := 74) (by rw [c28_5]; decide) (by decide) ?_
      refine bb_fewer (L' := [.null, .int x1, .int x2, .ref t4, .null]) (And.intro rfl (And.intro rfl (And.intro rfl trivial))) ?_
      exact j_X7_of_102 _ _ _ _ hf
    rw [if_neg c28_5] at hf
    by_cases c28_6 : x2 = 6
    · rw [if_pos c28_6] at hf
      refine bb_tableIn (tgt := 113) dX7_of_28 (by rw [c28_6]; decide) (by rw [c28_6]; decide) (off := 85) (by rw [c28_6]; decide) (by decide) ?_
      refine bb_aload_n dX7_of_113 rfl ?_
      obtain ⟨t114, h114, hf⟩ := bb_bind hf
      refine bb_getR fl_X7_127 dX7_of_114 h114 ?_
      refine bb_iload_n dX7_of_117 rfl ?_
      obtain ⟨t118, h118, hf⟩ := bb_bind hf
      refine bb_iaload dX7_of_118 h118 ?_
      obtain rfl := Option.some.inj hf
      exact bb_iret rfl rfl dX7_of_119
    rw [if_neg c28_6] at hf
    by_cases c28_7 : x2 = 7
    · rw [if_pos c28_7] at hf
      refine bb_tableIn (tgt := 120) dX7_of_28 (by rw [c28_7]; decide) (by rw [c28_7]; decide) (off := 92) (by rw [c28_7]; decide) (by decide) ?_
      refine bb_aload dX7_of_120 rfl ?_
      refine bb_iload_n dX7_of_122 rfl ?_
      obtain ⟨r123, h123, hf⟩ := bb_bind hf
      obtain ⟨⟨v123, b123⟩, h123⟩ := bb_rcv_spec h123
      refine bb_invV (ci := 0) (as := [.int x1]) iv_X7_130 (by unfold bb_rr; decide) rfl dX7_of_123 rfl rfl b123 (Nat.le_of_ble_eq_true rfl) (ok_X0_whoSitsBy h123) ?_
      obtain rfl := Option.some.inj hf
      exact bb_iret rfl rfl dX7_of_126
    rw [if_neg c28_7] at hf
    by_cases c28_8 : x2 = 8
    · rw [if_pos c28_8] at hf
      refine bb_tableIn (tgt := 127) dX7_of_28 (by rw [c28_8]; decide) (by rw [c28_8]; decide) (off := 99) (by rw [c28_8]; decide) (by decide) ?_
      refine bb_aload dX7_of_127 rfl ?_
      refine bb_iload_n dX7_of_129 rfl ?_
      refine bb_aload_n dX7_of_130 rfl ?_
      obtain ⟨r131, h131, hf⟩ := bb_bind hf
      obtain ⟨⟨v131, b131⟩, h131⟩ := bb_rcv_spec h131
      refine bb_invV (ci := 0) (as := [.int x1, .ref t4]) iv_X7_133 (by unfold bb_rr; decide) rfl dX7_of_131 rfl rfl b131 (Nat.le_of_ble_eq_true rfl) (ok_X0_lossOf h131) ?_
      obtain rfl := Option.some.inj hf
      exact bb_iret rfl rfl dX7_of_134
    rw [if_neg c28_8] at hf
    refine bb_tableOut (tgt := 135) dX7_of_28 (bb_swout x2 0 8 (by decide) (fun n q1 q2 => by rcases (show n = 0 ∨ n = 1 ∨ n = 2 ∨ n = 3 ∨ n = 4 ∨ n = 5 ∨ n = 6 ∨ n = 7 ∨ n = 8 by omega) with rfl | rfl | rfl | rfl | rfl | rfl | rfl | rfl | rfl <;> assumption)) (by decide) ?_
    refine bb_iconst (v := (-1)) dX7_of_135 (by decide) ?_
    obtain rfl := Option.some.inj hf
    exact bb_iret rfl rfl dX7_of_136
  rw [if_pos c13] at hf
  refine bb_iconst (v := (-1)) dX7_of_16 (by decide) ?_
  obtain rfl := Option.some.inj hf
  exact bb_iret rfl rfl dX7_of_17
theorem ok_X7_of {x0 : Nat} {x1 : Int32} {x2 : Int32} {h : bb_H} {r : Int32 × bb_H} (hf : m_X7_of x0 x1 x2 h = some r) : bb_Ok yX7_of cX7_of 5 (some .int) rm_X7_of [.ref x0, .int x1, .int x2] h (some (.int r.1), r.2) :=
  bb_ok (L := [.ref x0, .int x1, .int x2, .null, .null]) (by decide) (Nat.le_of_ble_eq_true rfl) rfl (bb_fewer (L' := [.ref x0, .int x1, .int x2, .null, .null]) (And.intro rfl (And.intro rfl (And.intro rfl trivial))) (j_X7_of_0 _ _ _ _ hf))
abbrev rm_X7_seat : Room := { frames := 2, cells := 0, slots := 0, locals := 43 }
set_option maxRecDepth 100000 in
set_option maxHeartbeats 4000000 in
theorem j_X7_seat_19 {r : Int32 × bb_H} : ∀ (z0 : Int32) (h : bb_H), m_X7_seat_19 z0 h = some r → bb_J RX7 cX7_seat 2 (some .int) rm_X7_seat (some (.int r.1), r.2) 19 [.null, .null] [.int z0] h := by
  intro z0 h hf
  unfold m_X7_seat_19 at hf
  obtain rfl := Option.some.inj hf
  exact bb_iret rfl rfl dX7_seat_19
set_option maxRecDepth 100000 in
set_option maxHeartbeats 4000000 in
theorem j_X7_seat_0 {r : Int32 × bb_H} : ∀ (x0 : Nat) (x1 : Int32) (h : bb_H), m_X7_seat x0 x1 h = some r → bb_J RX7 cX7_seat 2 (some .int) rm_X7_seat (some (.int r.1), r.2) 0 [.ref x0, .int x1] [] h := by
  intro x0 x1 h hf
  unfold m_X7_seat at hf
  refine bb_iload_n dX7_seat_0 rfl ?_
  refine bb_if_ge (tgt := 8) dX7_seat_1 (by decide) (fun c1 => ?_) (fun c1 => ?_)
  · rw [if_pos c1] at hf
    refine bb_aload_n dX7_seat_8 rfl ?_
    obtain ⟨t9, h9, hf⟩ := bb_bind hf
    refine bb_getR fl_X7_12 dX7_seat_9 h9 ?_
    obtain ⟨t12, h12, hf⟩ := bb_bind hf
    refine bb_getR fl_X7_87 dX7_seat_12 h12 ?_
    refine bb_iload_n dX7_seat_15 rfl ?_
    obtain ⟨r16, h16, hf⟩ := bb_bind hf
    obtain ⟨⟨v16, b16⟩, h16⟩ := bb_rcv_spec h16
    refine bb_invV (ci := 0) (as := [.int x1]) iv_X7_137 (by unfold bb_rr; decide) rfl dX7_seat_16 rfl rfl b16 (Nat.le_of_ble_eq_true rfl) (ok_X0_whoIsOn h16) ?_
    refine bb_fewer (L' := [.null, .null]) trivial ?_
    exact j_X7_seat_19 _ _ hf
  rw [if_neg c1] at hf
  refine bb_iconst (v := (-1)) dX7_seat_4 (by decide) ?_
  refine bb_goto (tgt := 19) dX7_seat_5 (by decide) ?_
  refine bb_fewer (L' := [.null, .null]) trivial ?_
  exact j_X7_seat_19 _ _ hf
theorem ok_X7_seat {x0 : Nat} {x1 : Int32} {h : bb_H} {r : Int32 × bb_H} (hf : m_X7_seat x0 x1 h = some r) : bb_Ok yX7_seat cX7_seat 2 (some .int) rm_X7_seat [.ref x0, .int x1] h (some (.int r.1), r.2) :=
  bb_ok (L := [.ref x0, .int x1]) (by decide) (Nat.le_of_ble_eq_true rfl) rfl (bb_fewer (L' := [.ref x0, .int x1]) (And.intro rfl (And.intro rfl trivial)) (j_X7_seat_0 _ _ _ hf))
abbrev rm_X7_type : Room := { frames := 1, cells := 0, slots := 0, locals := 22 }
set_option maxRecDepth 100000 in
set_option maxHeartbeats 4000000 in
theorem j_X7_type_0 {r : Int32 × bb_H} : ∀ (x0 : Nat) (x1 : Int32) (h : bb_H), m_X7_type x0 x1 h = some r → bb_J RX7 cX7_type 2 (some .int) rm_X7_type (some (.int r.1), r.2) 0 [.ref x0, .int x1] [] h := by
  intro x0 x1 h hf
  unfold m_X7_type at hf
  refine bb_iload_n dX7_type_0 rfl ?_
  refine bb_bipush (v := 32) dX7_type_1 (by decide) ?_
  refine bb_bipush (v := 126) dX7_type_3 (by decide) ?_
  obtain ⟨r5, h5, hf⟩ := bb_bind hf
  refine bb_invS (as := [.int x1, .int 32, .int 126]) is_X7_62 (by unfold bb_rr; decide) dX7_type_5 rfl rfl (Nat.le_of_ble_eq_true rfl) (ok_X7_within h5) ?_
  refine bb_if_ne (tgt := 13) dX7_type_8 (by decide) (fun c8 => ?_) (fun c8 => ?_)
  · rw [if_neg c8] at hf
    refine bb_aload_n dX7_type_13 rfl ?_
    obtain ⟨t14, h14, hf⟩ := bb_bind hf
    refine bb_getR fl_X7_26 dX7_type_14 h14 ?_
    obtain ⟨t17, h17, hf⟩ := bb_bind hf
    refine bb_getI fl_X7_140 dX7_type_17 h17 ?_
    refine bb_bipush (v := 70) dX7_type_20 (by decide) ?_
    refine bb_icmp_lt (tgt := 28) dX7_type_22 (by decide) (fun c22 => ?_) (fun c22 => ?_)
    · rw [if_pos c22] at hf
      refine bb_aload_n dX7_type_28 rfl ?_
      obtain ⟨t29, h29, hf⟩ := bb_bind hf
      refine bb_getR fl_X7_26 dX7_type_29 h29 ?_
      refine bb_iload_n dX7_type_32 rfl ?_
      refine bb_i2c dX7_type_33 ?_
      obtain ⟨g34, h34, hf⟩ := bb_bind hf
      obtain ⟨⟨v34, b34⟩, h34⟩ := bb_rcv_spec h34
      refine bb_invV (ci := 6) (as := [.int (((x1 : Int32).toUInt32 % 65536).toInt32)]) iv_X7_143 (by unfold bb_rr; decide) rfl dX7_type_34 rfl rfl b34 (Nat.le_of_ble_eq_true rfl) (ok_X6_add h34) ?_
      refine bb_aload_n dX7_type_37 rfl ?_
      obtain ⟨t38, h38, hf⟩ := bb_bind hf
      refine bb_getR fl_X7_26 dX7_type_38 h38 ?_
      obtain ⟨t41, h41, hf⟩ := bb_bind hf
      refine bb_getI fl_X7_140 dX7_type_41 h41 ?_
      obtain rfl := Option.some.inj hf
      exact bb_iret rfl rfl dX7_type_44
    rw [if_neg c22] at hf
    refine bb_bipush (v := (-3)) dX7_type_25 (by decide) ?_
    obtain rfl := Option.some.inj hf
    exact bb_iret rfl rfl dX7_type_27
  rw [if_pos c8] at hf
  refine bb_iconst (v := (-1)) dX7_type_11 (by decide) ?_
  obtain rfl := Option.some.inj hf
  exact bb_iret rfl rfl dX7_type_12
theorem ok_X7_type {x0 : Nat} {x1 : Int32} {h : bb_H} {r : Int32 × bb_H} (hf : m_X7_type x0 x1 h = some r) : bb_Ok yX7_type cX7_type 2 (some .int) rm_X7_type [.ref x0, .int x1] h (some (.int r.1), r.2) :=
  bb_ok (L := [.ref x0, .int x1]) (by decide) (Nat.le_of_ble_eq_true rfl) rfl (bb_fewer (L' := [.ref x0, .int x1]) (And.intro rfl (And.intro rfl trivial)) (j_X7_type_0 _ _ _ hf))
abbrev rm_X7_read : Room := { frames := 8, cells := 0, slots := 0, locals := 194 }
set_option maxRecDepth 100000 in
set_option maxHeartbeats 4000000 in
theorem j_X7_read_0 {r : Int32 × bb_H} : ∀ (x0 : Nat) (h : bb_H), m_X7_read x0 h = some r → bb_J RX7 cX7_read 2 (some .int) rm_X7_read (some (.int r.1), r.2) 0 [.ref x0, .null] [] h := by
  intro x0 h hf
  unfold m_X7_read at hf
  refine bb_aload_n dX7_read_0 rfl ?_
  obtain ⟨t1, h1, hf⟩ := bb_bind hf
  refine bb_getR fl_X7_26 dX7_read_1 h1 ?_
  obtain ⟨r4, h4, hf⟩ := bb_bind hf
  obtain ⟨⟨v4, b4⟩, h4⟩ := bb_rcv_spec h4
  refine bb_invV (ci := 6) (as := []) iv_X7_147 (by unfold bb_rr; decide) rfl dX7_read_4 rfl rfl b4 (Nat.le_of_ble_eq_true rfl) (ok_X6_readBench h4) ?_
  refine bb_istore_n (L' := [.ref x0, .int r4.1]) dX7_read_7 (by decide) rfl rfl ?_
  refine bb_aload_n dX7_read_8 rfl ?_
  obtain ⟨t9, h9, hf⟩ := bb_bind hf
  refine bb_getR fl_X7_26 dX7_read_9 h9 ?_
  refine bb_iconst (v := 0) dX7_read_12 (by decide) ?_
  obtain ⟨g13, h13, hf⟩ := bb_bind hf
  refine bb_putI fp_X7_140 dX7_read_13 h13 ?_
  refine bb_iload_n dX7_read_16 rfl ?_
  refine bb_if_eq (tgt := 22) dX7_read_17 (by decide) (fun c17 => ?_) (fun c17 => ?_)
  · rw [if_pos c17] at hf
    refine bb_aload_n dX7_read_22 rfl ?_
    obtain ⟨t23, h23, hf⟩ := bb_bind hf
    refine bb_getR fl_X7_12 dX7_read_23 h23 ?_
    obtain ⟨t26, h26, hf⟩ := bb_bind hf
    refine bb_getR fl_X7_66 dX7_read_26 h26 ?_
    refine bb_aload_n dX7_read_29 rfl ?_
    obtain ⟨t30, h30, hf⟩ := bb_bind hf
    refine bb_getR fl_X7_26 dX7_read_30 h30 ?_
    obtain ⟨t33, h33, hf⟩ := bb_bind hf
    refine bb_getR fl_X7_151 dX7_read_33 h33 ?_
    obtain ⟨g36, h36, hf⟩ := bb_bind hf
    obtain ⟨⟨v36, b36⟩, h36⟩ := bb_rcv_spec h36
    refine bb_invV (ci := 3) (as := [.ref t33]) iv_X7_152 (by unfold bb_rr; decide) rfl dX7_read_36 rfl rfl b36 (Nat.le_of_ble_eq_true rfl) (ok_X3_takeFrom h36) ?_
    refine bb_aload_n dX7_read_39 rfl ?_
    obtain ⟨t40, h40, hf⟩ := bb_bind hf
    refine bb_getR fl_X7_12 dX7_read_40 h40 ?_
    obtain ⟨t43, h43, hf⟩ := bb_bind hf
    refine bb_getR fl_X7_66 dX7_read_43 h43 ?_
    obtain ⟨g46, h46, hf⟩ := bb_bind hf
    obtain ⟨⟨v46, b46⟩, h46⟩ := bb_rcv_spec h46
    refine bb_invV (ci := 3) (as := []) iv_X7_84 (by unfold bb_rr; decide) rfl dX7_read_46 rfl rfl b46 (Nat.le_of_ble_eq_true rfl) (ok_X3_findWhoStoodBy h46) ?_
    refine bb_aload_n dX7_read_49 rfl ?_
    obtain ⟨t50, h50, hf⟩ := bb_bind hf
    refine bb_getR fl_X7_12 dX7_read_50 h50 ?_
    obtain ⟨t53, h53, hf⟩ := bb_bind hf
    refine bb_getR fl_X7_87 dX7_read_53 h53 ?_
    refine bb_aload_n dX7_read_56 rfl ?_
    obtain ⟨t57, h57, hf⟩ := bb_bind hf
    refine bb_getR fl_X7_26 dX7_read_57 h57 ?_
    obtain ⟨t60, h60, hf⟩ := bb_bind hf
    refine bb_getR fl_X7_151 dX7_read_60 h60 ?_
    obtain ⟨t63, h63, hf⟩ := bb_bind hf
    refine bb_getI fl_X7_69 dX7_read_63 h63 ?_
    refine bb_aload_n dX7_read_66 rfl ?_
    obtain ⟨t67, h67, hf⟩ := bb_bind hf
    refine bb_getR fl_X7_26 dX7_read_67 h67 ?_
    obtain ⟨t70, h70, hf⟩ := bb_bind hf
    refine bb_getR fl_X7_156 dX7_read_70 h70 ?_
    obtain ⟨g73, h73, hf⟩ := bb_bind hf
    obtain ⟨⟨v73, b73⟩, h73⟩ := bb_rcv_spec h73
    refine bb_invV (ci := 0) (as := [.int t63, .ref t70]) iv_X7_157 (by unfold bb_rr; decide) rfl dX7_read_73 rfl rfl b73 (Nat.le_of_ble_eq_true rfl) (ok_X0_seatAll h73) ?_
    refine bb_aload_n dX7_read_76 rfl ?_
    obtain ⟨t77, h77, hf⟩ := bb_bind hf
    refine bb_getR fl_X7_12 dX7_read_77 h77 ?_
    obtain ⟨t80, h80, hf⟩ := bb_bind hf
    refine bb_getR fl_X7_94 dX7_read_80 h80 ?_
    obtain ⟨g83, h83, hf⟩ := bb_bind hf
    obtain ⟨⟨v83, b83⟩, h83⟩ := bb_rcv_spec h83
    refine bb_invV (ci := 1) (as := []) iv_X7_98 (by unfold bb_rr; decide) rfl dX7_read_83 rfl rfl b83 (Nat.le_of_ble_eq_true rfl) (ok_X1_forget h83) ?_
    refine bb_aload_n dX7_read_86 rfl ?_
    obtain ⟨t87, h87, hf⟩ := bb_bind hf
    refine bb_getR fl_X7_12 dX7_read_87 h87 ?_
    obtain ⟨t90, h90, hf⟩ := bb_bind hf
    refine bb_getR fl_X7_66 dX7_read_90 h90 ?_
    obtain ⟨t93, h93, hf⟩ := bb_bind hf
    refine bb_getI fl_X7_69 dX7_read_93 h93 ?_
    obtain rfl := Option.some.inj hf
    exact bb_iret rfl rfl dX7_read_96
  rw [if_neg c17] at hf
  refine bb_iload_n dX7_read_20 rfl ?_
  obtain rfl := Option.some.inj hf
  exact bb_iret rfl rfl dX7_read_21
theorem ok_X7_read {x0 : Nat} {h : bb_H} {r : Int32 × bb_H} (hf : m_X7_read x0 h = some r) : bb_Ok yX7_read cX7_read 2 (some .int) rm_X7_read [.ref x0] h (some (.int r.1), r.2) :=
  bb_ok (L := [.ref x0, .null]) (by decide) (Nat.le_of_ble_eq_true rfl) rfl (bb_fewer (L' := [.ref x0, .null]) (And.intro rfl trivial) (j_X7_read_0 _ _ hf))
abbrev rm_X7_count : Room := { frames := 2, cells := 0, slots := 0, locals := 45 }
set_option maxRecDepth 100000 in
set_option maxHeartbeats 4000000 in
theorem j_X7_count_0 {r : Int32 × bb_H} : ∀ (x0 : Nat) (x1 : Int32) (h : bb_H), m_X7_count x0 x1 h = some r → bb_J RX7 cX7_count 3 (some .int) rm_X7_count (some (.int r.1), r.2) 0 [.ref x0, .int x1, .null] [] h := by
  intro x0 x1 h hf
  unfold m_X7_count at hf
  refine bb_aload_n dX7_count_0 rfl ?_
  obtain ⟨t1, h1, hf⟩ := bb_bind hf
  refine bb_getR fl_X7_12 dX7_count_1 h1 ?_
  obtain ⟨t4, h4, hf⟩ := bb_bind hf
  refine bb_getR fl_X7_87 dX7_count_4 h4 ?_
  refine bb_astore_n (L' := [.ref x0, .int x1, .ref t4]) dX7_count_7 (by decide) rfl rfl ?_
  refine bb_iload_n dX7_count_8 rfl ?_
  by_cases c9_0 : x1 = 0
  · rw [if_pos c9_0] at hf
    refine bb_tableIn (tgt := 52) dX7_count_9 (by rw [c9_0]; decide) (by rw [c9_0]; decide) (off := 43) (by rw [c9_0]; decide) (by decide) ?_
    refine bb_aload_n dX7_count_52 rfl ?_
    obtain ⟨t53, h53, hf⟩ := bb_bind hf
    refine bb_getR fl_X7_12 dX7_count_53 h53 ?_
    obtain ⟨t56, h56, hf⟩ := bb_bind hf
    refine bb_getR fl_X7_66 dX7_count_56 h56 ?_
    obtain ⟨t59, h59, hf⟩ := bb_bind hf
    refine bb_getI fl_X7_69 dX7_count_59 h59 ?_
    obtain rfl := Option.some.inj hf
    exact bb_iret rfl rfl dX7_count_62
  rw [if_neg c9_0] at hf
  by_cases c9_1 : x1 = 1
  · rw [if_pos c9_1] at hf
    refine bb_tableIn (tgt := 63) dX7_count_9 (by rw [c9_1]; decide) (by rw [c9_1]; decide) (off := 54) (by rw [c9_1]; decide) (by decide) ?_
    refine bb_aload_n dX7_count_63 rfl ?_
    obtain ⟨t64, h64, hf⟩ := bb_bind hf
    refine bb_getI fl_X7_161 dX7_count_64 h64 ?_
    obtain rfl := Option.some.inj hf
    exact bb_iret rfl rfl dX7_count_67
  rw [if_neg c9_1] at hf
  by_cases c9_2 : x1 = 2
  · rw [if_pos c9_2] at hf
    refine bb_tableIn (tgt := 68) dX7_count_9 (by rw [c9_2]; decide) (by rw [c9_2]; decide) (off := 59) (by rw [c9_2]; decide) (by decide) ?_
    refine bb_aload_n dX7_count_68 rfl ?_
    obtain ⟨t69, h69, hf⟩ := bb_bind hf
    refine bb_getI fl_X7_164 dX7_count_69 h69 ?_
    obtain rfl := Option.some.inj hf
    exact bb_iret rfl rfl dX7_count_72
  rw [if_neg c9_2] at hf
  by_cases c9_3 : x1 = 3
  · rw [if_pos c9_3] at hf
    refine bb_tableIn (tgt := 73) dX7_count_9 (by rw [c9_3]; decide) (by rw [c9_3]; decide) (off := 64) (by rw [c9_3]; decide) (by decide) ?_
    refine bb_aload_n dX7_count_73 rfl ?_
    obtain ⟨r74, h74, hf⟩ := bb_bind hf
    obtain ⟨⟨v74, b74⟩, h74⟩ := bb_rcv_spec h74
    refine bb_invV (ci := 0) (as := []) iv_X7_167 (by unfold bb_rr; decide) rfl dX7_count_74 rfl rfl b74 (Nat.le_of_ble_eq_true rfl) (ok_X0_whoSits h74) ?_
    obtain rfl := Option.some.inj hf
    exact bb_iret rfl rfl dX7_count_77
  rw [if_neg c9_3] at hf
  by_cases c9_4 : x1 = 4
  · rw [if_pos c9_4] at hf
    refine bb_tableIn (tgt := 78) dX7_count_9 (by rw [c9_4]; decide) (by rw [c9_4]; decide) (off := 69) (by rw [c9_4]; decide) (by decide) ?_
    refine bb_aload_n dX7_count_78 rfl ?_
    obtain ⟨r79, h79, hf⟩ := bb_bind hf
    obtain ⟨⟨v79, b79⟩, h79⟩ := bb_rcv_spec h79
    refine bb_invV (ci := 0) (as := []) iv_X7_170 (by unfold bb_rr; decide) rfl dX7_count_79 rfl rfl b79 (Nat.le_of_ble_eq_true rfl) (ok_X0_lifeOfAll h79) ?_
    obtain rfl := Option.some.inj hf
    exact bb_iret rfl rfl dX7_count_82
  rw [if_neg c9_4] at hf
  by_cases c9_5 : x1 = 5
  · rw [if_pos c9_5] at hf
    refine bb_tableIn (tgt := 83) dX7_count_9 (by rw [c9_5]; decide) (by rw [c9_5]; decide) (off := 74) (by rw [c9_5]; decide) (by decide) ?_
    refine bb_aload_n dX7_count_83 rfl ?_
    obtain ⟨t84, h84, hf⟩ := bb_bind hf
    refine bb_getR fl_X7_12 dX7_count_84 h84 ?_
    obtain ⟨t87, h87, hf⟩ := bb_bind hf
    refine bb_getR fl_X7_66 dX7_count_87 h87 ?_
    refine bb_aload_n dX7_count_90 rfl ?_
    obtain ⟨t91, h91, hf⟩ := bb_bind hf
    refine bb_getR fl_X7_173 dX7_count_91 h91 ?_
    refine bb_aload_n dX7_count_94 rfl ?_
    obtain ⟨t95, h95, hf⟩ := bb_bind hf
    refine bb_getI fl_X7_161 dX7_count_95 h95 ?_
    obtain ⟨r98, h98, hf⟩ := bb_bind hf
    obtain ⟨⟨v98, b98⟩, h98⟩ := bb_rcv_spec h98
    refine bb_invV (ci := 3) (as := [.ref t91, .int t95]) iv_X7_176 (by unfold bb_rr; decide) rfl dX7_count_98 rfl rfl b98 (Nat.le_of_ble_eq_true rfl) (ok_X3_wrongPairs h98) ?_
    obtain rfl := Option.some.inj hf
    exact bb_iret rfl rfl dX7_count_101
  rw [if_neg c9_5] at hf
  by_cases c9_6 : x1 = 6
  · rw [if_pos c9_6] at hf
    refine bb_tableIn (tgt := 102) dX7_count_9 (by rw [c9_6]; decide) (by rw [c9_6]; decide) (off := 93) (by rw [c9_6]; decide) (by decide) ?_
    refine bb_aload_n dX7_count_102 rfl ?_
    obtain ⟨t103, h103, hf⟩ := bb_bind hf
    refine bb_getR fl_X7_12 dX7_count_103 h103 ?_
    obtain ⟨t106, h106, hf⟩ := bb_bind hf
    refine bb_getR fl_X7_94 dX7_count_106 h106 ?_
    obtain ⟨t109, h109, hf⟩ := bb_bind hf
    refine bb_getI fl_X7_180 dX7_count_109 h109 ?_
    obtain rfl := Option.some.inj hf
    exact bb_iret rfl rfl dX7_count_112
  rw [if_neg c9_6] at hf
  refine bb_tableOut (tgt := 113) dX7_count_9 (bb_swout x1 0 6 (by decide) (fun n q1 q2 => by rcases (show n = 0 ∨ n = 1 ∨ n = 2 ∨ n = 3 ∨ n = 4 ∨ n = 5 ∨ n = 6 by omega) with rfl | rfl | rfl | rfl | rfl | rfl | rfl <;> assumption)) (by decide) ?_
  refine bb_iconst (v := (-1)) dX7_count_113 (by decide) ?_
  obtain rfl := Option.some.inj hf
  exact bb_iret rfl rfl dX7_count_114
theorem ok_X7_count {x0 : Nat} {x1 : Int32} {h : bb_H} {r : Int32 × bb_H} (hf : m_X7_count x0 x1 h = some r) : bb_Ok yX7_count cX7_count 3 (some .int) rm_X7_count [.ref x0, .int x1] h (some (.int r.1), r.2) :=
  bb_ok (L := [.ref x0, .int x1, .null]) (by decide) (Nat.le_of_ble_eq_true rfl) rfl (bb_fewer (L' := [.ref x0, .int x1, .null]) (And.intro rfl (And.intro rfl trivial)) (j_X7_count_0 _ _ _ hf))
abbrev rm_X7_goOn : Room := { frames := 4, cells := 0, slots := 0, locals := 85 }
set_option maxRecDepth 100000 in
set_option maxHeartbeats 4000000 in
theorem j_X7_goOn_63 {r : Int32 × bb_H} {k38 : Nat → Int32 → Int32 → Nat → Int32 → bb_H → Option (Int32 × bb_H)} (hk38 : ∀ (x0 : Nat) (x1 : Int32) (x2 : Int32) (x3 : Nat) (x4 : Int32) (h : bb_H), k38 x0 x1 x2 x3 x4 h = some r → bb_J RX7 cX7_goOn 5 (some .int) rm_X7_goOn (some (.int r.1), r.2) 38 [.ref x0, .int x1, .int x2, .ref x3, .int x4] [] h) : ∀ (x0 : Nat) (x1 : Int32) (x2 : Int32) (x3 : Nat) (x4 : Int32) (h : bb_H), m_X7_goOn_63 k38 x0 x1 x2 x3 x4 h = some r → bb_J RX7 cX7_goOn 5 (some .int) rm_X7_goOn (some (.int r.1), r.2) 63 [.ref x0, .int x1, .int x2, .ref x3, .int x4] [] h := by
  intro x0 x1 x2 x3 x4 h hf
  unfold m_X7_goOn_63 at hf
  refine bb_aload_n dX7_goOn_63 rfl ?_
  refine bb_aload_n dX7_goOn_64 rfl ?_
  obtain ⟨t65, h65, hf⟩ := bb_bind hf
  refine bb_getR fl_X7_12 dX7_goOn_65 h65 ?_
  obtain ⟨t68, h68, hf⟩ := bb_bind hf
  refine bb_getR fl_X7_66 dX7_goOn_68 h68 ?_
  obtain ⟨g71, h71, hf⟩ := bb_bind hf
  obtain ⟨⟨v71, b71⟩, h71⟩ := bb_rcv_spec h71
  refine bb_invV (ci := 0) (as := [.ref t68]) iv_X7_212 (by unfold bb_rr; decide) rfl dX7_goOn_71 rfl rfl b71 (Nat.le_of_ble_eq_true rfl) (ok_X0_passYear h71) ?_
  refine bb_iinc (v := x4 + 1) (L' := [.ref x0, .int x1, .int x2, .ref x3, .int (x4 + 1)]) dX7_goOn_74 rfl rfl (by decide) rfl rfl ?_
  refine bb_goto (tgt := 38) dX7_goOn_77 (by decide) ?_
  refine bb_fewer (L' := [.ref x0, .int x1, .int x2, .ref x3, .int (x4 + 1)]) (And.intro rfl (And.intro rfl (And.intro rfl (And.intro rfl (And.intro rfl trivial))))) ?_
  exact hk38 _ _ _ _ _ _ hf
set_option maxRecDepth 100000 in
set_option maxHeartbeats 4000000 in
theorem j_X7_goOn_38 {r : Int32 × bb_H} : ∀ (n : Nat) (x0 : Nat) (x1 : Int32) (x2 : Int32) (x3 : Nat) (x4 : Int32) (h : bb_H), m_X7_goOn_38 n x0 x1 x2 x3 x4 h = some r → bb_J RX7 cX7_goOn 5 (some .int) rm_X7_goOn (some (.int r.1), r.2) 38 [.ref x0, .int x1, .int x2, .ref x3, .int x4] [] h := by
  intro n
  induction n with
  | zero =>
    intro x0 x1 x2 x3 x4 h hf
    exact absurd hf (fun z => by cases z)
  | succ n ih =>
    intro x0 x1 x2 x3 x4 h hf
    unfold m_X7_goOn_38 at hf
    refine bb_iload dX7_goOn_38 rfl ?_
    refine bb_iload_n dX7_goOn_40 rfl ?_
    refine bb_icmp_ge (tgt := 80) dX7_goOn_41 (by decide) (fun c41 => ?_) (fun c41 => ?_)
    · rw [if_pos c41] at hf
      refine bb_aload_n dX7_goOn_80 rfl ?_
      obtain ⟨r81, h81, hf⟩ := bb_bind hf
      obtain ⟨⟨v81, b81⟩, h81⟩ := bb_rcv_spec h81
      refine bb_invV (ci := 0) (as := []) iv_X7_167 (by unfold bb_rr; decide) rfl dX7_goOn_81 rfl rfl b81 (Nat.le_of_ble_eq_true rfl) (ok_X0_whoSits h81) ?_
      obtain rfl := Option.some.inj hf
      exact bb_iret rfl rfl dX7_goOn_84
    rw [if_neg c41] at hf
    refine bb_aload_n dX7_goOn_44 rfl ?_
    obtain ⟨t45, h45, hf⟩ := bb_bind hf
    refine bb_getR fl_X7_12 dX7_goOn_45 h45 ?_
    obtain ⟨t48, h48, hf⟩ := bb_bind hf
    refine bb_getR fl_X7_94 dX7_goOn_48 h48 ?_
    refine bb_aload_n dX7_goOn_51 rfl ?_
    obtain ⟨g52, h52, hf⟩ := bb_bind hf
    obtain ⟨⟨v52, b52⟩, h52⟩ := bb_rcv_spec h52
    refine bb_invV (ci := 1) (as := [.ref x3]) iv_X7_190 (by unfold bb_rr; decide) rfl dX7_goOn_52 rfl rfl b52 (Nat.le_of_ble_eq_true rfl) (ok_X1_keep h52) ?_
    refine bb_iload_n dX7_goOn_55 rfl ?_
    refine bb_if_eq (tgt := 63) dX7_goOn_56 (by decide) (fun c56 => ?_) (fun c56 => ?_)
    · rw [if_pos c56] at hf
      refine bb_fewer (L' := [.ref x0, .int x1, .int x2, .ref x3, .int x4]) (And.intro rfl (And.intro rfl (And.intro rfl (And.intro rfl (And.intro rfl trivial))))) ?_
      exact j_X7_goOn_63 ih _ _ _ _ _ _ hf
    rw [if_neg c56] at hf
    refine bb_aload_n dX7_goOn_59 rfl ?_
    obtain ⟨g60, h60, hf⟩ := bb_bind hf
    obtain ⟨⟨v60, b60⟩, h60⟩ := bb_rcv_spec h60
    refine bb_invV (ci := 0) (as := []) iv_X7_209 (by unfold bb_rr; decide) rfl dX7_goOn_60 rfl rfl b60 (Nat.le_of_ble_eq_true rfl) (ok_X0_moveByDraw h60) ?_
    refine bb_fewer (L' := [.ref x0, .int x1, .int x2, .ref x3, .int x4]) (And.intro rfl (And.intro rfl (And.intro rfl (And.intro rfl (And.intro rfl trivial))))) ?_
    exact j_X7_goOn_63 ih _ _ _ _ _ _ hf
set_option maxRecDepth 100000 in
set_option maxHeartbeats 4000000 in
theorem j_X7_goOn_0 {r : Int32 × bb_H} : ∀ (x0 : Nat) (x1 : Int32) (x2 : Int32) (h : bb_H), m_X7_goOn x0 x1 x2 h = some r → bb_J RX7 cX7_goOn 5 (some .int) rm_X7_goOn (some (.int r.1), r.2) 0 [.ref x0, .int x1, .int x2, .null, .null] [] h := by
  intro x0 x1 x2 h hf
  unfold m_X7_goOn at hf
  refine bb_iload_n dX7_goOn_0 rfl ?_
  refine bb_iconst (v := 1) dX7_goOn_1 (by decide) ?_
  refine bb_bipush (v := 40) dX7_goOn_2 (by decide) ?_
  obtain ⟨r4, h4, hf⟩ := bb_bind hf
  refine bb_invS (as := [.int x1, .int 1, .int 40]) is_X7_62 (by unfold bb_rr; decide) dX7_goOn_4 rfl rfl (Nat.le_of_ble_eq_true rfl) (ok_X7_within h4) ?_
  refine bb_if_ne (tgt := 12) dX7_goOn_7 (by decide) (fun c7 => ?_) (fun c7 => ?_)
  · rw [if_neg c7] at hf
    refine bb_aload_n dX7_goOn_12 rfl ?_
    obtain ⟨t13, h13, hf⟩ := bb_bind hf
    refine bb_getR fl_X7_12 dX7_goOn_13 h13 ?_
    obtain ⟨t16, h16, hf⟩ := bb_bind hf
    refine bb_getR fl_X7_87 dX7_goOn_16 h16 ?_
    refine bb_astore_n (L' := [.ref x0, .int x1, .int x2, .ref t16, .null]) dX7_goOn_19 (by decide) rfl rfl ?_
    refine bb_aload_n dX7_goOn_20 rfl ?_
    obtain ⟨t21, h21, hf⟩ := bb_bind hf
    refine bb_getI fl_X7_164 dX7_goOn_21 h21 ?_
    refine bb_iload_n dX7_goOn_24 rfl ?_
    refine bb_iadd dX7_goOn_25 ?_
    refine bb_sipush (v := 9999) dX7_goOn_26 (by decide) ?_
    refine bb_icmp_le (tgt := 35) dX7_goOn_29 (by decide) (fun c29 => ?_) (fun c29 => ?_)
    · rw [if_pos c29] at hf
      refine bb_iconst (v := 0) dX7_goOn_35 (by decide) ?_
      refine bb_istore (L' := [.ref x0, .int x1, .int x2, .ref t16, .int 0]) dX7_goOn_36 (by decide) rfl rfl ?_
      refine bb_fewer (L' := [.ref x0, .int x1, .int x2, .ref t16, .int 0]) (And.intro rfl (And.intro rfl (And.intro rfl (And.intro rfl (And.intro rfl trivial))))) ?_
      exact j_X7_goOn_38 _ _ _ _ _ _ _ hf
    rw [if_neg c29] at hf
    refine bb_bipush (v := (-3)) dX7_goOn_32 (by decide) ?_
    obtain rfl := Option.some.inj hf
    exact bb_iret rfl rfl dX7_goOn_34
  rw [if_pos c7] at hf
  refine bb_iconst (v := (-1)) dX7_goOn_10 (by decide) ?_
  obtain rfl := Option.some.inj hf
  exact bb_iret rfl rfl dX7_goOn_11
theorem ok_X7_goOn {x0 : Nat} {x1 : Int32} {x2 : Int32} {h : bb_H} {r : Int32 × bb_H} (hf : m_X7_goOn x0 x1 x2 h = some r) : bb_Ok yX7_goOn cX7_goOn 5 (some .int) rm_X7_goOn [.ref x0, .int x1, .int x2] h (some (.int r.1), r.2) :=
  bb_ok (L := [.ref x0, .int x1, .int x2, .null, .null]) (by decide) (Nat.le_of_ble_eq_true rfl) rfl (bb_fewer (L' := [.ref x0, .int x1, .int x2, .null, .null]) (And.intro rfl (And.intro rfl (And.intro rfl trivial))) (j_X7_goOn_0 _ _ _ _ hf))
abbrev rm_X7_years : Room := { frames := 5, cells := 0, slots := 0, locals := 109 }
set_option maxRecDepth 100000 in
set_option maxHeartbeats 4000000 in
theorem j_X7_years_0 {r : Int32 × bb_H} : ∀ (x0 : Nat) (x1 : Int32) (h : bb_H), m_X7_years x0 x1 h = some r → bb_J RX7 cX7_years 2 (some .int) rm_X7_years (some (.int r.1), r.2) 0 [.ref x0, .int x1] [] h := by
  intro x0 x1 h hf
  unfold m_X7_years at hf
  refine bb_aload_n dX7_years_0 rfl ?_
  refine bb_iload_n dX7_years_1 rfl ?_
  refine bb_iconst (v := 0) dX7_years_2 (by decide) ?_
  obtain ⟨r3, h3, hf⟩ := bb_bind hf
  obtain ⟨⟨v3, b3⟩, h3⟩ := bb_rcv_spec h3
  refine bb_invV (ci := 7) (as := [.int x1, .int 0]) iv_X7_183 (by unfold bb_rr; decide) rfl dX7_years_3 rfl rfl b3 (Nat.le_of_ble_eq_true rfl) (ok_X7_goOn h3) ?_
  obtain rfl := Option.some.inj hf
  exact bb_iret rfl rfl dX7_years_6
theorem ok_X7_years {x0 : Nat} {x1 : Int32} {h : bb_H} {r : Int32 × bb_H} (hf : m_X7_years x0 x1 h = some r) : bb_Ok yX7_years cX7_years 2 (some .int) rm_X7_years [.ref x0, .int x1] h (some (.int r.1), r.2) :=
  bb_ok (L := [.ref x0, .int x1]) (by decide) (Nat.le_of_ble_eq_true rfl) rfl (bb_fewer (L' := [.ref x0, .int x1]) (And.intro rfl (And.intro rfl trivial)) (j_X7_years_0 _ _ _ hf))
abbrev rm_X7_move : Room := { frames := 3, cells := 0, slots := 0, locals := 65 }
set_option maxRecDepth 100000 in
set_option maxHeartbeats 4000000 in
theorem j_X7_move_0 {r : Int32 × bb_H} : ∀ (x0 : Nat) (x1 : Int32) (h : bb_H), m_X7_move x0 x1 h = some r → bb_J RX7 cX7_move 3 (some .int) rm_X7_move (some (.int r.1), r.2) 0 [.ref x0, .int x1, .null] [] h := by
  intro x0 x1 h hf
  unfold m_X7_move at hf
  refine bb_aload_n dX7_move_0 rfl ?_
  obtain ⟨t1, h1, hf⟩ := bb_bind hf
  refine bb_getR fl_X7_12 dX7_move_1 h1 ?_
  obtain ⟨t4, h4, hf⟩ := bb_bind hf
  refine bb_getR fl_X7_87 dX7_move_4 h4 ?_
  refine bb_astore_n (L' := [.ref x0, .int x1, .ref t4]) dX7_move_7 (by decide) rfl rfl ?_
  refine bb_aload_n dX7_move_8 rfl ?_
  refine bb_iload_n dX7_move_9 rfl ?_
  obtain ⟨r10, h10, hf⟩ := bb_bind hf
  obtain ⟨⟨v10, b10⟩, h10⟩ := bb_rcv_spec h10
  refine bb_invV (ci := 0) (as := [.int x1]) iv_X7_187 (by unfold bb_rr; decide) rfl dX7_move_10 rfl rfl b10 (Nat.le_of_ble_eq_true rfl) (ok_X0_hasPairAt h10) ?_
  refine bb_if_ne (tgt := 18) dX7_move_13 (by decide) (fun c13 => ?_) (fun c13 => ?_)
  · rw [if_neg c13] at hf
    refine bb_aload_n dX7_move_18 rfl ?_
    obtain ⟨t19, h19, hf⟩ := bb_bind hf
    refine bb_getR fl_X7_12 dX7_move_19 h19 ?_
    obtain ⟨t22, h22, hf⟩ := bb_bind hf
    refine bb_getR fl_X7_94 dX7_move_22 h22 ?_
    refine bb_aload_n dX7_move_25 rfl ?_
    obtain ⟨g26, h26, hf⟩ := bb_bind hf
    obtain ⟨⟨v26, b26⟩, h26⟩ := bb_rcv_spec h26
    refine bb_invV (ci := 1) (as := [.ref t4]) iv_X7_190 (by unfold bb_rr; decide) rfl dX7_move_26 rfl rfl b26 (Nat.le_of_ble_eq_true rfl) (ok_X1_keep h26) ?_
    refine bb_aload_n dX7_move_29 rfl ?_
    refine bb_iload_n dX7_move_30 rfl ?_
    obtain ⟨g31, h31, hf⟩ := bb_bind hf
    obtain ⟨⟨v31, b31⟩, h31⟩ := bb_rcv_spec h31
    refine bb_invV (ci := 0) (as := [.int x1]) iv_X7_194 (by unfold bb_rr; decide) rfl dX7_move_31 rfl rfl b31 (Nat.le_of_ble_eq_true rfl) (ok_X0_swapAt h31) ?_
    refine bb_aload_n dX7_move_34 rfl ?_
    refine bb_iload_n dX7_move_35 rfl ?_
    obtain ⟨r36, h36, hf⟩ := bb_bind hf
    obtain ⟨⟨v36, b36⟩, h36⟩ := bb_rcv_spec h36
    refine bb_invV (ci := 0) (as := [.int x1]) iv_X7_137 (by unfold bb_rr; decide) rfl dX7_move_36 rfl rfl b36 (Nat.le_of_ble_eq_true rfl) (ok_X0_whoIsOn h36) ?_
    obtain rfl := Option.some.inj hf
    exact bb_iret rfl rfl dX7_move_39
  rw [if_pos c13] at hf
  refine bb_iconst (v := (-1)) dX7_move_16 (by decide) ?_
  obtain rfl := Option.some.inj hf
  exact bb_iret rfl rfl dX7_move_17
theorem ok_X7_move {x0 : Nat} {x1 : Int32} {h : bb_H} {r : Int32 × bb_H} (hf : m_X7_move x0 x1 h = some r) : bb_Ok yX7_move cX7_move 3 (some .int) rm_X7_move [.ref x0, .int x1] h (some (.int r.1), r.2) :=
  bb_ok (L := [.ref x0, .int x1, .null]) (by decide) (Nat.le_of_ble_eq_true rfl) rfl (bb_fewer (L' := [.ref x0, .int x1, .null]) (And.intro rfl (And.intro rfl trivial)) (j_X7_move_0 _ _ _ hf))
abbrev rm_X7_nurse : Room := { frames := 2, cells := 0, slots := 0, locals := 43 }
set_option maxRecDepth 100000 in
set_option maxHeartbeats 4000000 in
theorem j_X7_nurse_24 {r : Int32 × bb_H} : ∀ (h : bb_H), m_X7_nurse_24 h = some r → bb_J RX7 cX7_nurse 4 (some .int) rm_X7_nurse (some (.int r.1), r.2) 24 [.null, .null, .null, .null] [] h := by
  intro h hf
  unfold m_X7_nurse_24 at hf
  refine bb_iconst (v := (-1)) dX7_nurse_24 (by decide) ?_
  obtain rfl := Option.some.inj hf
  exact bb_iret rfl rfl dX7_nurse_25
set_option maxRecDepth 100000 in
set_option maxHeartbeats 4000000 in
theorem j_X7_nurse_0 {r : Int32 × bb_H} : ∀ (x0 : Nat) (x1 : Int32) (x2 : Int32) (h : bb_H), m_X7_nurse x0 x1 x2 h = some r → bb_J RX7 cX7_nurse 4 (some .int) rm_X7_nurse (some (.int r.1), r.2) 0 [.ref x0, .int x1, .int x2, .null] [] h := by
  intro x0 x1 x2 h hf
  unfold m_X7_nurse at hf
  refine bb_aload_n dX7_nurse_0 rfl ?_
  obtain ⟨t1, h1, hf⟩ := bb_bind hf
  refine bb_getR fl_X7_12 dX7_nurse_1 h1 ?_
  obtain ⟨t4, h4, hf⟩ := bb_bind hf
  refine bb_getR fl_X7_66 dX7_nurse_4 h4 ?_
  refine bb_iload_n dX7_nurse_7 rfl ?_
  obtain ⟨r8, h8, hf⟩ := bb_bind hf
  obtain ⟨⟨v8, b8⟩, h8⟩ := bb_rcv_spec h8
  refine bb_invV (ci := 3) (as := [.int x1]) iv_X7_103 (by unfold bb_rr; decide) rfl dX7_nurse_8 rfl rfl b8 (Nat.le_of_ble_eq_true rfl) (ok_X3_has h8) ?_
  refine bb_if_eq (tgt := 24) dX7_nurse_11 (by decide) (fun c11 => ?_) (fun c11 => ?_)
  · rw [if_pos c11] at hf
    refine bb_fewer (L' := [.null, .null, .null, .null]) trivial ?_
    exact j_X7_nurse_24 _ hf
  rw [if_neg c11] at hf
  refine bb_iload_n dX7_nurse_14 rfl ?_
  refine bb_iconst (v := 1) dX7_nurse_15 (by decide) ?_
  refine bb_bipush (v := 60) dX7_nurse_16 (by decide) ?_
  obtain ⟨r18, h18, hf⟩ := bb_bind hf
  refine bb_invS (as := [.int x2, .int 1, .int 60]) is_X7_62 (by unfold bb_rr; decide) dX7_nurse_18 rfl rfl (Nat.le_of_ble_eq_true rfl) (ok_X7_within h18) ?_
  refine bb_if_ne (tgt := 26) dX7_nurse_21 (by decide) (fun c21 => ?_) (fun c21 => ?_)
  · rw [if_neg c21] at hf
    refine bb_aload_n dX7_nurse_26 rfl ?_
    obtain ⟨t27, h27, hf⟩ := bb_bind hf
    refine bb_getR fl_X7_12 dX7_nurse_27 h27 ?_
    obtain ⟨t30, h30, hf⟩ := bb_bind hf
    refine bb_getR fl_X7_87 dX7_nurse_30 h30 ?_
    refine bb_astore_n (L' := [.ref x0, .int x1, .int x2, .ref t30]) dX7_nurse_33 (by decide) rfl rfl ?_
    refine bb_aload_n dX7_nurse_34 rfl ?_
    refine bb_iload_n dX7_nurse_35 rfl ?_
    obtain ⟨r36, h36, hf⟩ := bb_bind hf
    obtain ⟨⟨v36, b36⟩, h36⟩ := bb_rcv_spec h36
    refine bb_invV (ci := 0) (as := [.int x1]) iv_X7_123 (by unfold bb_rr; decide) rfl dX7_nurse_36 rfl rfl b36 (Nat.le_of_ble_eq_true rfl) (ok_X0_seatOf h36) ?_
    refine bb_bipush (v := (-4)) dX7_nurse_39 (by decide) ?_
    refine bb_icmp_ne (tgt := 47) dX7_nurse_41 (by decide) (fun c41 => ?_) (fun c41 => ?_)
    · rw [if_neg c41] at hf
      refine bb_aload_n dX7_nurse_47 rfl ?_
      obtain ⟨t48, h48, hf⟩ := bb_bind hf
      refine bb_getR fl_X7_12 dX7_nurse_48 h48 ?_
      obtain ⟨t51, h51, hf⟩ := bb_bind hf
      refine bb_getR fl_X7_94 dX7_nurse_51 h51 ?_
      refine bb_aload_n dX7_nurse_54 rfl ?_
      obtain ⟨g55, h55, hf⟩ := bb_bind hf
      obtain ⟨⟨v55, b55⟩, h55⟩ := bb_rcv_spec h55
      refine bb_invV (ci := 1) (as := [.ref t30]) iv_X7_190 (by unfold bb_rr; decide) rfl dX7_nurse_55 rfl rfl b55 (Nat.le_of_ble_eq_true rfl) (ok_X1_keep h55) ?_
      refine bb_aload_n dX7_nurse_58 rfl ?_
      obtain ⟨t59, h59, hf⟩ := bb_bind hf
      refine bb_getR fl_X7_120 dX7_nurse_59 h59 ?_
      refine bb_iload_n dX7_nurse_62 rfl ?_
      refine bb_bipush (v := 60) dX7_nurse_63 (by decide) ?_
      refine bb_aload_n dX7_nurse_65 rfl ?_
      obtain ⟨t66, h66, hf⟩ := bb_bind hf
      refine bb_getR fl_X7_120 dX7_nurse_66 h66 ?_
      refine bb_iload_n dX7_nurse_69 rfl ?_
      obtain ⟨t70, h70, hf⟩ := bb_bind hf
      refine bb_iaload dX7_nurse_70 h70 ?_
      refine bb_iload_n dX7_nurse_71 rfl ?_
      refine bb_iadd dX7_nurse_72 ?_
      refine bb_mmin imin_X7_197 (by decide) (by decide) (Nat.le_of_ble_eq_true rfl) dX7_nurse_73 ?_
      obtain ⟨g76, h76, hf⟩ := bb_bind hf
      refine bb_iastore dX7_nurse_76 h76 ?_
      refine bb_aload_n dX7_nurse_77 rfl ?_
      obtain ⟨t78, h78, hf⟩ := bb_bind hf
      refine bb_getR fl_X7_120 dX7_nurse_78 h78 ?_
      refine bb_iload_n dX7_nurse_81 rfl ?_
      obtain ⟨t82, h82, hf⟩ := bb_bind hf
      refine bb_iaload dX7_nurse_82 h82 ?_
      obtain rfl := Option.some.inj hf
      exact bb_iret rfl rfl dX7_nurse_83
    rw [if_pos c41] at hf
    refine bb_bipush (v := (-2)) dX7_nurse_44 (by decide) ?_
    obtain rfl := Option.some.inj hf
    exact bb_iret rfl rfl dX7_nurse_46
  rw [if_pos c21] at hf
  refine bb_fewer (L' := [.null, .null, .null, .null]) trivial ?_
  exact j_X7_nurse_24 _ hf
theorem ok_X7_nurse {x0 : Nat} {x1 : Int32} {x2 : Int32} {h : bb_H} {r : Int32 × bb_H} (hf : m_X7_nurse x0 x1 x2 h = some r) : bb_Ok yX7_nurse cX7_nurse 4 (some .int) rm_X7_nurse [.ref x0, .int x1, .int x2] h (some (.int r.1), r.2) :=
  bb_ok (L := [.ref x0, .int x1, .int x2, .null]) (by decide) (Nat.le_of_ble_eq_true rfl) rfl (bb_fewer (L' := [.ref x0, .int x1, .int x2, .null]) (And.intro rfl (And.intro rfl (And.intro rfl trivial))) (j_X7_nurse_0 _ _ _ _ hf))
abbrev rm_X7_drift : Room := { frames := 5, cells := 0, slots := 0, locals := 109 }
set_option maxRecDepth 100000 in
set_option maxHeartbeats 4000000 in
theorem j_X7_drift_0 {r : Int32 × bb_H} : ∀ (x0 : Nat) (x1 : Int32) (h : bb_H), m_X7_drift x0 x1 h = some r → bb_J RX7 cX7_drift 2 (some .int) rm_X7_drift (some (.int r.1), r.2) 0 [.ref x0, .int x1] [] h := by
  intro x0 x1 h hf
  unfold m_X7_drift at hf
  refine bb_aload_n dX7_drift_0 rfl ?_
  refine bb_iload_n dX7_drift_1 rfl ?_
  refine bb_iconst (v := 1) dX7_drift_2 (by decide) ?_
  obtain ⟨r3, h3, hf⟩ := bb_bind hf
  obtain ⟨⟨v3, b3⟩, h3⟩ := bb_rcv_spec h3
  refine bb_invV (ci := 7) (as := [.int x1, .int 1]) iv_X7_183 (by unfold bb_rr; decide) rfl dX7_drift_3 rfl rfl b3 (Nat.le_of_ble_eq_true rfl) (ok_X7_goOn h3) ?_
  obtain rfl := Option.some.inj hf
  exact bb_iret rfl rfl dX7_drift_6
theorem ok_X7_drift {x0 : Nat} {x1 : Int32} {h : bb_H} {r : Int32 × bb_H} (hf : m_X7_drift x0 x1 h = some r) : bb_Ok yX7_drift cX7_drift 2 (some .int) rm_X7_drift [.ref x0, .int x1] h (some (.int r.1), r.2) :=
  bb_ok (L := [.ref x0, .int x1]) (by decide) (Nat.le_of_ble_eq_true rfl) rfl (bb_fewer (L' := [.ref x0, .int x1]) (And.intro rfl (And.intro rfl trivial)) (j_X7_drift_0 _ _ _ hf))
abbrev rm_X7_undo : Room := { frames := 2, cells := 0, slots := 0, locals := 43 }
set_option maxRecDepth 100000 in
set_option maxHeartbeats 4000000 in
theorem j_X7_undo_0 {r : Int32 × bb_H} : ∀ (x0 : Nat) (h : bb_H), m_X7_undo x0 h = some r → bb_J RX7 cX7_undo 1 (some .int) rm_X7_undo (some (.int r.1), r.2) 0 [.ref x0] [] h := by
  intro x0 h hf
  unfold m_X7_undo at hf
  refine bb_aload_n dX7_undo_0 rfl ?_
  obtain ⟨t1, h1, hf⟩ := bb_bind hf
  refine bb_getR fl_X7_12 dX7_undo_1 h1 ?_
  obtain ⟨t4, h4, hf⟩ := bb_bind hf
  refine bb_getR fl_X7_94 dX7_undo_4 h4 ?_
  obtain ⟨t7, h7, hf⟩ := bb_bind hf
  refine bb_getI fl_X7_180 dX7_undo_7 h7 ?_
  refine bb_if_ne (tgt := 16) dX7_undo_10 (by decide) (fun c10 => ?_) (fun c10 => ?_)
  · rw [if_neg c10] at hf
    refine bb_aload_n dX7_undo_16 rfl ?_
    obtain ⟨t17, h17, hf⟩ := bb_bind hf
    refine bb_getR fl_X7_12 dX7_undo_17 h17 ?_
    obtain ⟨t20, h20, hf⟩ := bb_bind hf
    refine bb_getR fl_X7_94 dX7_undo_20 h20 ?_
    refine bb_aload_n dX7_undo_23 rfl ?_
    obtain ⟨t24, h24, hf⟩ := bb_bind hf
    refine bb_getR fl_X7_12 dX7_undo_24 h24 ?_
    obtain ⟨t27, h27, hf⟩ := bb_bind hf
    refine bb_getR fl_X7_87 dX7_undo_27 h27 ?_
    obtain ⟨g30, h30, hf⟩ := bb_bind hf
    obtain ⟨⟨v30, b30⟩, h30⟩ := bb_rcv_spec h30
    refine bb_invV (ci := 1) (as := [.ref t27]) iv_X7_203 (by unfold bb_rr; decide) rfl dX7_undo_30 rfl rfl b30 (Nat.le_of_ble_eq_true rfl) (ok_X1_giveBack h30) ?_
    refine bb_aload_n dX7_undo_33 rfl ?_
    obtain ⟨t34, h34, hf⟩ := bb_bind hf
    refine bb_getR fl_X7_12 dX7_undo_34 h34 ?_
    obtain ⟨t37, h37, hf⟩ := bb_bind hf
    refine bb_getR fl_X7_94 dX7_undo_37 h37 ?_
    obtain ⟨t40, h40, hf⟩ := bb_bind hf
    refine bb_getI fl_X7_180 dX7_undo_40 h40 ?_
    obtain rfl := Option.some.inj hf
    exact bb_iret rfl rfl dX7_undo_43
  rw [if_pos c10] at hf
  refine bb_bipush (v := (-4)) dX7_undo_13 (by decide) ?_
  obtain rfl := Option.some.inj hf
  exact bb_iret rfl rfl dX7_undo_15
theorem ok_X7_undo {x0 : Nat} {h : bb_H} {r : Int32 × bb_H} (hf : m_X7_undo x0 h = some r) : bb_Ok yX7_undo cX7_undo 1 (some .int) rm_X7_undo [.ref x0] h (some (.int r.1), r.2) :=
  bb_ok (L := [.ref x0]) (by decide) (Nat.le_of_ble_eq_true rfl) rfl (bb_fewer (L' := [.ref x0]) (And.intro rfl trivial) (j_X7_undo_0 _ _ hf))
abbrev rm_X7_seed : Room := { frames := 0, cells := 0, slots := 0, locals := 0 }
set_option maxRecDepth 100000 in
set_option maxHeartbeats 4000000 in
theorem j_X7_seed_0 {r : Int32 × bb_H} : ∀ (x0 : Nat) (x1 : Int32) (h : bb_H), m_X7_seed x0 x1 h = some r → bb_J RX7 cX7_seed 3 (some .int) rm_X7_seed (some (.int r.1), r.2) 0 [.ref x0, .int x1, .null] [] h := by
  intro x0 x1 h hf
  unfold m_X7_seed at hf
  refine bb_iload_n dX7_seed_0 rfl ?_
  refine bb_if_ge (tgt := 6) dX7_seed_1 (by decide) (fun c1 => ?_) (fun c1 => ?_)
  · rw [if_pos c1] at hf
    refine bb_aload_n dX7_seed_6 rfl ?_
    obtain ⟨t7, h7, hf⟩ := bb_bind hf
    refine bb_getR fl_X7_12 dX7_seed_7 h7 ?_
    obtain ⟨t10, h10, hf⟩ := bb_bind hf
    refine bb_getR fl_X7_87 dX7_seed_10 h10 ?_
    obtain ⟨t13, h13, hf⟩ := bb_bind hf
    refine bb_getI fl_X7_206 dX7_seed_13 h13 ?_
    refine bb_istore_n (L' := [.ref x0, .int x1, .int t13]) dX7_seed_16 (by decide) rfl rfl ?_
    refine bb_aload_n dX7_seed_17 rfl ?_
    obtain ⟨t18, h18, hf⟩ := bb_bind hf
    refine bb_getR fl_X7_12 dX7_seed_18 h18 ?_
    obtain ⟨t21, h21, hf⟩ := bb_bind hf
    refine bb_getR fl_X7_87 dX7_seed_21 h21 ?_
    refine bb_iload_n dX7_seed_24 rfl ?_
    obtain ⟨g25, h25, hf⟩ := bb_bind hf
    refine bb_putI fp_X7_206 dX7_seed_25 h25 ?_
    refine bb_iload_n dX7_seed_28 rfl ?_
    obtain rfl := Option.some.inj hf
    exact bb_iret rfl rfl dX7_seed_29
  rw [if_neg c1] at hf
  refine bb_iconst (v := (-1)) dX7_seed_4 (by decide) ?_
  obtain rfl := Option.some.inj hf
  exact bb_iret rfl rfl dX7_seed_5
theorem ok_X7_seed {x0 : Nat} {x1 : Int32} {h : bb_H} {r : Int32 × bb_H} (hf : m_X7_seed x0 x1 h = some r) : bb_Ok yX7_seed cX7_seed 3 (some .int) rm_X7_seed [.ref x0, .int x1] h (some (.int r.1), r.2) :=
  bb_ok (L := [.ref x0, .int x1, .null]) (by decide) (Nat.le_of_ble_eq_true rfl) rfl (bb_fewer (L' := [.ref x0, .int x1, .null]) (And.intro rfl (And.intro rfl trivial)) (j_X7_seed_0 _ _ _ hf))
abbrev rm_X7_foretell : Room := { frames := 4, cells := 0, slots := 0, locals := 95 }
set_option maxRecDepth 100000 in
set_option maxHeartbeats 4000000 in
theorem j_X7_foretell_0 {r : bb_H} : ∀ (x0 : Nat) (x1 : Int32) (h : bb_H), m_X7_foretell x0 x1 h = some r → bb_J RX7 cX7_foretell 2 none rm_X7_foretell (none, r) 0 [.ref x0, .int x1] [] h := by
  intro x0 x1 h hf
  unfold m_X7_foretell at hf
  refine bb_aload_n dX7_foretell_0 rfl ?_
  obtain ⟨t1, h1, hf⟩ := bb_bind hf
  refine bb_getR fl_X7_39 dX7_foretell_1 h1 ?_
  refine bb_aload_n dX7_foretell_4 rfl ?_
  obtain ⟨t5, h5, hf⟩ := bb_bind hf
  refine bb_getR fl_X7_12 dX7_foretell_5 h5 ?_
  obtain ⟨t8, h8, hf⟩ := bb_bind hf
  refine bb_getR fl_X7_87 dX7_foretell_8 h8 ?_
  obtain ⟨g11, h11, hf⟩ := bb_bind hf
  obtain ⟨⟨v11, b11⟩, h11⟩ := bb_rcv_spec h11
  refine bb_invV (ci := 0) (as := [.ref t8]) iv_X7_218 (by unfold bb_rr; decide) rfl dX7_foretell_11 rfl rfl b11 (Nat.le_of_ble_eq_true rfl) (ok_X0_takeFrom h11) ?_
  refine bb_aload_n dX7_foretell_14 rfl ?_
  obtain ⟨t15, h15, hf⟩ := bb_bind hf
  refine bb_getR fl_X7_39 dX7_foretell_15 h15 ?_
  refine bb_iload_n dX7_foretell_18 rfl ?_
  refine bb_aload_n dX7_foretell_19 rfl ?_
  obtain ⟨t20, h20, hf⟩ := bb_bind hf
  refine bb_getR fl_X7_12 dX7_foretell_20 h20 ?_
  obtain ⟨t23, h23, hf⟩ := bb_bind hf
  refine bb_getR fl_X7_66 dX7_foretell_23 h23 ?_
  obtain ⟨g26, h26, hf⟩ := bb_bind hf
  obtain ⟨⟨v26, b26⟩, h26⟩ := bb_rcv_spec h26
  refine bb_invV (ci := 0) (as := [.int x1, .ref t23]) iv_X7_319 (by unfold bb_rr; decide) rfl dX7_foretell_26 rfl rfl b26 (Nat.le_of_ble_eq_true rfl) (ok_X0_passYears h26) ?_
  obtain rfl := Option.some.inj hf
  exact bb_vret rfl rfl dX7_foretell_29
theorem ok_X7_foretell {x0 : Nat} {x1 : Int32} {h : bb_H} {r : bb_H} (hf : m_X7_foretell x0 x1 h = some r) : bb_Ok yX7_foretell cX7_foretell 2 none rm_X7_foretell [.ref x0, .int x1] h (none, r) :=
  bb_ok (L := [.ref x0, .int x1]) (by decide) (Nat.le_of_ble_eq_true rfl) rfl (bb_fewer (L' := [.ref x0, .int x1]) (And.intro rfl (And.intro rfl trivial)) (j_X7_foretell_0 _ _ _ hf))
abbrev rm_X7_ahead : Room := { frames := 5, cells := 0, slots := 0, locals := 116 }
set_option maxRecDepth 100000 in
set_option maxHeartbeats 4000000 in
theorem j_X7_ahead_24 {r : Int32 × bb_H} : ∀ (h : bb_H), m_X7_ahead_24 h = some r → bb_J RX7 cX7_ahead 3 (some .int) rm_X7_ahead (some (.int r.1), r.2) 24 [.null, .null, .null] [] h := by
  intro h hf
  unfold m_X7_ahead_24 at hf
  refine bb_iconst (v := (-1)) dX7_ahead_24 (by decide) ?_
  obtain rfl := Option.some.inj hf
  exact bb_iret rfl rfl dX7_ahead_25
set_option maxRecDepth 100000 in
set_option maxHeartbeats 4000000 in
theorem j_X7_ahead_0 {r : Int32 × bb_H} : ∀ (x0 : Nat) (x1 : Int32) (x2 : Int32) (h : bb_H), m_X7_ahead x0 x1 x2 h = some r → bb_J RX7 cX7_ahead 3 (some .int) rm_X7_ahead (some (.int r.1), r.2) 0 [.ref x0, .int x1, .int x2] [] h := by
  intro x0 x1 x2 h hf
  unfold m_X7_ahead at hf
  refine bb_aload_n dX7_ahead_0 rfl ?_
  obtain ⟨t1, h1, hf⟩ := bb_bind hf
  refine bb_getR fl_X7_12 dX7_ahead_1 h1 ?_
  obtain ⟨t4, h4, hf⟩ := bb_bind hf
  refine bb_getR fl_X7_66 dX7_ahead_4 h4 ?_
  refine bb_iload_n dX7_ahead_7 rfl ?_
  obtain ⟨r8, h8, hf⟩ := bb_bind hf
  obtain ⟨⟨v8, b8⟩, h8⟩ := bb_rcv_spec h8
  refine bb_invV (ci := 3) (as := [.int x1]) iv_X7_103 (by unfold bb_rr; decide) rfl dX7_ahead_8 rfl rfl b8 (Nat.le_of_ble_eq_true rfl) (ok_X3_has h8) ?_
  refine bb_if_eq (tgt := 24) dX7_ahead_11 (by decide) (fun c11 => ?_) (fun c11 => ?_)
  · rw [if_pos c11] at hf
    refine bb_fewer (L' := [.null, .null, .null]) trivial ?_
    exact j_X7_ahead_24 _ hf
  rw [if_neg c11] at hf
  refine bb_iload_n dX7_ahead_14 rfl ?_
  refine bb_iconst (v := 0) dX7_ahead_15 (by decide) ?_
  refine bb_bipush (v := 60) dX7_ahead_16 (by decide) ?_
  obtain ⟨r18, h18, hf⟩ := bb_bind hf
  refine bb_invS (as := [.int x2, .int 0, .int 60]) is_X7_62 (by unfold bb_rr; decide) dX7_ahead_18 rfl rfl (Nat.le_of_ble_eq_true rfl) (ok_X7_within h18) ?_
  refine bb_if_ne (tgt := 26) dX7_ahead_21 (by decide) (fun c21 => ?_) (fun c21 => ?_)
  · rw [if_neg c21] at hf
    refine bb_aload_n dX7_ahead_26 rfl ?_
    refine bb_iload_n dX7_ahead_27 rfl ?_
    obtain ⟨g28, h28, hf⟩ := bb_bind hf
    obtain ⟨⟨v28, b28⟩, h28⟩ := bb_rcv_spec h28
    refine bb_invV (ci := 7) (as := [.int x2]) iv_X7_215 (by unfold bb_rr; decide) rfl dX7_ahead_28 rfl rfl b28 (Nat.le_of_ble_eq_true rfl) (ok_X7_foretell h28) ?_
    refine bb_aload_n dX7_ahead_31 rfl ?_
    obtain ⟨t32, h32, hf⟩ := bb_bind hf
    refine bb_getR fl_X7_39 dX7_ahead_32 h32 ?_
    obtain ⟨t35, h35, hf⟩ := bb_bind hf
    refine bb_getR fl_X7_120 dX7_ahead_35 h35 ?_
    refine bb_iload_n dX7_ahead_38 rfl ?_
    obtain ⟨t39, h39, hf⟩ := bb_bind hf
    refine bb_iaload dX7_ahead_39 h39 ?_
    obtain rfl := Option.some.inj hf
    exact bb_iret rfl rfl dX7_ahead_40
  rw [if_pos c21] at hf
  refine bb_fewer (L' := [.null, .null, .null]) trivial ?_
  exact j_X7_ahead_24 _ hf
theorem ok_X7_ahead {x0 : Nat} {x1 : Int32} {x2 : Int32} {h : bb_H} {r : Int32 × bb_H} (hf : m_X7_ahead x0 x1 x2 h = some r) : bb_Ok yX7_ahead cX7_ahead 3 (some .int) rm_X7_ahead [.ref x0, .int x1, .int x2] h (some (.int r.1), r.2) :=
  bb_ok (L := [.ref x0, .int x1, .int x2]) (by decide) (Nat.le_of_ble_eq_true rfl) rfl (bb_fewer (L' := [.ref x0, .int x1, .int x2]) (And.intro rfl (And.intro rfl (And.intro rfl trivial))) (j_X7_ahead_0 _ _ _ _ hf))
abbrev rm_X7_then : Room := { frames := 5, cells := 0, slots := 0, locals := 116 }
set_option maxRecDepth 100000 in
set_option maxHeartbeats 4000000 in
theorem j_X7_then_0 {r : Int32 × bb_H} : ∀ (x0 : Nat) (x1 : Int32) (h : bb_H), m_X7_then x0 x1 h = some r → bb_J RX7 cX7_then 2 (some .int) rm_X7_then (some (.int r.1), r.2) 0 [.ref x0, .int x1] [] h := by
  intro x0 x1 h hf
  unfold m_X7_then at hf
  refine bb_iload_n dX7_then_0 rfl ?_
  refine bb_iconst (v := 0) dX7_then_1 (by decide) ?_
  refine bb_bipush (v := 60) dX7_then_2 (by decide) ?_
  obtain ⟨r4, h4, hf⟩ := bb_bind hf
  refine bb_invS (as := [.int x1, .int 0, .int 60]) is_X7_62 (by unfold bb_rr; decide) dX7_then_4 rfl rfl (Nat.le_of_ble_eq_true rfl) (ok_X7_within h4) ?_
  refine bb_if_ne (tgt := 12) dX7_then_7 (by decide) (fun c7 => ?_) (fun c7 => ?_)
  · rw [if_neg c7] at hf
    refine bb_aload_n dX7_then_12 rfl ?_
    refine bb_iload_n dX7_then_13 rfl ?_
    obtain ⟨g14, h14, hf⟩ := bb_bind hf
    obtain ⟨⟨v14, b14⟩, h14⟩ := bb_rcv_spec h14
    refine bb_invV (ci := 7) (as := [.int x1]) iv_X7_215 (by unfold bb_rr; decide) rfl dX7_then_14 rfl rfl b14 (Nat.le_of_ble_eq_true rfl) (ok_X7_foretell h14) ?_
    refine bb_aload_n dX7_then_17 rfl ?_
    obtain ⟨t18, h18, hf⟩ := bb_bind hf
    refine bb_getR fl_X7_39 dX7_then_18 h18 ?_
    obtain ⟨r21, h21, hf⟩ := bb_bind hf
    obtain ⟨⟨v21, b21⟩, h21⟩ := bb_rcv_spec h21
    refine bb_invV (ci := 0) (as := []) iv_X7_167 (by unfold bb_rr; decide) rfl dX7_then_21 rfl rfl b21 (Nat.le_of_ble_eq_true rfl) (ok_X0_whoSits h21) ?_
    obtain rfl := Option.some.inj hf
    exact bb_iret rfl rfl dX7_then_24
  rw [if_pos c7] at hf
  refine bb_iconst (v := (-1)) dX7_then_10 (by decide) ?_
  obtain rfl := Option.some.inj hf
  exact bb_iret rfl rfl dX7_then_11
theorem ok_X7_then {x0 : Nat} {x1 : Int32} {h : bb_H} {r : Int32 × bb_H} (hf : m_X7_then x0 x1 h = some r) : bb_Ok yX7_then cX7_then 2 (some .int) rm_X7_then [.ref x0, .int x1] h (some (.int r.1), r.2) :=
  bb_ok (L := [.ref x0, .int x1]) (by decide) (Nat.le_of_ble_eq_true rfl) rfl (bb_fewer (L' := [.ref x0, .int x1]) (And.intro rfl (And.intro rfl trivial)) (j_X7_then_0 _ _ _ hf))
abbrev rm_X7_ends : Room := { frames := 3, cells := 0, slots := 0, locals := 72 }
set_option maxRecDepth 100000 in
set_option maxHeartbeats 4000000 in
theorem j_X7_ends_32 {r : Int32 × bb_H} : ∀ (n : Nat) (x0 : Nat) (x1 : Int32) (x2 : Int32) (h : bb_H), m_X7_ends_32 n x0 x1 x2 h = some r → bb_J RX7 cX7_ends 3 (some .int) rm_X7_ends (some (.int r.1), r.2) 32 [.ref x0, .int x1, .int x2] [] h := by
  intro n
  induction n with
  | zero =>
    intro x0 x1 x2 h hf
    exact absurd hf (fun z => by cases z)
  | succ n ih =>
    intro x0 x1 x2 h hf
    unfold m_X7_ends_32 at hf
    refine bb_iload_n dX7_ends_32 rfl ?_
    refine bb_bipush (v := 60) dX7_ends_33 (by decide) ?_
    refine bb_icmp_gt (tgt := 73) dX7_ends_35 (by decide) (fun c35 => ?_) (fun c35 => ?_)
    · rw [if_pos c35] at hf
      refine bb_bipush (v := (-4)) dX7_ends_73 (by decide) ?_
      obtain rfl := Option.some.inj hf
      exact bb_iret rfl rfl dX7_ends_75
    rw [if_neg c35] at hf
    refine bb_aload_n dX7_ends_38 rfl ?_
    obtain ⟨t39, h39, hf⟩ := bb_bind hf
    refine bb_getR fl_X7_39 dX7_ends_39 h39 ?_
    refine bb_iload_n dX7_ends_42 rfl ?_
    obtain ⟨r43, h43, hf⟩ := bb_bind hf
    obtain ⟨⟨v43, b43⟩, h43⟩ := bb_rcv_spec h43
    refine bb_invV (ci := 0) (as := [.int x1]) iv_X7_123 (by unfold bb_rr; decide) rfl dX7_ends_43 rfl rfl b43 (Nat.le_of_ble_eq_true rfl) (ok_X0_seatOf h43) ?_
    refine bb_bipush (v := (-4)) dX7_ends_46 (by decide) ?_
    refine bb_icmp_ne (tgt := 53) dX7_ends_48 (by decide) (fun c48 => ?_) (fun c48 => ?_)
    · rw [if_neg c48] at hf
      refine bb_aload_n dX7_ends_53 rfl ?_
      obtain ⟨t54, h54, hf⟩ := bb_bind hf
      refine bb_getR fl_X7_39 dX7_ends_54 h54 ?_
      refine bb_aload_n dX7_ends_57 rfl ?_
      obtain ⟨t58, h58, hf⟩ := bb_bind hf
      refine bb_getR fl_X7_12 dX7_ends_58 h58 ?_
      obtain ⟨t61, h61, hf⟩ := bb_bind hf
      refine bb_getR fl_X7_66 dX7_ends_61 h61 ?_
      obtain ⟨g64, h64, hf⟩ := bb_bind hf
      obtain ⟨⟨v64, b64⟩, h64⟩ := bb_rcv_spec h64
      refine bb_invV (ci := 0) (as := [.ref t61]) iv_X7_212 (by unfold bb_rr; decide) rfl dX7_ends_64 rfl rfl b64 (Nat.le_of_ble_eq_true rfl) (ok_X0_passYear h64) ?_
      refine bb_iinc (v := x2 + 1) (L' := [.ref x0, .int x1, .int (x2 + 1)]) dX7_ends_67 rfl rfl (by decide) rfl rfl ?_
      refine bb_goto (tgt := 32) dX7_ends_70 (by decide) ?_
      refine bb_fewer (L' := [.ref x0, .int x1, .int (x2 + 1)]) (And.intro rfl (And.intro rfl (And.intro rfl trivial))) ?_
      exact ih _ _ _ _ hf
    rw [if_pos c48] at hf
    refine bb_iload_n dX7_ends_51 rfl ?_
    obtain rfl := Option.some.inj hf
    exact bb_iret rfl rfl dX7_ends_52
set_option maxRecDepth 100000 in
set_option maxHeartbeats 4000000 in
theorem j_X7_ends_0 {r : Int32 × bb_H} : ∀ (x0 : Nat) (x1 : Int32) (h : bb_H), m_X7_ends x0 x1 h = some r → bb_J RX7 cX7_ends 3 (some .int) rm_X7_ends (some (.int r.1), r.2) 0 [.ref x0, .int x1, .null] [] h := by
  intro x0 x1 h hf
  unfold m_X7_ends at hf
  refine bb_aload_n dX7_ends_0 rfl ?_
  obtain ⟨t1, h1, hf⟩ := bb_bind hf
  refine bb_getR fl_X7_12 dX7_ends_1 h1 ?_
  obtain ⟨t4, h4, hf⟩ := bb_bind hf
  refine bb_getR fl_X7_66 dX7_ends_4 h4 ?_
  refine bb_iload_n dX7_ends_7 rfl ?_
  obtain ⟨r8, h8, hf⟩ := bb_bind hf
  obtain ⟨⟨v8, b8⟩, h8⟩ := bb_rcv_spec h8
  refine bb_invV (ci := 3) (as := [.int x1]) iv_X7_103 (by unfold bb_rr; decide) rfl dX7_ends_8 rfl rfl b8 (Nat.le_of_ble_eq_true rfl) (ok_X3_has h8) ?_
  refine bb_if_ne (tgt := 16) dX7_ends_11 (by decide) (fun c11 => ?_) (fun c11 => ?_)
  · rw [if_neg c11] at hf
    refine bb_aload_n dX7_ends_16 rfl ?_
    obtain ⟨t17, h17, hf⟩ := bb_bind hf
    refine bb_getR fl_X7_39 dX7_ends_17 h17 ?_
    refine bb_aload_n dX7_ends_20 rfl ?_
    obtain ⟨t21, h21, hf⟩ := bb_bind hf
    refine bb_getR fl_X7_12 dX7_ends_21 h21 ?_
    obtain ⟨t24, h24, hf⟩ := bb_bind hf
    refine bb_getR fl_X7_87 dX7_ends_24 h24 ?_
    obtain ⟨g27, h27, hf⟩ := bb_bind hf
    obtain ⟨⟨v27, b27⟩, h27⟩ := bb_rcv_spec h27
    refine bb_invV (ci := 0) (as := [.ref t24]) iv_X7_218 (by unfold bb_rr; decide) rfl dX7_ends_27 rfl rfl b27 (Nat.le_of_ble_eq_true rfl) (ok_X0_takeFrom h27) ?_
    refine bb_iconst (v := 0) dX7_ends_30 (by decide) ?_
    refine bb_istore_n (L' := [.ref x0, .int x1, .int 0]) dX7_ends_31 (by decide) rfl rfl ?_
    refine bb_fewer (L' := [.ref x0, .int x1, .int 0]) (And.intro rfl (And.intro rfl (And.intro rfl trivial))) ?_
    exact j_X7_ends_32 _ _ _ _ _ hf
  rw [if_pos c11] at hf
  refine bb_iconst (v := (-1)) dX7_ends_14 (by decide) ?_
  obtain rfl := Option.some.inj hf
  exact bb_iret rfl rfl dX7_ends_15
theorem ok_X7_ends {x0 : Nat} {x1 : Int32} {h : bb_H} {r : Int32 × bb_H} (hf : m_X7_ends x0 x1 h = some r) : bb_Ok yX7_ends cX7_ends 3 (some .int) rm_X7_ends [.ref x0, .int x1] h (some (.int r.1), r.2) :=
  bb_ok (L := [.ref x0, .int x1, .null]) (by decide) (Nat.le_of_ble_eq_true rfl) rfl (bb_fewer (L' := [.ref x0, .int x1, .null]) (And.intro rfl (And.intro rfl trivial)) (j_X7_ends_0 _ _ _ hf))
abbrev rm_X7_lonely : Room := { frames := 3, cells := 0, slots := 0, locals := 72 }
set_option maxRecDepth 100000 in
set_option maxHeartbeats 4000000 in
theorem j_X7_lonely_16 {r : Int32 × bb_H} : ∀ (n : Nat) (x0 : Nat) (x1 : Int32) (h : bb_H), m_X7_lonely_16 n x0 x1 h = some r → bb_J RX7 cX7_lonely 2 (some .int) rm_X7_lonely (some (.int r.1), r.2) 16 [.ref x0, .int x1] [] h := by
  intro n
  induction n with
  | zero =>
    intro x0 x1 h hf
    exact absurd hf (fun z => by cases z)
  | succ n ih =>
    intro x0 x1 h hf
    unfold m_X7_lonely_16 at hf
    refine bb_iload_n dX7_lonely_16 rfl ?_
    refine bb_bipush (v := 60) dX7_lonely_17 (by decide) ?_
    refine bb_icmp_gt (tgt := 55) dX7_lonely_19 (by decide) (fun c19 => ?_) (fun c19 => ?_)
    · rw [if_pos c19] at hf
      refine bb_bipush (v := (-4)) dX7_lonely_55 (by decide) ?_
      obtain rfl := Option.some.inj hf
      exact bb_iret rfl rfl dX7_lonely_57
    rw [if_neg c19] at hf
    refine bb_aload_n dX7_lonely_22 rfl ?_
    obtain ⟨t23, h23, hf⟩ := bb_bind hf
    refine bb_getR fl_X7_39 dX7_lonely_23 h23 ?_
    obtain ⟨t26, h26, hf⟩ := bb_bind hf
    refine bb_getI fl_X7_161 dX7_lonely_26 h26 ?_
    refine bb_iconst (v := 1) dX7_lonely_29 (by decide) ?_
    refine bb_icmp_gt (tgt := 35) dX7_lonely_30 (by decide) (fun c30 => ?_) (fun c30 => ?_)
    · rw [if_pos c30] at hf
      refine bb_aload_n dX7_lonely_35 rfl ?_
      obtain ⟨t36, h36, hf⟩ := bb_bind hf
      refine bb_getR fl_X7_39 dX7_lonely_36 h36 ?_
      refine bb_aload_n dX7_lonely_39 rfl ?_
      obtain ⟨t40, h40, hf⟩ := bb_bind hf
      refine bb_getR fl_X7_12 dX7_lonely_40 h40 ?_
      obtain ⟨t43, h43, hf⟩ := bb_bind hf
      refine bb_getR fl_X7_66 dX7_lonely_43 h43 ?_
      obtain ⟨g46, h46, hf⟩ := bb_bind hf
      obtain ⟨⟨v46, b46⟩, h46⟩ := bb_rcv_spec h46
      refine bb_invV (ci := 0) (as := [.ref t43]) iv_X7_212 (by unfold bb_rr; decide) rfl dX7_lonely_46 rfl rfl b46 (Nat.le_of_ble_eq_true rfl) (ok_X0_passYear h46) ?_
      refine bb_iinc (v := x1 + 1) (L' := [.ref x0, .int (x1 + 1)]) dX7_lonely_49 rfl rfl (by decide) rfl rfl ?_
      refine bb_goto (tgt := 16) dX7_lonely_52 (by decide) ?_
      refine bb_fewer (L' := [.ref x0, .int (x1 + 1)]) (And.intro rfl (And.intro rfl trivial)) ?_
      exact ih _ _ _ hf
    rw [if_neg c30] at hf
    refine bb_iload_n dX7_lonely_33 rfl ?_
    obtain rfl := Option.some.inj hf
    exact bb_iret rfl rfl dX7_lonely_34
set_option maxRecDepth 100000 in
set_option maxHeartbeats 4000000 in
theorem j_X7_lonely_0 {r : Int32 × bb_H} : ∀ (x0 : Nat) (h : bb_H), m_X7_lonely x0 h = some r → bb_J RX7 cX7_lonely 2 (some .int) rm_X7_lonely (some (.int r.1), r.2) 0 [.ref x0, .null] [] h := by
  intro x0 h hf
  unfold m_X7_lonely at hf
  refine bb_aload_n dX7_lonely_0 rfl ?_
  obtain ⟨t1, h1, hf⟩ := bb_bind hf
  refine bb_getR fl_X7_39 dX7_lonely_1 h1 ?_
  refine bb_aload_n dX7_lonely_4 rfl ?_
  obtain ⟨t5, h5, hf⟩ := bb_bind hf
  refine bb_getR fl_X7_12 dX7_lonely_5 h5 ?_
  obtain ⟨t8, h8, hf⟩ := bb_bind hf
  refine bb_getR fl_X7_87 dX7_lonely_8 h8 ?_
  obtain ⟨g11, h11, hf⟩ := bb_bind hf
  obtain ⟨⟨v11, b11⟩, h11⟩ := bb_rcv_spec h11
  refine bb_invV (ci := 0) (as := [.ref t8]) iv_X7_218 (by unfold bb_rr; decide) rfl dX7_lonely_11 rfl rfl b11 (Nat.le_of_ble_eq_true rfl) (ok_X0_takeFrom h11) ?_
  refine bb_iconst (v := 0) dX7_lonely_14 (by decide) ?_
  refine bb_istore_n (L' := [.ref x0, .int 0]) dX7_lonely_15 (by decide) rfl rfl ?_
  refine bb_fewer (L' := [.ref x0, .int 0]) (And.intro rfl (And.intro rfl trivial)) ?_
  exact j_X7_lonely_16 _ _ _ _ hf
theorem ok_X7_lonely {x0 : Nat} {h : bb_H} {r : Int32 × bb_H} (hf : m_X7_lonely x0 h = some r) : bb_Ok yX7_lonely cX7_lonely 2 (some .int) rm_X7_lonely [.ref x0] h (some (.int r.1), r.2) :=
  bb_ok (L := [.ref x0, .null]) (by decide) (Nat.le_of_ble_eq_true rfl) rfl (bb_fewer (L' := [.ref x0, .null]) (And.intro rfl trivial) (j_X7_lonely_0 _ _ hf))
abbrev rm_X7_close : Room := { frames := 3, cells := 0, slots := 0, locals := 72 }
set_option maxRecDepth 100000 in
set_option maxHeartbeats 4000000 in
theorem j_X7_close_33 {r : Int32 × bb_H} : ∀ (h : bb_H), m_X7_close_33 h = some r → bb_J RX7 cX7_close 4 (some .int) rm_X7_close (some (.int r.1), r.2) 33 [.null, .null, .null, .null] [] h := by
  intro h hf
  unfold m_X7_close_33 at hf
  refine bb_iconst (v := (-1)) dX7_close_33 (by decide) ?_
  obtain rfl := Option.some.inj hf
  exact bb_iret rfl rfl dX7_close_34
set_option maxRecDepth 100000 in
set_option maxHeartbeats 4000000 in
theorem j_X7_close_51 {r : Int32 × bb_H} : ∀ (n : Nat) (x0 : Nat) (x1 : Int32) (x2 : Int32) (x3 : Int32) (h : bb_H), m_X7_close_51 n x0 x1 x2 x3 h = some r → bb_J RX7 cX7_close 4 (some .int) rm_X7_close (some (.int r.1), r.2) 51 [.ref x0, .int x1, .int x2, .int x3] [] h := by
  intro n
  induction n with
  | zero =>
    intro x0 x1 x2 x3 h hf
    exact absurd hf (fun z => by cases z)
  | succ n ih =>
    intro x0 x1 x2 x3 h hf
    unfold m_X7_close_51 at hf
    refine bb_iload_n dX7_close_51 rfl ?_
    refine bb_bipush (v := 60) dX7_close_52 (by decide) ?_
    refine bb_icmp_gt (tgt := 94) dX7_close_54 (by decide) (fun c54 => ?_) (fun c54 => ?_)
    · rw [if_pos c54] at hf
      refine bb_bipush (v := (-4)) dX7_close_94 (by decide) ?_
      obtain rfl := Option.some.inj hf
      exact bb_iret rfl rfl dX7_close_96
    rw [if_neg c54] at hf
    refine bb_aload_n dX7_close_57 rfl ?_
    obtain ⟨t58, h58, hf⟩ := bb_bind hf
    refine bb_getR fl_X7_39 dX7_close_58 h58 ?_
    refine bb_iload_n dX7_close_61 rfl ?_
    obtain ⟨r62, h62, hf⟩ := bb_bind hf
    obtain ⟨⟨v62, b62⟩, h62⟩ := bb_rcv_spec h62
    refine bb_invV (ci := 0) (as := [.int x1]) iv_X7_130 (by unfold bb_rr; decide) rfl dX7_close_62 rfl rfl b62 (Nat.le_of_ble_eq_true rfl) (ok_X0_whoSitsBy h62) ?_
    refine bb_iload_n dX7_close_65 rfl ?_
    obtain ⟨r66, h66, hf⟩ := bb_bind hf
    refine bb_invS (as := [.int r62.1, .int x2]) is_X7_220 (by unfold bb_rr; decide) dX7_close_66 rfl rfl (Nat.le_of_ble_eq_true rfl) (ok_X7_holds h66) ?_
    refine bb_if_eq (tgt := 74) dX7_close_69 (by decide) (fun c69 => ?_) (fun c69 => ?_)
    · rw [if_pos c69] at hf
      refine bb_aload_n dX7_close_74 rfl ?_
      obtain ⟨t75, h75, hf⟩ := bb_bind hf
      refine bb_getR fl_X7_39 dX7_close_75 h75 ?_
      refine bb_aload_n dX7_close_78 rfl ?_
      obtain ⟨t79, h79, hf⟩ := bb_bind hf
      refine bb_getR fl_X7_12 dX7_close_79 h79 ?_
      obtain ⟨t82, h82, hf⟩ := bb_bind hf
      refine bb_getR fl_X7_66 dX7_close_82 h82 ?_
      obtain ⟨g85, h85, hf⟩ := bb_bind hf
      obtain ⟨⟨v85, b85⟩, h85⟩ := bb_rcv_spec h85
      refine bb_invV (ci := 0) (as := [.ref t82]) iv_X7_212 (by unfold bb_rr; decide) rfl dX7_close_85 rfl rfl b85 (Nat.le_of_ble_eq_true rfl) (ok_X0_passYear h85) ?_
      refine bb_iinc (v := x3 + 1) (L' := [.ref x0, .int x1, .int x2, .int (x3 + 1)]) dX7_close_88 rfl rfl (by decide) rfl rfl ?_
      refine bb_goto (tgt := 51) dX7_close_91 (by decide) ?_
      refine bb_fewer (L' := [.ref x0, .int x1, .int x2, .int (x3 + 1)]) (And.intro rfl (And.intro rfl (And.intro rfl (And.intro rfl trivial)))) ?_
      exact ih _ _ _ _ _ hf
    rw [if_neg c69] at hf
    refine bb_iload_n dX7_close_72 rfl ?_
    obtain rfl := Option.some.inj hf
    exact bb_iret rfl rfl dX7_close_73
set_option maxRecDepth 100000 in
set_option maxHeartbeats 4000000 in
theorem j_X7_close_0 {r : Int32 × bb_H} : ∀ (x0 : Nat) (x1 : Int32) (x2 : Int32) (h : bb_H), m_X7_close x0 x1 x2 h = some r → bb_J RX7 cX7_close 4 (some .int) rm_X7_close (some (.int r.1), r.2) 0 [.ref x0, .int x1, .int x2, .null] [] h := by
  intro x0 x1 x2 h hf
  unfold m_X7_close at hf
  refine bb_aload_n dX7_close_0 rfl ?_
  obtain ⟨t1, h1, hf⟩ := bb_bind hf
  refine bb_getR fl_X7_12 dX7_close_1 h1 ?_
  obtain ⟨t4, h4, hf⟩ := bb_bind hf
  refine bb_getR fl_X7_66 dX7_close_4 h4 ?_
  refine bb_iload_n dX7_close_7 rfl ?_
  obtain ⟨r8, h8, hf⟩ := bb_bind hf
  obtain ⟨⟨v8, b8⟩, h8⟩ := bb_rcv_spec h8
  refine bb_invV (ci := 3) (as := [.int x1]) iv_X7_103 (by unfold bb_rr; decide) rfl dX7_close_8 rfl rfl b8 (Nat.le_of_ble_eq_true rfl) (ok_X3_has h8) ?_
  refine bb_if_eq (tgt := 33) dX7_close_11 (by decide) (fun c11 => ?_) (fun c11 => ?_)
  · rw [if_pos c11] at hf
    refine bb_fewer (L' := [.null, .null, .null, .null]) trivial ?_
    exact j_X7_close_33 _ hf
  rw [if_neg c11] at hf
  refine bb_aload_n dX7_close_14 rfl ?_
  obtain ⟨t15, h15, hf⟩ := bb_bind hf
  refine bb_getR fl_X7_12 dX7_close_15 h15 ?_
  obtain ⟨t18, h18, hf⟩ := bb_bind hf
  refine bb_getR fl_X7_66 dX7_close_18 h18 ?_
  refine bb_iload_n dX7_close_21 rfl ?_
  obtain ⟨r22, h22, hf⟩ := bb_bind hf
  obtain ⟨⟨v22, b22⟩, h22⟩ := bb_rcv_spec h22
  refine bb_invV (ci := 3) (as := [.int x2]) iv_X7_103 (by unfold bb_rr; decide) rfl dX7_close_22 rfl rfl b22 (Nat.le_of_ble_eq_true rfl) (ok_X3_has h22) ?_
  refine bb_if_eq (tgt := 33) dX7_close_25 (by decide) (fun c25 => ?_) (fun c25 => ?_)
  · rw [if_pos c25] at hf
    refine bb_fewer (L' := [.null, .null, .null, .null]) trivial ?_
    exact j_X7_close_33 _ hf
  rw [if_neg c25] at hf
  refine bb_iload_n dX7_close_28 rfl ?_
  refine bb_iload_n dX7_close_29 rfl ?_
  refine bb_icmp_ne (tgt := 35) dX7_close_30 (by decide) (fun c30 => ?_) (fun c30 => ?_)
  · rw [if_neg c30] at hf
    refine bb_aload_n dX7_close_35 rfl ?_
    obtain ⟨t36, h36, hf⟩ := bb_bind hf
    refine bb_getR fl_X7_39 dX7_close_36 h36 ?_
    refine bb_aload_n dX7_close_39 rfl ?_
    obtain ⟨t40, h40, hf⟩ := bb_bind hf
    refine bb_getR fl_X7_12 dX7_close_40 h40 ?_
    obtain ⟨t43, h43, hf⟩ := bb_bind hf
    refine bb_getR fl_X7_87 dX7_close_43 h43 ?_
    obtain ⟨g46, h46, hf⟩ := bb_bind hf
    obtain ⟨⟨v46, b46⟩, h46⟩ := bb_rcv_spec h46
    refine bb_invV (ci := 0) (as := [.ref t43]) iv_X7_218 (by unfold bb_rr; decide) rfl dX7_close_46 rfl rfl b46 (Nat.le_of_ble_eq_true rfl) (ok_X0_takeFrom h46) ?_
    refine bb_iconst (v := 0) dX7_close_49 (by decide) ?_
    refine bb_istore_n (L' := [.ref x0, .int x1, .int x2, .int 0]) dX7_close_50 (by decide) rfl rfl ?_
    refine bb_fewer (L' := [.ref x0, .int x1, .int x2, .int 0]) (And.intro rfl (And.intro rfl (And.intro rfl (And.intro rfl trivial)))) ?_
    exact j_X7_close_51 _ _ _ _ _ _ hf
  rw [if_pos c30] at hf
  refine bb_fewer (L' := [.null, .null, .null, .null]) trivial ?_
  exact j_X7_close_33 _ hf
theorem ok_X7_close {x0 : Nat} {x1 : Int32} {x2 : Int32} {h : bb_H} {r : Int32 × bb_H} (hf : m_X7_close x0 x1 x2 h = some r) : bb_Ok yX7_close cX7_close 4 (some .int) rm_X7_close [.ref x0, .int x1, .int x2] h (some (.int r.1), r.2) :=
  bb_ok (L := [.ref x0, .int x1, .int x2, .null]) (by decide) (Nat.le_of_ble_eq_true rfl) rfl (bb_fewer (L' := [.ref x0, .int x1, .int x2, .null]) (And.intro rfl (And.intro rfl (And.intro rfl trivial))) (j_X7_close_0 _ _ _ _ hf))
abbrev rm_X7_swaps : Room := { frames := 2, cells := 0, slots := 0, locals := 42 }
set_option maxRecDepth 100000 in
set_option maxHeartbeats 4000000 in
theorem j_X7_swaps_84 {r : Int32 × bb_H} {k36 : Nat → Nat → Int32 → Int32 → bb_H → Option (Int32 × bb_H)} {k51 : Nat → Nat → Int32 → Int32 → Int32 → bb_H → Option (Int32 × bb_H)} (hk36 : ∀ (x2 : Nat) (x3 : Nat) (x4 : Int32) (x5 : Int32) (h : bb_H), k36 x2 x3 x4 x5 h = some r → bb_J RX7 cX7_swaps 7 (some .int) rm_X7_swaps (some (.int r.1), r.2) 36 [.null, .null, .ref x2, .ref x3, .int x4, .int x5, .null] [] h) (hk51 : ∀ (x2 : Nat) (x3 : Nat) (x4 : Int32) (x5 : Int32) (x6 : Int32) (h : bb_H), k51 x2 x3 x4 x5 x6 h = some r → bb_J RX7 cX7_swaps 7 (some .int) rm_X7_swaps (some (.int r.1), r.2) 51 [.null, .null, .ref x2, .ref x3, .int x4, .int x5, .int x6] [] h) : ∀ (x2 : Nat) (x3 : Nat) (x4 : Int32) (x5 : Int32) (x6 : Int32) (h : bb_H), m_X7_swaps_84 k36 k51 x2 x3 x4 x5 x6 h = some r → bb_J RX7 cX7_swaps 7 (some .int) rm_X7_swaps (some (.int r.1), r.2) 84 [.null, .null, .ref x2, .ref x3, .int x4, .int x5, .int x6] [] h := by
  intro x2 x3 x4 x5 x6 h hf
  unfold m_X7_swaps_84 at hf
  refine bb_iinc (v := x6 + 1) (L' := [.null, .null, .ref x2, .ref x3, .int x4, .int x5, .int (x6 + 1)]) dX7_swaps_84 rfl rfl (by decide) rfl rfl ?_
  refine bb_goto (tgt := 51) dX7_swaps_87 (by decide) ?_
  refine bb_fewer (L' := [.null, .null, .ref x2, .ref x3, .int x4, .int x5, .int (x6 + 1)]) (And.intro rfl (And.intro rfl (And.intro rfl (And.intro rfl (And.intro rfl trivial))))) ?_
  exact hk51 _ _ _ _ _ _ hf
set_option maxRecDepth 100000 in
set_option maxHeartbeats 4000000 in
theorem j_X7_swaps_51 {r : Int32 × bb_H} {k36 : Nat → Nat → Int32 → Int32 → bb_H → Option (Int32 × bb_H)} (hk36 : ∀ (x2 : Nat) (x3 : Nat) (x4 : Int32) (x5 : Int32) (h : bb_H), k36 x2 x3 x4 x5 h = some r → bb_J RX7 cX7_swaps 7 (some .int) rm_X7_swaps (some (.int r.1), r.2) 36 [.null, .null, .ref x2, .ref x3, .int x4, .int x5, .null] [] h) : ∀ (n : Nat) (x2 : Nat) (x3 : Nat) (x4 : Int32) (x5 : Int32) (x6 : Int32) (h : bb_H), m_X7_swaps_51 k36 n x2 x3 x4 x5 x6 h = some r → bb_J RX7 cX7_swaps 7 (some .int) rm_X7_swaps (some (.int r.1), r.2) 51 [.null, .null, .ref x2, .ref x3, .int x4, .int x5, .int x6] [] h := by
  intro n
  induction n with
  | zero =>
    intro x2 x3 x4 x5 x6 h hf
    exact absurd hf (fun z => by cases z)
  | succ n ih =>
    intro x2 x3 x4 x5 x6 h hf
    unfold m_X7_swaps_51 at hf
    refine bb_iload dX7_swaps_51 rfl ?_
    refine bb_aload_n dX7_swaps_53 rfl ?_
    obtain ⟨t54, h54, hf⟩ := bb_bind hf
    refine bb_getI fl_X7_161 dX7_swaps_54 h54 ?_
    refine bb_icmp_ge (tgt := 90) dX7_swaps_57 (by decide) (fun c57 => ?_) (fun c57 => ?_)
    · rw [if_pos c57] at hf
      refine bb_iinc (v := x5 + 1) (L' := [.null, .null, .ref x2, .ref x3, .int x4, .int (x5 + 1), .int x6]) dX7_swaps_90 rfl rfl (by decide) rfl rfl ?_
      refine bb_goto (tgt := 36) dX7_swaps_93 (by decide) ?_
      refine bb_fewer (L' := [.null, .null, .ref x2, .ref x3, .int x4, .int (x5 + 1), .null]) (And.intro rfl (And.intro rfl (And.intro rfl (And.intro rfl trivial)))) ?_
      exact hk36 _ _ _ _ _ hf
    rw [if_neg c57] at hf
    refine bb_aload_n dX7_swaps_60 rfl ?_
    refine bb_aload_n dX7_swaps_61 rfl ?_
    obtain ⟨t62, h62, hf⟩ := bb_bind hf
    refine bb_getR fl_X7_173 dX7_swaps_62 h62 ?_
    refine bb_iload dX7_swaps_65 rfl ?_
    obtain ⟨t67, h67, hf⟩ := bb_bind hf
    refine bb_iaload dX7_swaps_67 h67 ?_
    obtain ⟨t68, h68, hf⟩ := bb_bind hf
    refine bb_iaload dX7_swaps_68 h68 ?_
    refine bb_aload_n dX7_swaps_69 rfl ?_
    refine bb_aload_n dX7_swaps_70 rfl ?_
    obtain ⟨t71, h71, hf⟩ := bb_bind hf
    refine bb_getR fl_X7_173 dX7_swaps_71 h71 ?_
    refine bb_iload dX7_swaps_74 rfl ?_
    obtain ⟨t76, h76, hf⟩ := bb_bind hf
    refine bb_iaload dX7_swaps_76 h76 ?_
    obtain ⟨t77, h77, hf⟩ := bb_bind hf
    refine bb_iaload dX7_swaps_77 h77 ?_
    refine bb_icmp_le (tgt := 84) dX7_swaps_78 (by decide) (fun c78 => ?_) (fun c78 => ?_)
    · rw [if_pos c78] at hf
      refine bb_fewer (L' := [.null, .null, .ref x2, .ref x3, .int x4, .int x5, .int x6]) (And.intro rfl (And.intro rfl (And.intro rfl (And.intro rfl (And.intro rfl trivial))))) ?_
      exact j_X7_swaps_84 hk36 ih _ _ _ _ _ _ hf
    rw [if_neg c78] at hf
    refine bb_iinc (v := x4 + 1) (L' := [.null, .null, .ref x2, .ref x3, .int (x4 + 1), .int x5, .int x6]) dX7_swaps_81 rfl rfl (by decide) rfl rfl ?_
    refine bb_fewer (L' := [.null, .null, .ref x2, .ref x3, .int (x4 + 1), .int x5, .int x6]) (And.intro rfl (And.intro rfl (And.intro rfl (And.intro rfl (And.intro rfl trivial))))) ?_
    exact j_X7_swaps_84 hk36 ih _ _ _ _ _ _ hf
set_option maxRecDepth 100000 in
set_option maxHeartbeats 4000000 in
theorem j_X7_swaps_36 {r : Int32 × bb_H} : ∀ (n : Nat) (x2 : Nat) (x3 : Nat) (x4 : Int32) (x5 : Int32) (h : bb_H), m_X7_swaps_36 n x2 x3 x4 x5 h = some r → bb_J RX7 cX7_swaps 7 (some .int) rm_X7_swaps (some (.int r.1), r.2) 36 [.null, .null, .ref x2, .ref x3, .int x4, .int x5, .null] [] h := by
  intro n
  induction n with
  | zero =>
    intro x2 x3 x4 x5 h hf
    exact absurd hf (fun z => by cases z)
  | succ n ih =>
    intro x2 x3 x4 x5 h hf
    unfold m_X7_swaps_36 at hf
    refine bb_iload dX7_swaps_36 rfl ?_
    refine bb_aload_n dX7_swaps_38 rfl ?_
    obtain ⟨t39, h39, hf⟩ := bb_bind hf
    refine bb_getI fl_X7_161 dX7_swaps_39 h39 ?_
    refine bb_icmp_ge (tgt := 96) dX7_swaps_42 (by decide) (fun c42 => ?_) (fun c42 => ?_)
    · rw [if_pos c42] at hf
      refine bb_iload dX7_swaps_96 rfl ?_
      obtain rfl := Option.some.inj hf
      exact bb_iret rfl rfl dX7_swaps_98
    rw [if_neg c42] at hf
    refine bb_iload dX7_swaps_45 rfl ?_
    refine bb_iconst (v := 1) dX7_swaps_47 (by decide) ?_
    refine bb_iadd dX7_swaps_48 ?_
    refine bb_istore (L' := [.null, .null, .ref x2, .ref x3, .int x4, .int x5, .int (x5 + 1)]) dX7_swaps_49 (by decide) rfl rfl ?_
    refine bb_fewer (L' := [.null, .null, .ref x2, .ref x3, .int x4, .int x5, .int (x5 + 1)]) (And.intro rfl (And.intro rfl (And.intro rfl (And.intro rfl (And.intro rfl trivial))))) ?_
    exact j_X7_swaps_51 ih _ _ _ _ _ _ _ hf
set_option maxRecDepth 100000 in
set_option maxHeartbeats 4000000 in
theorem j_X7_swaps_0 {r : Int32 × bb_H} : ∀ (x0 : Nat) (x1 : Int32) (h : bb_H), m_X7_swaps x0 x1 h = some r → bb_J RX7 cX7_swaps 7 (some .int) rm_X7_swaps (some (.int r.1), r.2) 0 [.ref x0, .int x1, .null, .null, .null, .null, .null] [] h := by
  intro x0 x1 h hf
  unfold m_X7_swaps at hf
  refine bb_iload_n dX7_swaps_0 rfl ?_
  obtain ⟨r1, h1, hf⟩ := bb_bind hf
  refine bb_invS (as := [.int x1]) is_X7_106 (by unfold bb_rr; decide) dX7_swaps_1 rfl rfl (Nat.le_of_ble_eq_true rfl) (ok_X7_isHour h1) ?_
  refine bb_if_ne (tgt := 9) dX7_swaps_4 (by decide) (fun c4 => ?_) (fun c4 => ?_)
  · rw [if_neg c4] at hf
    refine bb_aload_n dX7_swaps_9 rfl ?_
    obtain ⟨t10, h10, hf⟩ := bb_bind hf
    refine bb_getR fl_X7_12 dX7_swaps_10 h10 ?_
    obtain ⟨t13, h13, hf⟩ := bb_bind hf
    refine bb_getR fl_X7_87 dX7_swaps_13 h13 ?_
    refine bb_astore_n (L' := [.ref x0, .int x1, .ref t13, .null, .null, .null, .null]) dX7_swaps_16 (by decide) rfl rfl ?_
    refine bb_aload_n dX7_swaps_17 rfl ?_
    obtain ⟨t18, h18, hf⟩ := bb_bind hf
    refine bb_getR fl_X7_12 dX7_swaps_18 h18 ?_
    obtain ⟨t21, h21, hf⟩ := bb_bind hf
    refine bb_getR fl_X7_66 dX7_swaps_21 h21 ?_
    obtain ⟨t24, h24, hf⟩ := bb_bind hf
    refine bb_getR fl_X7_113 dX7_swaps_24 h24 ?_
    refine bb_iload_n dX7_swaps_27 rfl ?_
    obtain ⟨t28, h28, hf⟩ := bb_bind hf
    refine bb_aaload (t0 := 5) (fun _ => rfl) rfl (fun _ _ => rfl) dX7_swaps_28 h28 ?_
    refine bb_astore_n (L' := [.ref x0, .int x1, .ref t13, .ref t28, .null, .null, .null]) dX7_swaps_29 (by decide) rfl rfl ?_
    refine bb_iconst (v := 0) dX7_swaps_30 (by decide) ?_
    refine bb_istore (L' := [.ref x0, .int x1, .ref t13, .ref t28, .int 0, .null, .null]) dX7_swaps_31 (by decide) rfl rfl ?_
    refine bb_iconst (v := 0) dX7_swaps_33 (by decide) ?_
    refine bb_istore (L' := [.ref x0, .int x1, .ref t13, .ref t28, .int 0, .int 0, .null]) dX7_swaps_34 (by decide) rfl rfl ?_
    refine bb_fewer (L' := [.null, .null, .ref t13, .ref t28, .int 0, .int 0, .null]) (And.intro rfl (And.intro rfl (And.intro rfl (And.intro rfl trivial)))) ?_
    exact j_X7_swaps_36 _ _ _ _ _ _ hf
  rw [if_pos c4] at hf
  refine bb_iconst (v := (-1)) dX7_swaps_7 (by decide) ?_
  obtain rfl := Option.some.inj hf
  exact bb_iret rfl rfl dX7_swaps_8
theorem ok_X7_swaps {x0 : Nat} {x1 : Int32} {h : bb_H} {r : Int32 × bb_H} (hf : m_X7_swaps x0 x1 h = some r) : bb_Ok yX7_swaps cX7_swaps 7 (some .int) rm_X7_swaps [.ref x0, .int x1] h (some (.int r.1), r.2) :=
  bb_ok (L := [.ref x0, .int x1, .null, .null, .null, .null, .null]) (by decide) (Nat.le_of_ble_eq_true rfl) rfl (bb_fewer (L' := [.ref x0, .int x1, .null, .null, .null, .null, .null]) (And.intro rfl (And.intro rfl trivial)) (j_X7_swaps_0 _ _ _ hf))
abbrev rm_X7_measureChains : Room := { frames := 1, cells := 0, slots := 0, locals := 21 }
set_option maxRecDepth 100000 in
set_option maxHeartbeats 4000000 in
theorem j_X7_measureChains_76 {r : Int32 × bb_H} {k18 : Nat → Nat → Nat → Int32 → Int32 → bb_H → Option (Int32 × bb_H)} {k32 : Nat → Nat → Nat → Int32 → Int32 → Int32 → Int32 → bb_H → Option (Int32 × bb_H)} (hk18 : ∀ (x0 : Nat) (x1 : Nat) (x2 : Nat) (x3 : Int32) (x4 : Int32) (h : bb_H), k18 x0 x1 x2 x3 x4 h = some r → bb_J RX7 cX7_measureChains 7 (some .int) rm_X7_measureChains (some (.int r.1), r.2) 18 [.ref x0, .ref x1, .ref x2, .int x3, .int x4, .null, .null] [] h) (hk32 : ∀ (x0 : Nat) (x1 : Nat) (x2 : Nat) (x3 : Int32) (x4 : Int32) (x5 : Int32) (x6 : Int32) (h : bb_H), k32 x0 x1 x2 x3 x4 x5 x6 h = some r → bb_J RX7 cX7_measureChains 7 (some .int) rm_X7_measureChains (some (.int r.1), r.2) 32 [.ref x0, .ref x1, .ref x2, .int x3, .int x4, .int x5, .int x6] [] h) : ∀ (x0 : Nat) (x1 : Nat) (x2 : Nat) (x3 : Int32) (x4 : Int32) (x5 : Int32) (x6 : Int32) (h : bb_H), m_X7_measureChains_76 k18 k32 x0 x1 x2 x3 x4 x5 x6 h = some r → bb_J RX7 cX7_measureChains 7 (some .int) rm_X7_measureChains (some (.int r.1), r.2) 76 [.ref x0, .ref x1, .ref x2, .int x3, .int x4, .int x5, .int x6] [] h := by
  intro x0 x1 x2 x3 x4 x5 x6 h hf
  unfold m_X7_measureChains_76 at hf
  refine bb_iinc (v := x6 + 1) (L' := [.ref x0, .ref x1, .ref x2, .int x3, .int x4, .int x5, .int (x6 + 1)]) dX7_measureChains_76 rfl rfl (by decide) rfl rfl ?_
  refine bb_goto (tgt := 32) dX7_measureChains_79 (by decide) ?_
  refine bb_fewer (L' := [.ref x0, .ref x1, .ref x2, .int x3, .int x4, .int x5, .int (x6 + 1)]) (And.intro rfl (And.intro rfl (And.intro rfl (And.intro rfl (And.intro rfl (And.intro rfl (And.intro rfl trivial))))))) ?_
  exact hk32 _ _ _ _ _ _ _ _ hf
set_option maxRecDepth 100000 in
set_option maxHeartbeats 4000000 in
theorem j_X7_measureChains_32 {r : Int32 × bb_H} {k18 : Nat → Nat → Nat → Int32 → Int32 → bb_H → Option (Int32 × bb_H)} (hk18 : ∀ (x0 : Nat) (x1 : Nat) (x2 : Nat) (x3 : Int32) (x4 : Int32) (h : bb_H), k18 x0 x1 x2 x3 x4 h = some r → bb_J RX7 cX7_measureChains 7 (some .int) rm_X7_measureChains (some (.int r.1), r.2) 18 [.ref x0, .ref x1, .ref x2, .int x3, .int x4, .null, .null] [] h) : ∀ (n : Nat) (x0 : Nat) (x1 : Nat) (x2 : Nat) (x3 : Int32) (x4 : Int32) (x5 : Int32) (x6 : Int32) (h : bb_H), m_X7_measureChains_32 k18 n x0 x1 x2 x3 x4 x5 x6 h = some r → bb_J RX7 cX7_measureChains 7 (some .int) rm_X7_measureChains (some (.int r.1), r.2) 32 [.ref x0, .ref x1, .ref x2, .int x3, .int x4, .int x5, .int x6] [] h := by
  intro n
  induction n with
  | zero =>
    intro x0 x1 x2 x3 x4 x5 x6 h hf
    exact absurd hf (fun z => by cases z)
  | succ n ih =>
    intro x0 x1 x2 x3 x4 x5 x6 h hf
    unfold m_X7_measureChains_32 at hf
    refine bb_iload dX7_measureChains_32 rfl ?_
    refine bb_aload_n dX7_measureChains_34 rfl ?_
    obtain ⟨t35, h35, hf⟩ := bb_bind hf
    refine bb_getI fl_X7_161 dX7_measureChains_35 h35 ?_
    refine bb_icmp_ge (tgt := 82) dX7_measureChains_38 (by decide) (fun c38 => ?_) (fun c38 => ?_)
    · rw [if_pos c38] at hf
      refine bb_aload_n dX7_measureChains_82 rfl ?_
      obtain ⟨t83, h83, hf⟩ := bb_bind hf
      refine bb_getR fl_X7_57 dX7_measureChains_83 h83 ?_
      refine bb_iload dX7_measureChains_86 rfl ?_
      refine bb_iload dX7_measureChains_88 rfl ?_
      refine bb_iconst (v := 1) dX7_measureChains_90 (by decide) ?_
      refine bb_iadd dX7_measureChains_91 ?_
      obtain ⟨g92, h92, hf⟩ := bb_bind hf
      refine bb_iastore dX7_measureChains_92 h92 ?_
      refine bb_iload_n dX7_measureChains_93 rfl ?_
      refine bb_aload_n dX7_measureChains_94 rfl ?_
      obtain ⟨t95, h95, hf⟩ := bb_bind hf
      refine bb_getR fl_X7_57 dX7_measureChains_95 h95 ?_
      refine bb_iload dX7_measureChains_98 rfl ?_
      obtain ⟨t100, h100, hf⟩ := bb_bind hf
      refine bb_iaload dX7_measureChains_100 h100 ?_
      refine bb_mmax imax_X7_330 (by decide) (by decide) (Nat.le_of_ble_eq_true rfl) dX7_measureChains_101 ?_
      refine bb_istore_n (L' := [.ref x0, .ref x1, .ref x2, .int (bb_max x3 t100), .int x4, .int x5, .int x6]) dX7_measureChains_104 (by decide) rfl rfl ?_
      refine bb_iinc (v := x4 + (-1)) (L' := [.ref x0, .ref x1, .ref x2, .int (bb_max x3 t100), .int (x4 + (-1)), .int x5, .int x6]) dX7_measureChains_105 rfl rfl (by decide) rfl rfl ?_
      refine bb_goto (tgt := 18) dX7_measureChains_108 (by decide) ?_
      refine bb_fewer (L' := [.ref x0, .ref x1, .ref x2, .int (bb_max x3 t100), .int (x4 + (-1)), .null, .null]) (And.intro rfl (And.intro rfl (And.intro rfl (And.intro rfl (And.intro rfl trivial))))) ?_
      exact hk18 _ _ _ _ _ _ hf
    rw [if_neg c38] at hf
    refine bb_aload_n dX7_measureChains_41 rfl ?_
    refine bb_aload_n dX7_measureChains_42 rfl ?_
    obtain ⟨t43, h43, hf⟩ := bb_bind hf
    refine bb_getR fl_X7_173 dX7_measureChains_43 h43 ?_
    refine bb_iload dX7_measureChains_46 rfl ?_
    obtain ⟨t48, h48, hf⟩ := bb_bind hf
    refine bb_iaload dX7_measureChains_48 h48 ?_
    obtain ⟨t49, h49, hf⟩ := bb_bind hf
    refine bb_iaload dX7_measureChains_49 h49 ?_
    refine bb_aload_n dX7_measureChains_50 rfl ?_
    refine bb_aload_n dX7_measureChains_51 rfl ?_
    obtain ⟨t52, h52, hf⟩ := bb_bind hf
    refine bb_getR fl_X7_173 dX7_measureChains_52 h52 ?_
    refine bb_iload dX7_measureChains_55 rfl ?_
    obtain ⟨t57, h57, hf⟩ := bb_bind hf
    refine bb_iaload dX7_measureChains_57 h57 ?_
    obtain ⟨t58, h58, hf⟩ := bb_bind hf
    refine bb_iaload dX7_measureChains_58 h58 ?_
    refine bb_icmp_le (tgt := 76) dX7_measureChains_59 (by decide) (fun c59 => ?_) (fun c59 => ?_)
    · rw [if_pos c59] at hf
      refine bb_fewer (L' := [.ref x0, .ref x1, .ref x2, .int x3, .int x4, .int x5, .int x6]) (And.intro rfl (And.intro rfl (And.intro rfl (And.intro rfl (And.intro rfl (And.intro rfl (And.intro rfl trivial))))))) ?_
      exact j_X7_measureChains_76 hk18 ih _ _ _ _ _ _ _ _ hf
    rw [if_neg c59] at hf
    refine bb_iload dX7_measureChains_62 rfl ?_
    refine bb_aload_n dX7_measureChains_64 rfl ?_
    obtain ⟨t65, h65, hf⟩ := bb_bind hf
    refine bb_getR fl_X7_57 dX7_measureChains_65 h65 ?_
    refine bb_iload dX7_measureChains_68 rfl ?_
    obtain ⟨t70, h70, hf⟩ := bb_bind hf
    refine bb_iaload dX7_measureChains_70 h70 ?_
    refine bb_mmax imax_X7_330 (by decide) (by decide) (Nat.le_of_ble_eq_true rfl) dX7_measureChains_71 ?_
    refine bb_istore (L' := [.ref x0, .ref x1, .ref x2, .int x3, .int x4, .int (bb_max x5 t70), .int x6]) dX7_measureChains_74 (by decide) rfl rfl ?_
    refine bb_fewer (L' := [.ref x0, .ref x1, .ref x2, .int x3, .int x4, .int (bb_max x5 t70), .int x6]) (And.intro rfl (And.intro rfl (And.intro rfl (And.intro rfl (And.intro rfl (And.intro rfl (And.intro rfl trivial))))))) ?_
    exact j_X7_measureChains_76 hk18 ih _ _ _ _ _ _ _ _ hf
set_option maxRecDepth 100000 in
set_option maxHeartbeats 4000000 in
theorem j_X7_measureChains_18 {r : Int32 × bb_H} : ∀ (n : Nat) (x0 : Nat) (x1 : Nat) (x2 : Nat) (x3 : Int32) (x4 : Int32) (h : bb_H), m_X7_measureChains_18 n x0 x1 x2 x3 x4 h = some r → bb_J RX7 cX7_measureChains 7 (some .int) rm_X7_measureChains (some (.int r.1), r.2) 18 [.ref x0, .ref x1, .ref x2, .int x3, .int x4, .null, .null] [] h := by
  intro n
  induction n with
  | zero =>
    intro x0 x1 x2 x3 x4 h hf
    exact absurd hf (fun z => by cases z)
  | succ n ih =>
    intro x0 x1 x2 x3 x4 h hf
    unfold m_X7_measureChains_18 at hf
    refine bb_iload dX7_measureChains_18 rfl ?_
    refine bb_if_lt (tgt := 111) dX7_measureChains_20 (by decide) (fun c20 => ?_) (fun c20 => ?_)
    · rw [if_pos c20] at hf
      refine bb_iload_n dX7_measureChains_111 rfl ?_
      obtain rfl := Option.some.inj hf
      exact bb_iret rfl rfl dX7_measureChains_112
    rw [if_neg c20] at hf
    refine bb_iconst (v := 0) dX7_measureChains_23 (by decide) ?_
    refine bb_istore (L' := [.ref x0, .ref x1, .ref x2, .int x3, .int x4, .int 0, .null]) dX7_measureChains_24 (by decide) rfl rfl ?_
    refine bb_iload dX7_measureChains_26 rfl ?_
    refine bb_iconst (v := 1) dX7_measureChains_28 (by decide) ?_
    refine bb_iadd dX7_measureChains_29 ?_
    refine bb_istore (L' := [.ref x0, .ref x1, .ref x2, .int x3, .int x4, .int 0, .int (x4 + 1)]) dX7_measureChains_30 (by decide) rfl rfl ?_
    refine bb_fewer (L' := [.ref x0, .ref x1, .ref x2, .int x3, .int x4, .int 0, .int (x4 + 1)]) (And.intro rfl (And.intro rfl (And.intro rfl (And.intro rfl (And.intro rfl (And.intro rfl (And.intro rfl trivial))))))) ?_
    exact j_X7_measureChains_32 ih _ _ _ _ _ _ _ _ _ hf
set_option maxRecDepth 100000 in
set_option maxHeartbeats 4000000 in
theorem j_X7_measureChains_0 {r : Int32 × bb_H} : ∀ (x0 : Nat) (x1 : Nat) (h : bb_H), m_X7_measureChains x0 x1 h = some r → bb_J RX7 cX7_measureChains 7 (some .int) rm_X7_measureChains (some (.int r.1), r.2) 0 [.ref x0, .ref x1, .null, .null, .null, .null, .null] [] h := by
  intro x0 x1 h hf
  unfold m_X7_measureChains at hf
  refine bb_aload_n dX7_measureChains_0 rfl ?_
  obtain ⟨t1, h1, hf⟩ := bb_bind hf
  refine bb_getR fl_X7_12 dX7_measureChains_1 h1 ?_
  obtain ⟨t4, h4, hf⟩ := bb_bind hf
  refine bb_getR fl_X7_87 dX7_measureChains_4 h4 ?_
  refine bb_astore_n (L' := [.ref x0, .ref x1, .ref t4, .null, .null, .null, .null]) dX7_measureChains_7 (by decide) rfl rfl ?_
  refine bb_iconst (v := 0) dX7_measureChains_8 (by decide) ?_
  refine bb_istore_n (L' := [.ref x0, .ref x1, .ref t4, .int 0, .null, .null, .null]) dX7_measureChains_9 (by decide) rfl rfl ?_
  refine bb_aload_n dX7_measureChains_10 rfl ?_
  obtain ⟨t11, h11, hf⟩ := bb_bind hf
  refine bb_getI fl_X7_161 dX7_measureChains_11 h11 ?_
  refine bb_iconst (v := 1) dX7_measureChains_14 (by decide) ?_
  refine bb_isub dX7_measureChains_15 ?_
  refine bb_istore (L' := [.ref x0, .ref x1, .ref t4, .int 0, .int (t11 - 1), .null, .null]) dX7_measureChains_16 (by decide) rfl rfl ?_
  refine bb_fewer (L' := [.ref x0, .ref x1, .ref t4, .int 0, .int (t11 - 1), .null, .null]) (And.intro rfl (And.intro rfl (And.intro rfl (And.intro rfl (And.intro rfl trivial))))) ?_
  exact j_X7_measureChains_18 _ _ _ _ _ _ _ hf
theorem ok_X7_measureChains {x0 : Nat} {x1 : Nat} {h : bb_H} {r : Int32 × bb_H} (hf : m_X7_measureChains x0 x1 h = some r) : bb_Ok yX7_measureChains cX7_measureChains 7 (some .int) rm_X7_measureChains [.ref x0, .ref x1] h (some (.int r.1), r.2) :=
  bb_ok (L := [.ref x0, .ref x1, .null, .null, .null, .null, .null]) (by decide) (Nat.le_of_ble_eq_true rfl) rfl (bb_fewer (L' := [.ref x0, .ref x1, .null, .null, .null, .null, .null]) (And.intro rfl (And.intro rfl trivial)) (j_X7_measureChains_0 _ _ _ hf))
abbrev rm_X7_whoCouldStay : Room := { frames := 2, cells := 0, slots := 0, locals := 47 }
set_option maxRecDepth 100000 in
set_option maxHeartbeats 4000000 in
theorem j_X7_whoCouldStay_83 {r : Int32 × bb_H} {k23 : Nat → Nat → Nat → Int32 → Int32 → Int32 → Int32 → bb_H → Option (Int32 × bb_H)} (hk23 : ∀ (x0 : Nat) (x1 : Nat) (x2 : Nat) (x3 : Int32) (x4 : Int32) (x5 : Int32) (x6 : Int32) (h : bb_H), k23 x0 x1 x2 x3 x4 x5 x6 h = some r → bb_J RX7 cX7_whoCouldStay 8 (some .int) rm_X7_whoCouldStay (some (.int r.1), r.2) 23 [.ref x0, .ref x1, .ref x2, .int x3, .int x4, .int x5, .int x6, .null] [] h) : ∀ (x0 : Nat) (x1 : Nat) (x2 : Nat) (x3 : Int32) (x4 : Int32) (x5 : Int32) (x6 : Int32) (h : bb_H), m_X7_whoCouldStay_83 k23 x0 x1 x2 x3 x4 x5 x6 h = some r → bb_J RX7 cX7_whoCouldStay 8 (some .int) rm_X7_whoCouldStay (some (.int r.1), r.2) 83 [.ref x0, .ref x1, .ref x2, .int x3, .int x4, .int x5, .int x6, .null] [] h := by
  intro x0 x1 x2 x3 x4 x5 x6 h hf
  unfold m_X7_whoCouldStay_83 at hf
  refine bb_iinc (v := x6 + 1) (L' := [.ref x0, .ref x1, .ref x2, .int x3, .int x4, .int x5, .int (x6 + 1), .null]) dX7_whoCouldStay_83 rfl rfl (by decide) rfl rfl ?_
  refine bb_goto (tgt := 23) dX7_whoCouldStay_86 (by decide) ?_
  refine bb_fewer (L' := [.ref x0, .ref x1, .ref x2, .int x3, .int x4, .int x5, .int (x6 + 1), .null]) (And.intro rfl (And.intro rfl (And.intro rfl (And.intro rfl (And.intro rfl (And.intro rfl (And.intro rfl trivial))))))) ?_
  exact hk23 _ _ _ _ _ _ _ _ hf
set_option maxRecDepth 100000 in
set_option maxHeartbeats 4000000 in
theorem j_X7_whoCouldStay_23 {r : Int32 × bb_H} : ∀ (n : Nat) (x0 : Nat) (x1 : Nat) (x2 : Nat) (x3 : Int32) (x4 : Int32) (x5 : Int32) (x6 : Int32) (h : bb_H), m_X7_whoCouldStay_23 n x0 x1 x2 x3 x4 x5 x6 h = some r → bb_J RX7 cX7_whoCouldStay 8 (some .int) rm_X7_whoCouldStay (some (.int r.1), r.2) 23 [.ref x0, .ref x1, .ref x2, .int x3, .int x4, .int x5, .int x6, .null] [] h := by
  intro n
  induction n with
  | zero =>
    intro x0 x1 x2 x3 x4 x5 x6 h hf
    exact absurd hf (fun z => by cases z)
  | succ n ih =>
    intro x0 x1 x2 x3 x4 x5 x6 h hf
    unfold m_X7_whoCouldStay_23 at hf
    refine bb_iload dX7_whoCouldStay_23 rfl ?_
    refine bb_aload_n dX7_whoCouldStay_25 rfl ?_
    obtain ⟨t26, h26, hf⟩ := bb_bind hf
    refine bb_getI fl_X7_161 dX7_whoCouldStay_26 h26 ?_
    refine bb_icmp_ge (tgt := 89) dX7_whoCouldStay_29 (by decide) (fun c29 => ?_) (fun c29 => ?_)
    · rw [if_pos c29] at hf
      refine bb_iload dX7_whoCouldStay_89 rfl ?_
      obtain rfl := Option.some.inj hf
      exact bb_iret rfl rfl dX7_whoCouldStay_91
    rw [if_neg c29] at hf
    refine bb_aload_n dX7_whoCouldStay_32 rfl ?_
    obtain ⟨t33, h33, hf⟩ := bb_bind hf
    refine bb_getR fl_X7_173 dX7_whoCouldStay_33 h33 ?_
    refine bb_iload dX7_whoCouldStay_36 rfl ?_
    obtain ⟨t38, h38, hf⟩ := bb_bind hf
    refine bb_iaload dX7_whoCouldStay_38 h38 ?_
    refine bb_istore (L' := [.ref x0, .ref x1, .ref x2, .int x3, .int x4, .int x5, .int x6, .int t38]) dX7_whoCouldStay_39 (by decide) rfl rfl ?_
    refine bb_iload_n dX7_whoCouldStay_41 rfl ?_
    refine bb_if_le (tgt := 83) dX7_whoCouldStay_42 (by decide) (fun c42 => ?_) (fun c42 => ?_)
    · rw [if_pos c42] at hf
      refine bb_fewer (L' := [.ref x0, .ref x1, .ref x2, .int x3, .int x4, .int x5, .int x6, .null]) (And.intro rfl (And.intro rfl (And.intro rfl (And.intro rfl (And.intro rfl (And.intro rfl (And.intro rfl trivial))))))) ?_
      exact j_X7_whoCouldStay_83 ih _ _ _ _ _ _ _ _ hf
    rw [if_neg c42] at hf
    refine bb_aload_n dX7_whoCouldStay_45 rfl ?_
    refine bb_iload dX7_whoCouldStay_46 rfl ?_
    obtain ⟨t48, h48, hf⟩ := bb_bind hf
    refine bb_iaload dX7_whoCouldStay_48 h48 ?_
    refine bb_iload dX7_whoCouldStay_49 rfl ?_
    refine bb_icmp_le (tgt := 83) dX7_whoCouldStay_51 (by decide) (fun c51 => ?_) (fun c51 => ?_)
    · rw [if_pos c51] at hf
      refine bb_fewer (L' := [.ref x0, .ref x1, .ref x2, .int x3, .int x4, .int x5, .int x6, .null]) (And.intro rfl (And.intro rfl (And.intro rfl (And.intro rfl (And.intro rfl (And.intro rfl (And.intro rfl trivial))))))) ?_
      exact j_X7_whoCouldStay_83 ih _ _ _ _ _ _ _ _ hf
    rw [if_neg c51] at hf
    refine bb_aload_n dX7_whoCouldStay_54 rfl ?_
    obtain ⟨t55, h55, hf⟩ := bb_bind hf
    refine bb_getR fl_X7_57 dX7_whoCouldStay_55 h55 ?_
    refine bb_iload dX7_whoCouldStay_58 rfl ?_
    obtain ⟨t60, h60, hf⟩ := bb_bind hf
    refine bb_iaload dX7_whoCouldStay_60 h60 ?_
    refine bb_iload_n dX7_whoCouldStay_61 rfl ?_
    refine bb_icmp_ne (tgt := 83) dX7_whoCouldStay_62 (by decide) (fun c62 => ?_) (fun c62 => ?_)
    · rw [if_neg c62] at hf
      refine bb_fewer (L' := [.ref x0, .ref x1, .ref x2, .int x3, .int x4, .int x5, .int x6, .null]) (And.intro rfl (And.intro rfl (And.intro rfl (And.intro rfl (And.intro rfl (And.intro rfl (And.intro rfl trivial))))))) ?_
      exact j_X7_whoCouldStay_83 ih _ _ _ _ _ _ _ _ hf
    rw [if_pos c62] at hf
    refine bb_iload dX7_whoCouldStay_65 rfl ?_
    refine bb_iconst (v := 1) dX7_whoCouldStay_67 (by decide) ?_
    refine bb_iload dX7_whoCouldStay_68 rfl ?_
    refine bb_ishl dX7_whoCouldStay_70 ?_
    refine bb_ior dX7_whoCouldStay_71 ?_
    refine bb_istore (L' := [.ref x0, .ref x1, .ref x2, .int x3, .int (x4 ||| (1 <<< (t38 &&& 31))), .int x5, .int x6, .int t38]) dX7_whoCouldStay_72 (by decide) rfl rfl ?_
    refine bb_aload_n dX7_whoCouldStay_74 rfl ?_
    refine bb_iload dX7_whoCouldStay_75 rfl ?_
    obtain ⟨t77, h77, hf⟩ := bb_bind hf
    refine bb_iaload dX7_whoCouldStay_77 h77 ?_
    refine bb_istore (L' := [.ref x0, .ref x1, .ref x2, .int x3, .int (x4 ||| (1 <<< (t38 &&& 31))), .int t77, .int x6, .int t38]) dX7_whoCouldStay_78 (by decide) rfl rfl ?_
    refine bb_iinc (v := x3 + (-1)) (L' := [.ref x0, .ref x1, .ref x2, .int (x3 + (-1)), .int (x4 ||| (1 <<< (t38 &&& 31))), .int t77, .int x6, .int t38]) dX7_whoCouldStay_80 rfl rfl (by decide) rfl rfl ?_
    refine bb_fewer (L' := [.ref x0, .ref x1, .ref x2, .int (x3 + (-1)), .int (x4 ||| (1 <<< (t38 &&& 31))), .int t77, .int x6, .null]) (And.intro rfl (And.intro rfl (And.intro rfl (And.intro rfl (And.intro rfl (And.intro rfl (And.intro rfl trivial))))))) ?_
    exact j_X7_whoCouldStay_83 ih _ _ _ _ _ _ _ _ hf
set_option maxRecDepth 100000 in
set_option maxHeartbeats 4000000 in
theorem j_X7_whoCouldStay_0 {r : Int32 × bb_H} : ∀ (x0 : Nat) (x1 : Nat) (h : bb_H), m_X7_whoCouldStay x0 x1 h = some r → bb_J RX7 cX7_whoCouldStay 8 (some .int) rm_X7_whoCouldStay (some (.int r.1), r.2) 0 [.ref x0, .ref x1, .null, .null, .null, .null, .null, .null] [] h := by
  intro x0 x1 h hf
  unfold m_X7_whoCouldStay at hf
  refine bb_aload_n dX7_whoCouldStay_0 rfl ?_
  obtain ⟨t1, h1, hf⟩ := bb_bind hf
  refine bb_getR fl_X7_12 dX7_whoCouldStay_1 h1 ?_
  obtain ⟨t4, h4, hf⟩ := bb_bind hf
  refine bb_getR fl_X7_87 dX7_whoCouldStay_4 h4 ?_
  refine bb_astore_n (L' := [.ref x0, .ref x1, .ref t4, .null, .null, .null, .null, .null]) dX7_whoCouldStay_7 (by decide) rfl rfl ?_
  refine bb_aload_n dX7_whoCouldStay_8 rfl ?_
  refine bb_aload_n dX7_whoCouldStay_9 rfl ?_
  obtain ⟨r10, h10, hf⟩ := bb_bind hf
  obtain ⟨⟨v10, b10⟩, h10⟩ := bb_rcv_spec h10
  refine bb_invV (ci := 7) (as := [.ref x1]) iv_X7_327 (by unfold bb_rr; decide) rfl dX7_whoCouldStay_10 rfl rfl b10 (Nat.le_of_ble_eq_true rfl) (ok_X7_measureChains h10) ?_
  refine bb_istore_n (L' := [.ref x0, .ref x1, .ref t4, .int r10.1, .null, .null, .null, .null]) dX7_whoCouldStay_13 (by decide) rfl rfl ?_
  refine bb_iconst (v := 0) dX7_whoCouldStay_14 (by decide) ?_
  refine bb_istore (L' := [.ref x0, .ref x1, .ref t4, .int r10.1, .int 0, .null, .null, .null]) dX7_whoCouldStay_15 (by decide) rfl rfl ?_
  refine bb_iconst (v := (-1)) dX7_whoCouldStay_17 (by decide) ?_
  refine bb_istore (L' := [.ref x0, .ref x1, .ref t4, .int r10.1, .int 0, .int (-1), .null, .null]) dX7_whoCouldStay_18 (by decide) rfl rfl ?_
  refine bb_iconst (v := 0) dX7_whoCouldStay_20 (by decide) ?_
  refine bb_istore (L' := [.ref x0, .ref x1, .ref t4, .int r10.1, .int 0, .int (-1), .int 0, .null]) dX7_whoCouldStay_21 (by decide) rfl rfl ?_
  refine bb_fewer (L' := [.ref x0, .ref x1, .ref t4, .int r10.1, .int 0, .int (-1), .int 0, .null]) (And.intro rfl (And.intro rfl (And.intro rfl (And.intro rfl (And.intro rfl (And.intro rfl (And.intro rfl trivial))))))) ?_
  exact j_X7_whoCouldStay_23 _ _ _ _ _ _ _ _ _ hf
theorem ok_X7_whoCouldStay {x0 : Nat} {x1 : Nat} {h : bb_H} {r : Int32 × bb_H} (hf : m_X7_whoCouldStay x0 x1 h = some r) : bb_Ok yX7_whoCouldStay cX7_whoCouldStay 8 (some .int) rm_X7_whoCouldStay [.ref x0, .ref x1] h (some (.int r.1), r.2) :=
  bb_ok (L := [.ref x0, .ref x1, .null, .null, .null, .null, .null, .null]) (by decide) (Nat.le_of_ble_eq_true rfl) rfl (bb_fewer (L' := [.ref x0, .ref x1, .null, .null, .null, .null, .null, .null]) (And.intro rfl (And.intro rfl trivial)) (j_X7_whoCouldStay_0 _ _ _ hf))
abbrev rm_X7_stay : Room := { frames := 3, cells := 0, slots := 0, locals := 74 }
set_option maxRecDepth 100000 in
set_option maxHeartbeats 4000000 in
theorem j_X7_stay_16 {r : Int32 × bb_H} : ∀ (h : bb_H), m_X7_stay_16 h = some r → bb_J RX7 cX7_stay 4 (some .int) rm_X7_stay (some (.int r.1), r.2) 16 [.null, .null, .null, .null] [] h := by
  intro h hf
  unfold m_X7_stay_16 at hf
  refine bb_iconst (v := (-1)) dX7_stay_16 (by decide) ?_
  obtain rfl := Option.some.inj hf
  exact bb_iret rfl rfl dX7_stay_17
set_option maxRecDepth 100000 in
set_option maxHeartbeats 4000000 in
theorem j_X7_stay_47 {r : Int32 × bb_H} : ∀ (z0 : Int32) (h : bb_H), m_X7_stay_47 z0 h = some r → bb_J RX7 cX7_stay 4 (some .int) rm_X7_stay (some (.int r.1), r.2) 47 [.null, .null, .null, .null] [.int z0] h := by
  intro z0 h hf
  unfold m_X7_stay_47 at hf
  obtain rfl := Option.some.inj hf
  exact bb_iret rfl rfl dX7_stay_47
set_option maxRecDepth 100000 in
set_option maxHeartbeats 4000000 in
theorem j_X7_stay_0 {r : Int32 × bb_H} : ∀ (x0 : Nat) (x1 : Int32) (x2 : Int32) (h : bb_H), m_X7_stay x0 x1 x2 h = some r → bb_J RX7 cX7_stay 4 (some .int) rm_X7_stay (some (.int r.1), r.2) 0 [.ref x0, .int x1, .int x2, .null] [] h := by
  intro x0 x1 x2 h hf
  unfold m_X7_stay at hf
  refine bb_iload_n dX7_stay_0 rfl ?_
  obtain ⟨r1, h1, hf⟩ := bb_bind hf
  refine bb_invS (as := [.int x1]) is_X7_106 (by unfold bb_rr; decide) dX7_stay_1 rfl rfl (Nat.le_of_ble_eq_true rfl) (ok_X7_isHour h1) ?_
  refine bb_if_eq (tgt := 16) dX7_stay_4 (by decide) (fun c4 => ?_) (fun c4 => ?_)
  · rw [if_pos c4] at hf
    refine bb_fewer (L' := [.null, .null, .null, .null]) trivial ?_
    exact j_X7_stay_16 _ hf
  rw [if_neg c4] at hf
  refine bb_iload_n dX7_stay_7 rfl ?_
  refine bb_iconst (v := 0) dX7_stay_8 (by decide) ?_
  refine bb_iconst (v := 1) dX7_stay_9 (by decide) ?_
  obtain ⟨r10, h10, hf⟩ := bb_bind hf
  refine bb_invS (as := [.int x2, .int 0, .int 1]) is_X7_62 (by unfold bb_rr; decide) dX7_stay_10 rfl rfl (Nat.le_of_ble_eq_true rfl) (ok_X7_within h10) ?_
  refine bb_if_ne (tgt := 18) dX7_stay_13 (by decide) (fun c13 => ?_) (fun c13 => ?_)
  · rw [if_neg c13] at hf
    refine bb_aload_n dX7_stay_18 rfl ?_
    refine bb_aload_n dX7_stay_19 rfl ?_
    obtain ⟨t20, h20, hf⟩ := bb_bind hf
    refine bb_getR fl_X7_12 dX7_stay_20 h20 ?_
    obtain ⟨t23, h23, hf⟩ := bb_bind hf
    refine bb_getR fl_X7_66 dX7_stay_23 h23 ?_
    obtain ⟨t26, h26, hf⟩ := bb_bind hf
    refine bb_getR fl_X7_113 dX7_stay_26 h26 ?_
    refine bb_iload_n dX7_stay_29 rfl ?_
    obtain ⟨t30, h30, hf⟩ := bb_bind hf
    refine bb_aaload (t0 := 5) (fun _ => rfl) rfl (fun _ _ => rfl) dX7_stay_30 h30 ?_
    obtain ⟨r31, h31, hf⟩ := bb_bind hf
    obtain ⟨⟨v31, b31⟩, h31⟩ := bb_rcv_spec h31
    refine bb_invV (ci := 7) (as := [.ref t30]) iv_X7_223 (by unfold bb_rr; decide) rfl dX7_stay_31 rfl rfl b31 (Nat.le_of_ble_eq_true rfl) (ok_X7_whoCouldStay h31) ?_
    refine bb_istore_n (L' := [.ref x0, .int x1, .int x2, .int r31.1]) dX7_stay_34 (by decide) rfl rfl ?_
    refine bb_iload_n dX7_stay_35 rfl ?_
    refine bb_if_ne (tgt := 46) dX7_stay_36 (by decide) (fun c36 => ?_) (fun c36 => ?_)
    · rw [if_neg c36] at hf
      refine bb_iload_n dX7_stay_46 rfl ?_
      refine bb_fewer (L' := [.null, .null, .null, .null]) trivial ?_
      exact j_X7_stay_47 _ _ hf
    rw [if_pos c36] at hf
    refine bb_iload_n dX7_stay_39 rfl ?_
    obtain ⟨r40, h40, hf⟩ := bb_bind hf
    refine bb_invS (as := [.int r31.1]) is_X7_227 (by unfold bb_rr; decide) dX7_stay_40 rfl rfl (Nat.le_of_ble_eq_true rfl) (ok_J6_bitCount_0f7a4 h40) ?_
    refine bb_goto (tgt := 47) dX7_stay_43 (by decide) ?_
    refine bb_fewer (L' := [.null, .null, .null, .null]) trivial ?_
    exact j_X7_stay_47 _ _ hf
  rw [if_pos c13] at hf
  refine bb_fewer (L' := [.null, .null, .null, .null]) trivial ?_
  exact j_X7_stay_16 _ hf
theorem ok_X7_stay {x0 : Nat} {x1 : Int32} {x2 : Int32} {h : bb_H} {r : Int32 × bb_H} (hf : m_X7_stay x0 x1 x2 h = some r) : bb_Ok yX7_stay cX7_stay 4 (some .int) rm_X7_stay [.ref x0, .int x1, .int x2] h (some (.int r.1), r.2) :=
  bb_ok (L := [.ref x0, .int x1, .int x2, .null]) (by decide) (Nat.le_of_ble_eq_true rfl) rfl (bb_fewer (L' := [.ref x0, .int x1, .int x2, .null]) (And.intro rfl (And.intro rfl (And.intro rfl trivial))) (j_X7_stay_0 _ _ _ _ hf))
abbrev rm_X7_ways : Room := { frames := 2, cells := 0, slots := 0, locals := 47 }
set_option maxRecDepth 100000 in
set_option maxHeartbeats 4000000 in
theorem j_X7_ways_74 {r : Int32 × bb_H} : ∀ (x1 : Int32) (h : bb_H), m_X7_ways_74 x1 h = some r → bb_J RX7 cX7_ways 3 (some .int) rm_X7_ways (some (.int r.1), r.2) 74 [.null, .int x1, .null] [] h := by
  intro x1 h hf
  unfold m_X7_ways_74 at hf
  refine bb_iload_n dX7_ways_74 rfl ?_
  obtain rfl := Option.some.inj hf
  exact bb_iret rfl rfl dX7_ways_75
set_option maxRecDepth 100000 in
set_option maxHeartbeats 4000000 in
theorem j_X7_ways_55 {r : Int32 × bb_H} {k18 : Nat → Int32 → Int32 → bb_H → Option (Int32 × bb_H)} (hk18 : ∀ (x0 : Nat) (x1 : Int32) (x2 : Int32) (h : bb_H), k18 x0 x1 x2 h = some r → bb_J RX7 cX7_ways 3 (some .int) rm_X7_ways (some (.int r.1), r.2) 18 [.ref x0, .int x1, .int x2] [] h) : ∀ (x0 : Nat) (x1 : Int32) (x2 : Int32) (h : bb_H), m_X7_ways_55 k18 x0 x1 x2 h = some r → bb_J RX7 cX7_ways 3 (some .int) rm_X7_ways (some (.int r.1), r.2) 55 [.ref x0, .int x1, .int x2] [] h := by
  intro x0 x1 x2 h hf
  unfold m_X7_ways_55 at hf
  refine bb_aload_n dX7_ways_55 rfl ?_
  obtain ⟨t56, h56, hf⟩ := bb_bind hf
  refine bb_getR fl_X7_53 dX7_ways_56 h56 ?_
  obtain ⟨r59, h59, hf⟩ := bb_bind hf
  obtain ⟨⟨v59, b59⟩, h59⟩ := bb_rcv_spec h59
  refine bb_invV (ci := 2) (as := []) iv_X7_240 (by unfold bb_rr; decide) rfl dX7_ways_59 rfl rfl b59 (Nat.le_of_ble_eq_true rfl) (ok_X2_advance h59) ?_
  refine bb_if_ne (tgt := 68) dX7_ways_62 (by decide) (fun c62 => ?_) (fun c62 => ?_)
  · rw [if_neg c62] at hf
    refine bb_iinc (v := x2 + 1) (L' := [.ref x0, .int x1, .int (x2 + 1)]) dX7_ways_68 rfl rfl (by decide) rfl rfl ?_
    refine bb_goto (tgt := 18) dX7_ways_71 (by decide) ?_
    refine bb_fewer (L' := [.ref x0, .int x1, .int (x2 + 1)]) (And.intro rfl (And.intro rfl (And.intro rfl trivial))) ?_
    exact hk18 _ _ _ _ hf
  rw [if_pos c62] at hf
  refine bb_goto (tgt := 74) dX7_ways_65 (by decide) ?_
  refine bb_fewer (L' := [.null, .int x1, .null]) (And.intro rfl trivial) ?_
  exact j_X7_ways_74 _ _ hf
set_option maxRecDepth 100000 in
set_option maxHeartbeats 4000000 in
theorem j_X7_ways_18 {r : Int32 × bb_H} : ∀ (n : Nat) (x0 : Nat) (x1 : Int32) (x2 : Int32) (h : bb_H), m_X7_ways_18 n x0 x1 x2 h = some r → bb_J RX7 cX7_ways 3 (some .int) rm_X7_ways (some (.int r.1), r.2) 18 [.ref x0, .int x1, .int x2] [] h := by
  intro n
  induction n with
  | zero =>
    intro x0 x1 x2 h hf
    exact absurd hf (fun z => by cases z)
  | succ n ih =>
    intro x0 x1 x2 h hf
    unfold m_X7_ways_18 at hf
    refine bb_iload_n dX7_ways_18 rfl ?_
    refine bb_sipush (v := 720) dX7_ways_19 (by decide) ?_
    refine bb_icmp_ge (tgt := 74) dX7_ways_22 (by decide) (fun c22 => ?_) (fun c22 => ?_)
    · rw [if_pos c22] at hf
      refine bb_fewer (L' := [.null, .int x1, .null]) (And.intro rfl trivial) ?_
      exact j_X7_ways_74 _ _ hf
    rw [if_neg c22] at hf
    refine bb_aload_n dX7_ways_25 rfl ?_
    obtain ⟨t26, h26, hf⟩ := bb_bind hf
    refine bb_getR fl_X7_12 dX7_ways_26 h26 ?_
    obtain ⟨t29, h29, hf⟩ := bb_bind hf
    refine bb_getR fl_X7_66 dX7_ways_29 h29 ?_
    refine bb_aload_n dX7_ways_32 rfl ?_
    obtain ⟨t33, h33, hf⟩ := bb_bind hf
    refine bb_getR fl_X7_53 dX7_ways_33 h33 ?_
    obtain ⟨t36, h36, hf⟩ := bb_bind hf
    refine bb_getR fl_X7_235 dX7_ways_36 h36 ?_
    refine bb_aload_n dX7_ways_39 rfl ?_
    obtain ⟨t40, h40, hf⟩ := bb_bind hf
    refine bb_getR fl_X7_53 dX7_ways_40 h40 ?_
    obtain ⟨t43, h43, hf⟩ := bb_bind hf
    refine bb_getI fl_X7_237 dX7_ways_43 h43 ?_
    obtain ⟨r46, h46, hf⟩ := bb_bind hf
    obtain ⟨⟨v46, b46⟩, h46⟩ := bb_rcv_spec h46
    refine bb_invV (ci := 3) (as := [.ref t36, .int t43]) iv_X7_176 (by unfold bb_rr; decide) rfl dX7_ways_46 rfl rfl b46 (Nat.le_of_ble_eq_true rfl) (ok_X3_wrongPairs h46) ?_
    refine bb_if_ne (tgt := 55) dX7_ways_49 (by decide) (fun c49 => ?_) (fun c49 => ?_)
    · rw [if_neg c49] at hf
      refine bb_fewer (L' := [.ref x0, .int x1, .int x2]) (And.intro rfl (And.intro rfl (And.intro rfl trivial))) ?_
      exact j_X7_ways_55 ih _ _ _ _ hf
    rw [if_pos c49] at hf
    refine bb_iinc (v := x1 + 1) (L' := [.ref x0, .int (x1 + 1), .int x2]) dX7_ways_52 rfl rfl (by decide) rfl rfl ?_
    refine bb_fewer (L' := [.ref x0, .int (x1 + 1), .int x2]) (And.intro rfl (And.intro rfl (And.intro rfl trivial))) ?_
    exact j_X7_ways_55 ih _ _ _ _ hf
set_option maxRecDepth 100000 in
set_option maxHeartbeats 4000000 in
theorem j_X7_ways_0 {r : Int32 × bb_H} : ∀ (x0 : Nat) (h : bb_H), m_X7_ways x0 h = some r → bb_J RX7 cX7_ways 3 (some .int) rm_X7_ways (some (.int r.1), r.2) 0 [.ref x0, .null, .null] [] h := by
  intro x0 h hf
  unfold m_X7_ways at hf
  refine bb_aload_n dX7_ways_0 rfl ?_
  obtain ⟨t1, h1, hf⟩ := bb_bind hf
  refine bb_getR fl_X7_53 dX7_ways_1 h1 ?_
  refine bb_aload_n dX7_ways_4 rfl ?_
  obtain ⟨t5, h5, hf⟩ := bb_bind hf
  refine bb_getR fl_X7_12 dX7_ways_5 h5 ?_
  obtain ⟨t8, h8, hf⟩ := bb_bind hf
  refine bb_getR fl_X7_87 dX7_ways_8 h8 ?_
  obtain ⟨g11, h11, hf⟩ := bb_bind hf
  obtain ⟨⟨v11, b11⟩, h11⟩ := bb_rcv_spec h11
  refine bb_invV (ci := 2) (as := [.ref t8]) iv_X7_232 (by unfold bb_rr; decide) rfl dX7_ways_11 rfl rfl b11 (Nat.le_of_ble_eq_true rfl) (ok_X2_start h11) ?_
  refine bb_iconst (v := 0) dX7_ways_14 (by decide) ?_
  refine bb_istore_n (L' := [.ref x0, .int 0, .null]) dX7_ways_15 (by decide) rfl rfl ?_
  refine bb_iconst (v := 0) dX7_ways_16 (by decide) ?_
  refine bb_istore_n (L' := [.ref x0, .int 0, .int 0]) dX7_ways_17 (by decide) rfl rfl ?_
  refine bb_fewer (L' := [.ref x0, .int 0, .int 0]) (And.intro rfl (And.intro rfl (And.intro rfl trivial))) ?_
  exact j_X7_ways_18 _ _ _ _ _ hf
theorem ok_X7_ways {x0 : Nat} {h : bb_H} {r : Int32 × bb_H} (hf : m_X7_ways x0 h = some r) : bb_Ok yX7_ways cX7_ways 3 (some .int) rm_X7_ways [.ref x0] h (some (.int r.1), r.2) :=
  bb_ok (L := [.ref x0, .null, .null]) (by decide) (Nat.le_of_ble_eq_true rfl) rfl (bb_fewer (L' := [.ref x0, .null, .null]) (And.intro rfl trivial) (j_X7_ways_0 _ _ hf))
abbrev rm_X7_findEase : Room := { frames := 2, cells := 0, slots := 0, locals := 47 }
set_option maxRecDepth 100000 in
set_option maxHeartbeats 4000000 in
theorem j_X7_findEase_93 {r : Int32 × bb_H} : ∀ (x1 : Int32) (h : bb_H), m_X7_findEase_93 x1 h = some r → bb_J RX7 cX7_findEase 4 (some .int) rm_X7_findEase (some (.int r.1), r.2) 93 [.null, .int x1, .null, .null] [] h := by
  intro x1 h hf
  unfold m_X7_findEase_93 at hf
  refine bb_iload_n dX7_findEase_93 rfl ?_
  obtain rfl := Option.some.inj hf
  exact bb_iret rfl rfl dX7_findEase_94
set_option maxRecDepth 100000 in
set_option maxHeartbeats 4000000 in
theorem j_X7_findEase_70 {r : Int32 × bb_H} {k24 : Nat → Int32 → Int32 → bb_H → Option (Int32 × bb_H)} (hk24 : ∀ (x0 : Nat) (x1 : Int32) (x2 : Int32) (h : bb_H), k24 x0 x1 x2 h = some r → bb_J RX7 cX7_findEase 4 (some .int) rm_X7_findEase (some (.int r.1), r.2) 24 [.ref x0, .int x1, .int x2, .null] [] h) : ∀ (x0 : Nat) (x1 : Int32) (x2 : Int32) (h : bb_H), m_X7_findEase_70 k24 x0 x1 x2 h = some r → bb_J RX7 cX7_findEase 4 (some .int) rm_X7_findEase (some (.int r.1), r.2) 70 [.ref x0, .int x1, .int x2, .null] [] h := by
  intro x0 x1 x2 h hf
  unfold m_X7_findEase_70 at hf
  refine bb_iload_n dX7_findEase_70 rfl ?_
  refine bb_if_eq (tgt := 93) dX7_findEase_71 (by decide) (fun c71 => ?_) (fun c71 => ?_)
  · rw [if_pos c71] at hf
    refine bb_fewer (L' := [.null, .int x1, .null, .null]) (And.intro rfl trivial) ?_
    exact j_X7_findEase_93 _ _ hf
  rw [if_neg c71] at hf
  refine bb_aload_n dX7_findEase_74 rfl ?_
  obtain ⟨t75, h75, hf⟩ := bb_bind hf
  refine bb_getR fl_X7_53 dX7_findEase_75 h75 ?_
  obtain ⟨r78, h78, hf⟩ := bb_bind hf
  obtain ⟨⟨v78, b78⟩, h78⟩ := bb_rcv_spec h78
  refine bb_invV (ci := 2) (as := []) iv_X7_240 (by unfold bb_rr; decide) rfl dX7_findEase_78 rfl rfl b78 (Nat.le_of_ble_eq_true rfl) (ok_X2_advance h78) ?_
  refine bb_if_ne (tgt := 87) dX7_findEase_81 (by decide) (fun c81 => ?_) (fun c81 => ?_)
  · rw [if_neg c81] at hf
    refine bb_iinc (v := x2 + 1) (L' := [.ref x0, .int x1, .int (x2 + 1), .null]) dX7_findEase_87 rfl rfl (by decide) rfl rfl ?_
    refine bb_goto (tgt := 24) dX7_findEase_90 (by decide) ?_
    refine bb_fewer (L' := [.ref x0, .int x1, .int (x2 + 1), .null]) (And.intro rfl (And.intro rfl (And.intro rfl trivial))) ?_
    exact hk24 _ _ _ _ hf
  rw [if_pos c81] at hf
  refine bb_goto (tgt := 93) dX7_findEase_84 (by decide) ?_
  refine bb_fewer (L' := [.null, .int x1, .null, .null]) (And.intro rfl trivial) ?_
  exact j_X7_findEase_93 _ _ hf
set_option maxRecDepth 100000 in
set_option maxHeartbeats 4000000 in
theorem j_X7_findEase_24 {r : Int32 × bb_H} : ∀ (n : Nat) (x0 : Nat) (x1 : Int32) (x2 : Int32) (h : bb_H), m_X7_findEase_24 n x0 x1 x2 h = some r → bb_J RX7 cX7_findEase 4 (some .int) rm_X7_findEase (some (.int r.1), r.2) 24 [.ref x0, .int x1, .int x2, .null] [] h := by
  intro n
  induction n with
  | zero =>
    intro x0 x1 x2 h hf
    exact absurd hf (fun z => by cases z)
  | succ n ih =>
    intro x0 x1 x2 h hf
    unfold m_X7_findEase_24 at hf
    refine bb_iload_n dX7_findEase_24 rfl ?_
    refine bb_sipush (v := 720) dX7_findEase_25 (by decide) ?_
    refine bb_icmp_ge (tgt := 93) dX7_findEase_28 (by decide) (fun c28 => ?_) (fun c28 => ?_)
    · rw [if_pos c28] at hf
      refine bb_fewer (L' := [.null, .int x1, .null, .null]) (And.intro rfl trivial) ?_
      exact j_X7_findEase_93 _ _ hf
    rw [if_neg c28] at hf
    refine bb_aload_n dX7_findEase_31 rfl ?_
    obtain ⟨t32, h32, hf⟩ := bb_bind hf
    refine bb_getR fl_X7_12 dX7_findEase_32 h32 ?_
    obtain ⟨t35, h35, hf⟩ := bb_bind hf
    refine bb_getR fl_X7_66 dX7_findEase_35 h35 ?_
    refine bb_aload_n dX7_findEase_38 rfl ?_
    obtain ⟨t39, h39, hf⟩ := bb_bind hf
    refine bb_getR fl_X7_53 dX7_findEase_39 h39 ?_
    obtain ⟨t42, h42, hf⟩ := bb_bind hf
    refine bb_getR fl_X7_235 dX7_findEase_42 h42 ?_
    refine bb_aload_n dX7_findEase_45 rfl ?_
    obtain ⟨t46, h46, hf⟩ := bb_bind hf
    refine bb_getR fl_X7_53 dX7_findEase_46 h46 ?_
    obtain ⟨t49, h49, hf⟩ := bb_bind hf
    refine bb_getI fl_X7_237 dX7_findEase_49 h49 ?_
    obtain ⟨r52, h52, hf⟩ := bb_bind hf
    obtain ⟨⟨v52, b52⟩, h52⟩ := bb_rcv_spec h52
    refine bb_invV (ci := 3) (as := [.ref t42, .int t49]) iv_X7_176 (by unfold bb_rr; decide) rfl dX7_findEase_52 rfl rfl b52 (Nat.le_of_ble_eq_true rfl) (ok_X3_wrongPairs h52) ?_
    refine bb_istore_n (L' := [.ref x0, .int x1, .int x2, .int r52.1]) dX7_findEase_55 (by decide) rfl rfl ?_
    refine bb_iload_n dX7_findEase_56 rfl ?_
    refine bb_iload_n dX7_findEase_57 rfl ?_
    refine bb_icmp_ge (tgt := 70) dX7_findEase_58 (by decide) (fun c58 => ?_) (fun c58 => ?_)
    · rw [if_pos c58] at hf
      refine bb_fewer (L' := [.ref x0, .int x1, .int x2, .null]) (And.intro rfl (And.intro rfl (And.intro rfl trivial))) ?_
      exact j_X7_findEase_70 ih _ _ _ _ hf
    rw [if_neg c58] at hf
    refine bb_iload_n dX7_findEase_61 rfl ?_
    refine bb_istore_n (L' := [.ref x0, .int r52.1, .int x2, .int r52.1]) dX7_findEase_62 (by decide) rfl rfl ?_
    refine bb_aload_n dX7_findEase_63 rfl ?_
    obtain ⟨t64, h64, hf⟩ := bb_bind hf
    refine bb_getR fl_X7_53 dX7_findEase_64 h64 ?_
    obtain ⟨g67, h67, hf⟩ := bb_bind hf
    obtain ⟨⟨v67, b67⟩, h67⟩ := bb_rcv_spec h67
    refine bb_invV (ci := 2) (as := []) iv_X7_333 (by unfold bb_rr; decide) rfl dX7_findEase_67 rfl rfl b67 (Nat.le_of_ble_eq_true rfl) (ok_X2_keepAsBest h67) ?_
    refine bb_fewer (L' := [.ref x0, .int r52.1, .int x2, .null]) (And.intro rfl (And.intro rfl (And.intro rfl trivial))) ?_
    exact j_X7_findEase_70 ih _ _ _ _ hf
set_option maxRecDepth 100000 in
set_option maxHeartbeats 4000000 in
theorem j_X7_findEase_0 {r : Int32 × bb_H} : ∀ (x0 : Nat) (h : bb_H), m_X7_findEase x0 h = some r → bb_J RX7 cX7_findEase 4 (some .int) rm_X7_findEase (some (.int r.1), r.2) 0 [.ref x0, .null, .null, .null] [] h := by
  intro x0 h hf
  unfold m_X7_findEase at hf
  refine bb_aload_n dX7_findEase_0 rfl ?_
  obtain ⟨t1, h1, hf⟩ := bb_bind hf
  refine bb_getR fl_X7_53 dX7_findEase_1 h1 ?_
  refine bb_aload_n dX7_findEase_4 rfl ?_
  obtain ⟨t5, h5, hf⟩ := bb_bind hf
  refine bb_getR fl_X7_12 dX7_findEase_5 h5 ?_
  obtain ⟨t8, h8, hf⟩ := bb_bind hf
  refine bb_getR fl_X7_87 dX7_findEase_8 h8 ?_
  obtain ⟨g11, h11, hf⟩ := bb_bind hf
  obtain ⟨⟨v11, b11⟩, h11⟩ := bb_rcv_spec h11
  refine bb_invV (ci := 2) (as := [.ref t8]) iv_X7_232 (by unfold bb_rr; decide) rfl dX7_findEase_11 rfl rfl b11 (Nat.le_of_ble_eq_true rfl) (ok_X2_start h11) ?_
  refine bb_aload_n dX7_findEase_14 rfl ?_
  obtain ⟨t15, h15, hf⟩ := bb_bind hf
  refine bb_getR fl_X7_53 dX7_findEase_15 h15 ?_
  obtain ⟨t18, h18, hf⟩ := bb_bind hf
  refine bb_getI fl_X7_237 dX7_findEase_18 h18 ?_
  refine bb_istore_n (L' := [.ref x0, .int t18, .null, .null]) dX7_findEase_21 (by decide) rfl rfl ?_
  refine bb_iconst (v := 0) dX7_findEase_22 (by decide) ?_
  refine bb_istore_n (L' := [.ref x0, .int t18, .int 0, .null]) dX7_findEase_23 (by decide) rfl rfl ?_
  refine bb_fewer (L' := [.ref x0, .int t18, .int 0, .null]) (And.intro rfl (And.intro rfl (And.intro rfl trivial))) ?_
  exact j_X7_findEase_24 _ _ _ _ _ hf
theorem ok_X7_findEase {x0 : Nat} {h : bb_H} {r : Int32 × bb_H} (hf : m_X7_findEase x0 h = some r) : bb_Ok yX7_findEase cX7_findEase 4 (some .int) rm_X7_findEase [.ref x0] h (some (.int r.1), r.2) :=
  bb_ok (L := [.ref x0, .null, .null, .null]) (by decide) (Nat.le_of_ble_eq_true rfl) rfl (bb_fewer (L' := [.ref x0, .null, .null, .null]) (And.intro rfl trivial) (j_X7_findEase_0 _ _ hf))
abbrev rm_X7_ease : Room := { frames := 3, cells := 0, slots := 0, locals := 70 }
set_option maxRecDepth 100000 in
set_option maxHeartbeats 4000000 in
theorem j_X7_ease_29 {r : Int32 × bb_H} : ∀ (z0 : Int32) (h : bb_H), m_X7_ease_29 z0 h = some r → bb_J RX7 cX7_ease 3 (some .int) rm_X7_ease (some (.int r.1), r.2) 29 [.null, .null, .null] [.int z0] h := by
  intro z0 h hf
  unfold m_X7_ease_29 at hf
  obtain rfl := Option.some.inj hf
  exact bb_iret rfl rfl dX7_ease_29
set_option maxRecDepth 100000 in
set_option maxHeartbeats 4000000 in
theorem j_X7_ease_0 {r : Int32 × bb_H} : ∀ (x0 : Nat) (x1 : Int32) (h : bb_H), m_X7_ease x0 x1 h = some r → bb_J RX7 cX7_ease 3 (some .int) rm_X7_ease (some (.int r.1), r.2) 0 [.ref x0, .int x1, .null] [] h := by
  intro x0 x1 h hf
  unfold m_X7_ease at hf
  refine bb_iload_n dX7_ease_0 rfl ?_
  refine bb_iconst (v := (-1)) dX7_ease_1 (by decide) ?_
  refine bb_icmp_ge (tgt := 7) dX7_ease_2 (by decide) (fun c2 => ?_) (fun c2 => ?_)
  · rw [if_pos c2] at hf
    refine bb_aload_n dX7_ease_7 rfl ?_
    obtain ⟨r8, h8, hf⟩ := bb_bind hf
    obtain ⟨⟨v8, b8⟩, h8⟩ := bb_rcv_spec h8
    refine bb_invV (ci := 7) (as := []) iv_X7_244 (by unfold bb_rr; decide) rfl dX7_ease_8 rfl rfl b8 (Nat.le_of_ble_eq_true rfl) (ok_X7_findEase h8) ?_
    refine bb_istore_n (L' := [.ref x0, .int x1, .int r8.1]) dX7_ease_11 (by decide) rfl rfl ?_
    refine bb_iload_n dX7_ease_12 rfl ?_
    refine bb_iconst (v := (-1)) dX7_ease_13 (by decide) ?_
    refine bb_icmp_ne (tgt := 21) dX7_ease_14 (by decide) (fun c14 => ?_) (fun c14 => ?_)
    · rw [if_neg c14] at hf
      refine bb_aload_n dX7_ease_21 rfl ?_
      obtain ⟨t22, h22, hf⟩ := bb_bind hf
      refine bb_getR fl_X7_53 dX7_ease_22 h22 ?_
      refine bb_iload_n dX7_ease_25 rfl ?_
      obtain ⟨r26, h26, hf⟩ := bb_bind hf
      obtain ⟨⟨v26, b26⟩, h26⟩ := bb_rcv_spec h26
      refine bb_invV (ci := 2) (as := [.int x1]) iv_X7_247 (by unfold bb_rr; decide) rfl dX7_ease_26 rfl rfl b26 (Nat.le_of_ble_eq_true rfl) (ok_X2_bestOn h26) ?_
      refine bb_fewer (L' := [.null, .null, .null]) trivial ?_
      exact j_X7_ease_29 _ _ hf
    rw [if_pos c14] at hf
    refine bb_iload_n dX7_ease_17 rfl ?_
    refine bb_goto (tgt := 29) dX7_ease_18 (by decide) ?_
    refine bb_fewer (L' := [.null, .null, .null]) trivial ?_
    exact j_X7_ease_29 _ _ hf
  rw [if_neg c2] at hf
  refine bb_iconst (v := (-1)) dX7_ease_5 (by decide) ?_
  obtain rfl := Option.some.inj hf
  exact bb_iret rfl rfl dX7_ease_6
theorem ok_X7_ease {x0 : Nat} {x1 : Int32} {h : bb_H} {r : Int32 × bb_H} (hf : m_X7_ease x0 x1 h = some r) : bb_Ok yX7_ease cX7_ease 3 (some .int) rm_X7_ease [.ref x0, .int x1] h (some (.int r.1), r.2) :=
  bb_ok (L := [.ref x0, .int x1, .null]) (by decide) (Nat.le_of_ble_eq_true rfl) rfl (bb_fewer (L' := [.ref x0, .int x1, .null]) (And.intro rfl (And.intro rfl trivial)) (j_X7_ease_0 _ _ _ hf))
abbrev rm_X7_foretellFor : Room := { frames := 4, cells := 0, slots := 0, locals := 95 }
set_option maxRecDepth 100000 in
set_option maxHeartbeats 4000000 in
theorem j_X7_foretellFor_0 {r : bb_H} : ∀ (x0 : Nat) (x1 : Nat) (x2 : Int32) (h : bb_H), m_X7_foretellFor x0 x1 x2 h = some r → bb_J RX7 cX7_foretellFor 3 none rm_X7_foretellFor (none, r) 0 [.ref x0, .ref x1, .int x2] [] h := by
  intro x0 x1 x2 h hf
  unfold m_X7_foretellFor at hf
  refine bb_aload_n dX7_foretellFor_0 rfl ?_
  obtain ⟨t1, h1, hf⟩ := bb_bind hf
  refine bb_getR fl_X7_39 dX7_foretellFor_1 h1 ?_
  refine bb_aload_n dX7_foretellFor_4 rfl ?_
  obtain ⟨t5, h5, hf⟩ := bb_bind hf
  refine bb_getR fl_X7_12 dX7_foretellFor_5 h5 ?_
  obtain ⟨t8, h8, hf⟩ := bb_bind hf
  refine bb_getR fl_X7_87 dX7_foretellFor_8 h8 ?_
  obtain ⟨g11, h11, hf⟩ := bb_bind hf
  obtain ⟨⟨v11, b11⟩, h11⟩ := bb_rcv_spec h11
  refine bb_invV (ci := 0) (as := [.ref t8]) iv_X7_218 (by unfold bb_rr; decide) rfl dX7_foretellFor_11 rfl rfl b11 (Nat.le_of_ble_eq_true rfl) (ok_X0_takeFrom h11) ?_
  refine bb_aload_n dX7_foretellFor_14 rfl ?_
  obtain ⟨t15, h15, hf⟩ := bb_bind hf
  refine bb_getR fl_X7_39 dX7_foretellFor_15 h15 ?_
  refine bb_aload_n dX7_foretellFor_18 rfl ?_
  obtain ⟨g19, h19, hf⟩ := bb_bind hf
  obtain ⟨⟨v19, b19⟩, h19⟩ := bb_rcv_spec h19
  refine bb_invV (ci := 0) (as := [.ref x1]) iv_X7_323 (by unfold bb_rr; decide) rfl dX7_foretellFor_19 rfl rfl b19 (Nat.le_of_ble_eq_true rfl) (ok_X0_seatAs h19) ?_
  refine bb_aload_n dX7_foretellFor_22 rfl ?_
  obtain ⟨t23, h23, hf⟩ := bb_bind hf
  refine bb_getR fl_X7_39 dX7_foretellFor_23 h23 ?_
  refine bb_iload_n dX7_foretellFor_26 rfl ?_
  refine bb_aload_n dX7_foretellFor_27 rfl ?_
  obtain ⟨t28, h28, hf⟩ := bb_bind hf
  refine bb_getR fl_X7_12 dX7_foretellFor_28 h28 ?_
  obtain ⟨t31, h31, hf⟩ := bb_bind hf
  refine bb_getR fl_X7_66 dX7_foretellFor_31 h31 ?_
  obtain ⟨g34, h34, hf⟩ := bb_bind hf
  obtain ⟨⟨v34, b34⟩, h34⟩ := bb_rcv_spec h34
  refine bb_invV (ci := 0) (as := [.int x2, .ref t31]) iv_X7_319 (by unfold bb_rr; decide) rfl dX7_foretellFor_34 rfl rfl b34 (Nat.le_of_ble_eq_true rfl) (ok_X0_passYears h34) ?_
  obtain rfl := Option.some.inj hf
  exact bb_vret rfl rfl dX7_foretellFor_37
theorem ok_X7_foretellFor {x0 : Nat} {x1 : Nat} {x2 : Int32} {h : bb_H} {r : bb_H} (hf : m_X7_foretellFor x0 x1 x2 h = some r) : bb_Ok yX7_foretellFor cX7_foretellFor 3 none rm_X7_foretellFor [.ref x0, .ref x1, .int x2] h (none, r) :=
  bb_ok (L := [.ref x0, .ref x1, .int x2]) (by decide) (Nat.le_of_ble_eq_true rfl) rfl (bb_fewer (L' := [.ref x0, .ref x1, .int x2]) (And.intro rfl (And.intro rfl (And.intro rfl trivial))) (j_X7_foretellFor_0 _ _ _ _ hf))
abbrev rm_X7_findMostLeft : Room := { frames := 5, cells := 0, slots := 0, locals := 117 }
set_option maxRecDepth 100000 in
set_option maxHeartbeats 4000000 in
theorem j_X7_findMostLeft_125 {r : bb_H} : ∀ (h : bb_H), m_X7_findMostLeft_125 h = some r → bb_J RX7 cX7_findMostLeft 6 none rm_X7_findMostLeft (none, r) 125 [.null, .null, .null, .null, .null, .null] [] h := by
  intro h hf
  unfold m_X7_findMostLeft_125 at hf
  obtain rfl := Option.some.inj hf
  exact bb_vret rfl rfl dX7_findMostLeft_125
set_option maxRecDepth 100000 in
set_option maxHeartbeats 4000000 in
theorem j_X7_findMostLeft_106 {r : bb_H} {k21 : Nat → Int32 → Int32 → Int32 → Int32 → bb_H → Option bb_H} (hk21 : ∀ (x0 : Nat) (x1 : Int32) (x2 : Int32) (x3 : Int32) (x4 : Int32) (h : bb_H), k21 x0 x1 x2 x3 x4 h = some r → bb_J RX7 cX7_findMostLeft 6 none rm_X7_findMostLeft (none, r) 21 [.ref x0, .int x1, .int x2, .int x3, .int x4, .null] [] h) : ∀ (x0 : Nat) (x1 : Int32) (x2 : Int32) (x3 : Int32) (x4 : Int32) (h : bb_H), m_X7_findMostLeft_106 k21 x0 x1 x2 x3 x4 h = some r → bb_J RX7 cX7_findMostLeft 6 none rm_X7_findMostLeft (none, r) 106 [.ref x0, .int x1, .int x2, .int x3, .int x4, .null] [] h := by
  intro x0 x1 x2 x3 x4 h hf
  unfold m_X7_findMostLeft_106 at hf
  refine bb_aload_n dX7_findMostLeft_106 rfl ?_
  obtain ⟨t107, h107, hf⟩ := bb_bind hf
  refine bb_getR fl_X7_53 dX7_findMostLeft_107 h107 ?_
  obtain ⟨r110, h110, hf⟩ := bb_bind hf
  obtain ⟨⟨v110, b110⟩, h110⟩ := bb_rcv_spec h110
  refine bb_invV (ci := 2) (as := []) iv_X7_240 (by unfold bb_rr; decide) rfl dX7_findMostLeft_110 rfl rfl b110 (Nat.le_of_ble_eq_true rfl) (ok_X2_advance h110) ?_
  refine bb_if_ne (tgt := 119) dX7_findMostLeft_113 (by decide) (fun c113 => ?_) (fun c113 => ?_)
  · rw [if_neg c113] at hf
    refine bb_iinc (v := x4 + 1) (L' := [.ref x0, .int x1, .int x2, .int x3, .int (x4 + 1), .null]) dX7_findMostLeft_119 rfl rfl (by decide) rfl rfl ?_
    refine bb_goto (tgt := 21) dX7_findMostLeft_122 (by decide) ?_
    refine bb_fewer (L' := [.ref x0, .int x1, .int x2, .int x3, .int (x4 + 1), .null]) (And.intro rfl (And.intro rfl (And.intro rfl (And.intro rfl (And.intro rfl trivial))))) ?_
    exact hk21 _ _ _ _ _ _ hf
  rw [if_pos c113] at hf
  refine bb_goto (tgt := 125) dX7_findMostLeft_116 (by decide) ?_
  refine bb_fewer (L' := [.null, .null, .null, .null, .null, .null]) trivial ?_
  exact j_X7_findMostLeft_125 _ hf
set_option maxRecDepth 100000 in
set_option maxHeartbeats 4000000 in
theorem j_X7_findMostLeft_88 {r : bb_H} {k21 : Nat → Int32 → Int32 → Int32 → Int32 → bb_H → Option bb_H} (hk21 : ∀ (x0 : Nat) (x1 : Int32) (x2 : Int32) (x3 : Int32) (x4 : Int32) (h : bb_H), k21 x0 x1 x2 x3 x4 h = some r → bb_J RX7 cX7_findMostLeft 6 none rm_X7_findMostLeft (none, r) 21 [.ref x0, .int x1, .int x2, .int x3, .int x4, .null] [] h) : ∀ (x0 : Nat) (x1 : Int32) (x4 : Int32) (x5 : Int32) (h : bb_H), m_X7_findMostLeft_88 k21 x0 x1 x4 x5 h = some r → bb_J RX7 cX7_findMostLeft 6 none rm_X7_findMostLeft (none, r) 88 [.ref x0, .int x1, .null, .null, .int x4, .int x5] [] h := by
  intro x0 x1 x4 x5 h hf
  unfold m_X7_findMostLeft_88 at hf
  refine bb_aload_n dX7_findMostLeft_88 rfl ?_
  obtain ⟨t89, h89, hf⟩ := bb_bind hf
  refine bb_getR fl_X7_39 dX7_findMostLeft_89 h89 ?_
  obtain ⟨t92, h92, hf⟩ := bb_bind hf
  refine bb_getI fl_X7_161 dX7_findMostLeft_92 h92 ?_
  refine bb_istore_n (L' := [.ref x0, .int x1, .int t92, .null, .int x4, .int x5]) dX7_findMostLeft_95 (by decide) rfl rfl ?_
  refine bb_iload dX7_findMostLeft_96 rfl ?_
  refine bb_istore_n (L' := [.ref x0, .int x1, .int t92, .int x5, .int x4, .int x5]) dX7_findMostLeft_98 (by decide) rfl rfl ?_
  refine bb_aload_n dX7_findMostLeft_99 rfl ?_
  obtain ⟨t100, h100, hf⟩ := bb_bind hf
  refine bb_getR fl_X7_53 dX7_findMostLeft_100 h100 ?_
  obtain ⟨g103, h103, hf⟩ := bb_bind hf
  obtain ⟨⟨v103, b103⟩, h103⟩ := bb_rcv_spec h103
  refine bb_invV (ci := 2) (as := []) iv_X7_333 (by unfold bb_rr; decide) rfl dX7_findMostLeft_103 rfl rfl b103 (Nat.le_of_ble_eq_true rfl) (ok_X2_keepAsBest h103) ?_
  refine bb_fewer (L' := [.ref x0, .int x1, .int t92, .int x5, .int x4, .null]) (And.intro rfl (And.intro rfl (And.intro rfl (And.intro rfl (And.intro rfl trivial))))) ?_
  exact j_X7_findMostLeft_106 hk21 _ _ _ _ _ _ hf
set_option maxRecDepth 100000 in
set_option maxHeartbeats 4000000 in
theorem j_X7_findMostLeft_21 {r : bb_H} : ∀ (n : Nat) (x0 : Nat) (x1 : Int32) (x2 : Int32) (x3 : Int32) (x4 : Int32) (h : bb_H), m_X7_findMostLeft_21 n x0 x1 x2 x3 x4 h = some r → bb_J RX7 cX7_findMostLeft 6 none rm_X7_findMostLeft (none, r) 21 [.ref x0, .int x1, .int x2, .int x3, .int x4, .null] [] h := by
  intro n
  induction n with
  | zero =>
    intro x0 x1 x2 x3 x4 h hf
    exact absurd hf (fun z => by cases z)
  | succ n ih =>
    intro x0 x1 x2 x3 x4 h hf
    unfold m_X7_findMostLeft_21 at hf
    refine bb_iload dX7_findMostLeft_21 rfl ?_
    refine bb_sipush (v := 720) dX7_findMostLeft_23 (by decide) ?_
    refine bb_icmp_ge (tgt := 125) dX7_findMostLeft_26 (by decide) (fun c26 => ?_) (fun c26 => ?_)
    · rw [if_pos c26] at hf
      refine bb_fewer (L' := [.null, .null, .null, .null, .null, .null]) trivial ?_
      exact j_X7_findMostLeft_125 _ hf
    rw [if_neg c26] at hf
    refine bb_aload_n dX7_findMostLeft_29 rfl ?_
    obtain ⟨t30, h30, hf⟩ := bb_bind hf
    refine bb_getR fl_X7_53 dX7_findMostLeft_30 h30 ?_
    obtain ⟨r33, h33, hf⟩ := bb_bind hf
    obtain ⟨⟨v33, b33⟩, h33⟩ := bb_rcv_spec h33
    refine bb_invV (ci := 2) (as := []) iv_X7_336 (by unfold bb_rr; decide) rfl dX7_findMostLeft_33 rfl rfl b33 (Nat.le_of_ble_eq_true rfl) (ok_X2_isTurnedRound h33) ?_
    refine bb_if_ne (tgt := 106) dX7_findMostLeft_36 (by decide) (fun c36 => ?_) (fun c36 => ?_)
    · rw [if_neg c36] at hf
      refine bb_fewer (L' := [.ref x0, .int x1, .int x2, .int x3, .int x4, .null]) (And.intro rfl (And.intro rfl (And.intro rfl (And.intro rfl (And.intro rfl trivial))))) ?_
      exact j_X7_findMostLeft_106 ih _ _ _ _ _ _ hf
    rw [if_pos c36] at hf
    refine bb_aload_n dX7_findMostLeft_39 rfl ?_
    refine bb_aload_n dX7_findMostLeft_40 rfl ?_
    obtain ⟨t41, h41, hf⟩ := bb_bind hf
    refine bb_getR fl_X7_53 dX7_findMostLeft_41 h41 ?_
    obtain ⟨t44, h44, hf⟩ := bb_bind hf
    refine bb_getR fl_X7_235 dX7_findMostLeft_44 h44 ?_
    refine bb_iload_n dX7_findMostLeft_47 rfl ?_
    obtain ⟨g48, h48, hf⟩ := bb_bind hf
    obtain ⟨⟨v48, b48⟩, h48⟩ := bb_rcv_spec h48
    refine bb_invV (ci := 7) (as := [.ref t44, .int x1]) iv_X7_256 (by unfold bb_rr; decide) rfl dX7_findMostLeft_48 rfl rfl b48 (Nat.le_of_ble_eq_true rfl) (ok_X7_foretellFor h48) ?_
    refine bb_aload_n dX7_findMostLeft_51 rfl ?_
    obtain ⟨t52, h52, hf⟩ := bb_bind hf
    refine bb_getR fl_X7_39 dX7_findMostLeft_52 h52 ?_
    obtain ⟨r55, h55, hf⟩ := bb_bind hf
    obtain ⟨⟨v55, b55⟩, h55⟩ := bb_rcv_spec h55
    refine bb_invV (ci := 0) (as := []) iv_X7_170 (by unfold bb_rr; decide) rfl dX7_findMostLeft_55 rfl rfl b55 (Nat.le_of_ble_eq_true rfl) (ok_X0_lifeOfAll h55) ?_
    refine bb_istore (L' := [.ref x0, .int x1, .int x2, .int x3, .int x4, .int r55.1]) dX7_findMostLeft_58 (by decide) rfl rfl ?_
    refine bb_aload_n dX7_findMostLeft_60 rfl ?_
    obtain ⟨t61, h61, hf⟩ := bb_bind hf
    refine bb_getR fl_X7_39 dX7_findMostLeft_61 h61 ?_
    obtain ⟨t64, h64, hf⟩ := bb_bind hf
    refine bb_getI fl_X7_161 dX7_findMostLeft_64 h64 ?_
    refine bb_iload_n dX7_findMostLeft_67 rfl ?_
    refine bb_icmp_gt (tgt := 88) dX7_findMostLeft_68 (by decide) (fun c68 => ?_) (fun c68 => ?_)
    · rw [if_pos c68] at hf
      refine bb_fewer (L' := [.ref x0, .int x1, .null, .null, .int x4, .int r55.1]) (And.intro rfl (And.intro rfl (And.intro rfl (And.intro rfl trivial)))) ?_
      exact j_X7_findMostLeft_88 ih _ _ _ _ _ hf
    rw [if_neg c68] at hf
    refine bb_aload_n dX7_findMostLeft_71 rfl ?_
    obtain ⟨t72, h72, hf⟩ := bb_bind hf
    refine bb_getR fl_X7_39 dX7_findMostLeft_72 h72 ?_
    obtain ⟨t75, h75, hf⟩ := bb_bind hf
    refine bb_getI fl_X7_161 dX7_findMostLeft_75 h75 ?_
    refine bb_iload_n dX7_findMostLeft_78 rfl ?_
    refine bb_icmp_ne (tgt := 106) dX7_findMostLeft_79 (by decide) (fun c79 => ?_) (fun c79 => ?_)
    · rw [if_neg c79] at hf
      refine bb_fewer (L' := [.ref x0, .int x1, .int x2, .int x3, .int x4, .null]) (And.intro rfl (And.intro rfl (And.intro rfl (And.intro rfl (And.intro rfl trivial))))) ?_
      exact j_X7_findMostLeft_106 ih _ _ _ _ _ _ hf
    rw [if_pos c79] at hf
    refine bb_iload dX7_findMostLeft_82 rfl ?_
    refine bb_iload_n dX7_findMostLeft_84 rfl ?_
    refine bb_icmp_le (tgt := 106) dX7_findMostLeft_85 (by decide) (fun c85 => ?_) (fun c85 => ?_)
    · rw [if_pos c85] at hf
      refine bb_fewer (L' := [.ref x0, .int x1, .int x2, .int x3, .int x4, .null]) (And.intro rfl (And.intro rfl (And.intro rfl (And.intro rfl (And.intro rfl trivial))))) ?_
      exact j_X7_findMostLeft_106 ih _ _ _ _ _ _ hf
    rw [if_neg c85] at hf
    refine bb_fewer (L' := [.ref x0, .int x1, .null, .null, .int x4, .int r55.1]) (And.intro rfl (And.intro rfl (And.intro rfl (And.intro rfl trivial)))) ?_
    exact j_X7_findMostLeft_88 ih _ _ _ _ _ hf
set_option maxRecDepth 100000 in
set_option maxHeartbeats 4000000 in
theorem j_X7_findMostLeft_0 {r : bb_H} : ∀ (x0 : Nat) (x1 : Int32) (h : bb_H), m_X7_findMostLeft x0 x1 h = some r → bb_J RX7 cX7_findMostLeft 6 none rm_X7_findMostLeft (none, r) 0 [.ref x0, .int x1, .null, .null, .null, .null] [] h := by
  intro x0 x1 h hf
  unfold m_X7_findMostLeft at hf
  refine bb_aload_n dX7_findMostLeft_0 rfl ?_
  obtain ⟨t1, h1, hf⟩ := bb_bind hf
  refine bb_getR fl_X7_53 dX7_findMostLeft_1 h1 ?_
  refine bb_aload_n dX7_findMostLeft_4 rfl ?_
  obtain ⟨t5, h5, hf⟩ := bb_bind hf
  refine bb_getR fl_X7_12 dX7_findMostLeft_5 h5 ?_
  obtain ⟨t8, h8, hf⟩ := bb_bind hf
  refine bb_getR fl_X7_87 dX7_findMostLeft_8 h8 ?_
  obtain ⟨g11, h11, hf⟩ := bb_bind hf
  obtain ⟨⟨v11, b11⟩, h11⟩ := bb_rcv_spec h11
  refine bb_invV (ci := 2) (as := [.ref t8]) iv_X7_232 (by unfold bb_rr; decide) rfl dX7_findMostLeft_11 rfl rfl b11 (Nat.le_of_ble_eq_true rfl) (ok_X2_start h11) ?_
  refine bb_iconst (v := (-1)) dX7_findMostLeft_14 (by decide) ?_
  refine bb_istore_n (L' := [.ref x0, .int x1, .int (-1), .null, .null, .null]) dX7_findMostLeft_15 (by decide) rfl rfl ?_
  refine bb_iconst (v := (-1)) dX7_findMostLeft_16 (by decide) ?_
  refine bb_istore_n (L' := [.ref x0, .int x1, .int (-1), .int (-1), .null, .null]) dX7_findMostLeft_17 (by decide) rfl rfl ?_
  refine bb_iconst (v := 0) dX7_findMostLeft_18 (by decide) ?_
  refine bb_istore (L' := [.ref x0, .int x1, .int (-1), .int (-1), .int 0, .null]) dX7_findMostLeft_19 (by decide) rfl rfl ?_
  refine bb_fewer (L' := [.ref x0, .int x1, .int (-1), .int (-1), .int 0, .null]) (And.intro rfl (And.intro rfl (And.intro rfl (And.intro rfl (And.intro rfl trivial))))) ?_
  exact j_X7_findMostLeft_21 _ _ _ _ _ _ _ hf
theorem ok_X7_findMostLeft {x0 : Nat} {x1 : Int32} {h : bb_H} {r : bb_H} (hf : m_X7_findMostLeft x0 x1 h = some r) : bb_Ok yX7_findMostLeft cX7_findMostLeft 6 none rm_X7_findMostLeft [.ref x0, .int x1] h (none, r) :=
  bb_ok (L := [.ref x0, .int x1, .null, .null, .null, .null]) (by decide) (Nat.le_of_ble_eq_true rfl) rfl (bb_fewer (L' := [.ref x0, .int x1, .null, .null, .null, .null]) (And.intro rfl (And.intro rfl trivial)) (j_X7_findMostLeft_0 _ _ _ hf))
abbrev rm_X7_left : Room := { frames := 6, cells := 0, slots := 0, locals := 142 }
set_option maxRecDepth 100000 in
set_option maxHeartbeats 4000000 in
theorem j_X7_left_16 {r : Int32 × bb_H} : ∀ (h : bb_H), m_X7_left_16 h = some r → bb_J RX7 cX7_left 3 (some .int) rm_X7_left (some (.int r.1), r.2) 16 [.null, .null, .null] [] h := by
  intro h hf
  unfold m_X7_left_16 at hf
  refine bb_iconst (v := (-1)) dX7_left_16 (by decide) ?_
  obtain rfl := Option.some.inj hf
  exact bb_iret rfl rfl dX7_left_17
set_option maxRecDepth 100000 in
set_option maxHeartbeats 4000000 in
theorem j_X7_left_70 {r : Int32 × bb_H} : ∀ (z0 : Int32) (h : bb_H), m_X7_left_70 z0 h = some r → bb_J RX7 cX7_left 3 (some .int) rm_X7_left (some (.int r.1), r.2) 70 [.null, .null, .null] [.int z0] h := by
  intro z0 h hf
  unfold m_X7_left_70 at hf
  obtain rfl := Option.some.inj hf
  exact bb_iret rfl rfl dX7_left_70
set_option maxRecDepth 100000 in
set_option maxHeartbeats 4000000 in
theorem j_X7_left_0 {r : Int32 × bb_H} : ∀ (x0 : Nat) (x1 : Int32) (x2 : Int32) (h : bb_H), m_X7_left x0 x1 x2 h = some r → bb_J RX7 cX7_left 3 (some .int) rm_X7_left (some (.int r.1), r.2) 0 [.ref x0, .int x1, .int x2] [] h := by
  intro x0 x1 x2 h hf
  unfold m_X7_left at hf
  refine bb_iload_n dX7_left_0 rfl ?_
  refine bb_iconst (v := 0) dX7_left_1 (by decide) ?_
  refine bb_bipush (v := 30) dX7_left_2 (by decide) ?_
  obtain ⟨r4, h4, hf⟩ := bb_bind hf
  refine bb_invS (as := [.int x1, .int 0, .int 30]) is_X7_62 (by unfold bb_rr; decide) dX7_left_4 rfl rfl (Nat.le_of_ble_eq_true rfl) (ok_X7_within h4) ?_
  refine bb_if_eq (tgt := 16) dX7_left_7 (by decide) (fun c7 => ?_) (fun c7 => ?_)
  · rw [if_pos c7] at hf
    refine bb_fewer (L' := [.null, .null, .null]) trivial ?_
    exact j_X7_left_16 _ hf
  rw [if_neg c7] at hf
  refine bb_iload_n dX7_left_10 rfl ?_
  refine bb_bipush (v := (-2)) dX7_left_11 (by decide) ?_
  refine bb_icmp_ge (tgt := 18) dX7_left_13 (by decide) (fun c13 => ?_) (fun c13 => ?_)
  · rw [if_pos c13] at hf
    refine bb_aload_n dX7_left_18 rfl ?_
    refine bb_iload_n dX7_left_19 rfl ?_
    obtain ⟨g20, h20, hf⟩ := bb_bind hf
    obtain ⟨⟨v20, b20⟩, h20⟩ := bb_rcv_spec h20
    refine bb_invV (ci := 7) (as := [.int x1]) iv_X7_250 (by unfold bb_rr; decide) rfl dX7_left_20 rfl rfl b20 (Nat.le_of_ble_eq_true rfl) (ok_X7_findMostLeft h20) ?_
    refine bb_iload_n dX7_left_23 rfl ?_
    refine bb_if_lt (tgt := 36) dX7_left_24 (by decide) (fun c24 => ?_) (fun c24 => ?_)
    · rw [if_pos c24] at hf
      refine bb_aload_n dX7_left_36 rfl ?_
      refine bb_aload_n dX7_left_37 rfl ?_
      obtain ⟨t38, h38, hf⟩ := bb_bind hf
      refine bb_getR fl_X7_53 dX7_left_38 h38 ?_
      obtain ⟨t41, h41, hf⟩ := bb_bind hf
      refine bb_getR fl_X7_253 dX7_left_41 h41 ?_
      refine bb_iload_n dX7_left_44 rfl ?_
      obtain ⟨g45, h45, hf⟩ := bb_bind hf
      obtain ⟨⟨v45, b45⟩, h45⟩ := bb_rcv_spec h45
      refine bb_invV (ci := 7) (as := [.ref t41, .int x1]) iv_X7_256 (by unfold bb_rr; decide) rfl dX7_left_45 rfl rfl b45 (Nat.le_of_ble_eq_true rfl) (ok_X7_foretellFor h45) ?_
      refine bb_iload_n dX7_left_48 rfl ?_
      refine bb_iconst (v := (-1)) dX7_left_49 (by decide) ?_
      refine bb_icmp_ne (tgt := 63) dX7_left_50 (by decide) (fun c50 => ?_) (fun c50 => ?_)
      · rw [if_neg c50] at hf
        refine bb_aload_n dX7_left_63 rfl ?_
        obtain ⟨t64, h64, hf⟩ := bb_bind hf
        refine bb_getR fl_X7_39 dX7_left_64 h64 ?_
        obtain ⟨r67, h67, hf⟩ := bb_bind hf
        obtain ⟨⟨v67, b67⟩, h67⟩ := bb_rcv_spec h67
        refine bb_invV (ci := 0) (as := []) iv_X7_170 (by unfold bb_rr; decide) rfl dX7_left_67 rfl rfl b67 (Nat.le_of_ble_eq_true rfl) (ok_X0_lifeOfAll h67) ?_
        refine bb_fewer (L' := [.null, .null, .null]) trivial ?_
        exact j_X7_left_70 _ _ hf
      rw [if_pos c50] at hf
      refine bb_aload_n dX7_left_53 rfl ?_
      obtain ⟨t54, h54, hf⟩ := bb_bind hf
      refine bb_getR fl_X7_39 dX7_left_54 h54 ?_
      obtain ⟨t57, h57, hf⟩ := bb_bind hf
      refine bb_getI fl_X7_161 dX7_left_57 h57 ?_
      refine bb_goto (tgt := 70) dX7_left_60 (by decide) ?_
      refine bb_fewer (L' := [.null, .null, .null]) trivial ?_
      exact j_X7_left_70 _ _ hf
    rw [if_neg c24] at hf
    refine bb_aload_n dX7_left_27 rfl ?_
    obtain ⟨t28, h28, hf⟩ := bb_bind hf
    refine bb_getR fl_X7_53 dX7_left_28 h28 ?_
    refine bb_iload_n dX7_left_31 rfl ?_
    obtain ⟨r32, h32, hf⟩ := bb_bind hf
    obtain ⟨⟨v32, b32⟩, h32⟩ := bb_rcv_spec h32
    refine bb_invV (ci := 2) (as := [.int x2]) iv_X7_247 (by unfold bb_rr; decide) rfl dX7_left_32 rfl rfl b32 (Nat.le_of_ble_eq_true rfl) (ok_X2_bestOn h32) ?_
    obtain rfl := Option.some.inj hf
    exact bb_iret rfl rfl dX7_left_35
  rw [if_neg c13] at hf
  refine bb_fewer (L' := [.null, .null, .null]) trivial ?_
  exact j_X7_left_16 _ hf
theorem ok_X7_left {x0 : Nat} {x1 : Int32} {x2 : Int32} {h : bb_H} {r : Int32 × bb_H} (hf : m_X7_left x0 x1 x2 h = some r) : bb_Ok yX7_left cX7_left 3 (some .int) rm_X7_left [.ref x0, .int x1, .int x2] h (some (.int r.1), r.2) :=
  bb_ok (L := [.ref x0, .int x1, .int x2]) (by decide) (Nat.le_of_ble_eq_true rfl) rfl (bb_fewer (L' := [.ref x0, .int x1, .int x2]) (And.intro rfl (And.intro rfl (And.intro rfl trivial))) (j_X7_left_0 _ _ _ _ hf))
abbrev rm_X7_areAllByTheirOwn : Room := { frames := 1, cells := 0, slots := 0, locals := 21 }
set_option maxRecDepth 100000 in
set_option maxHeartbeats 4000000 in
theorem j_X7_areAllByTheirOwn_70 {r : Int32 × bb_H} {k4 : Nat → Int32 → Int32 → Int32 → bb_H → Option (Int32 × bb_H)} (hk4 : ∀ (x0 : Nat) (x1 : Int32) (x2 : Int32) (x3 : Int32) (h : bb_H), k4 x0 x1 x2 x3 h = some r → bb_J RX7 cX7_areAllByTheirOwn 5 (some .boolean) rm_X7_areAllByTheirOwn (some (.int r.1), r.2) 4 [.ref x0, .int x1, .int x2, .int x3, .null] [] h) : ∀ (x0 : Nat) (x1 : Int32) (x2 : Int32) (x3 : Int32) (h : bb_H), m_X7_areAllByTheirOwn_70 k4 x0 x1 x2 x3 h = some r → bb_J RX7 cX7_areAllByTheirOwn 5 (some .boolean) rm_X7_areAllByTheirOwn (some (.int r.1), r.2) 70 [.ref x0, .int x1, .int x2, .int x3, .null] [] h := by
  intro x0 x1 x2 x3 h hf
  unfold m_X7_areAllByTheirOwn_70 at hf
  refine bb_iinc (v := x3 + 1) (L' := [.ref x0, .int x1, .int x2, .int (x3 + 1), .null]) dX7_areAllByTheirOwn_70 rfl rfl (by decide) rfl rfl ?_
  refine bb_goto (tgt := 4) dX7_areAllByTheirOwn_73 (by decide) ?_
  refine bb_fewer (L' := [.ref x0, .int x1, .int x2, .int (x3 + 1), .null]) (And.intro rfl (And.intro rfl (And.intro rfl (And.intro rfl trivial)))) ?_
  exact hk4 _ _ _ _ _ hf
set_option maxRecDepth 100000 in
set_option maxHeartbeats 4000000 in
theorem j_X7_areAllByTheirOwn_67 {r : Int32 × bb_H} {k4 : Nat → Int32 → Int32 → Int32 → bb_H → Option (Int32 × bb_H)} (hk4 : ∀ (x0 : Nat) (x1 : Int32) (x2 : Int32) (x3 : Int32) (h : bb_H), k4 x0 x1 x2 x3 h = some r → bb_J RX7 cX7_areAllByTheirOwn 5 (some .boolean) rm_X7_areAllByTheirOwn (some (.int r.1), r.2) 4 [.ref x0, .int x1, .int x2, .int x3, .null] [] h) : ∀ (x0 : Nat) (x1 : Int32) (x3 : Int32) (x4 : Int32) (h : bb_H), m_X7_areAllByTheirOwn_67 k4 x0 x1 x3 x4 h = some r → bb_J RX7 cX7_areAllByTheirOwn 5 (some .boolean) rm_X7_areAllByTheirOwn (some (.int r.1), r.2) 67 [.ref x0, .int x1, .null, .int x3, .int x4] [] h := by
  intro x0 x1 x3 x4 h hf
  unfold m_X7_areAllByTheirOwn_67 at hf
  refine bb_iload dX7_areAllByTheirOwn_67 rfl ?_
  refine bb_istore_n (L' := [.ref x0, .int x1, .int x4, .int x3, .int x4]) dX7_areAllByTheirOwn_69 (by decide) rfl rfl ?_
  refine bb_fewer (L' := [.ref x0, .int x1, .int x4, .int x3, .null]) (And.intro rfl (And.intro rfl (And.intro rfl (And.intro rfl trivial)))) ?_
  exact j_X7_areAllByTheirOwn_70 hk4 _ _ _ _ _ hf
set_option maxRecDepth 100000 in
set_option maxHeartbeats 4000000 in
theorem j_X7_areAllByTheirOwn_4 {r : Int32 × bb_H} : ∀ (n : Nat) (x0 : Nat) (x1 : Int32) (x2 : Int32) (x3 : Int32) (h : bb_H), m_X7_areAllByTheirOwn_4 n x0 x1 x2 x3 h = some r → bb_J RX7 cX7_areAllByTheirOwn 5 (some .boolean) rm_X7_areAllByTheirOwn (some (.int r.1), r.2) 4 [.ref x0, .int x1, .int x2, .int x3, .null] [] h := by
  intro n
  induction n with
  | zero =>
    intro x0 x1 x2 x3 h hf
    exact absurd hf (fun z => by cases z)
  | succ n ih =>
    intro x0 x1 x2 x3 h hf
    unfold m_X7_areAllByTheirOwn_4 at hf
    refine bb_iload_n dX7_areAllByTheirOwn_4 rfl ?_
    refine bb_aload_n dX7_areAllByTheirOwn_5 rfl ?_
    obtain ⟨t6, h6, hf⟩ := bb_bind hf
    refine bb_getR fl_X7_12 dX7_areAllByTheirOwn_6 h6 ?_
    obtain ⟨t9, h9, hf⟩ := bb_bind hf
    refine bb_getR fl_X7_87 dX7_areAllByTheirOwn_9 h9 ?_
    obtain ⟨t12, h12, hf⟩ := bb_bind hf
    refine bb_getI fl_X7_161 dX7_areAllByTheirOwn_12 h12 ?_
    refine bb_icmp_ge (tgt := 76) dX7_areAllByTheirOwn_15 (by decide) (fun c15 => ?_) (fun c15 => ?_)
    · rw [if_pos c15] at hf
      refine bb_iconst (v := 1) dX7_areAllByTheirOwn_76 (by decide) ?_
      obtain rfl := Option.some.inj hf
      exact bb_zret rfl (by decide) rfl dX7_areAllByTheirOwn_77
    rw [if_neg c15] at hf
    refine bb_iload_n dX7_areAllByTheirOwn_18 rfl ?_
    refine bb_iload_n dX7_areAllByTheirOwn_19 rfl ?_
    obtain ⟨r20, h20, hf⟩ := bb_bind hf
    refine bb_invS (as := [.int x1, .int x3]) is_X7_220 (by unfold bb_rr; decide) dX7_areAllByTheirOwn_20 rfl rfl (Nat.le_of_ble_eq_true rfl) (ok_X7_holds h20) ?_
    refine bb_if_eq (tgt := 70) dX7_areAllByTheirOwn_23 (by decide) (fun c23 => ?_) (fun c23 => ?_)
    · rw [if_pos c23] at hf
      refine bb_fewer (L' := [.ref x0, .int x1, .int x2, .int x3, .null]) (And.intro rfl (And.intro rfl (And.intro rfl (And.intro rfl trivial)))) ?_
      exact j_X7_areAllByTheirOwn_70 ih _ _ _ _ _ hf
    rw [if_neg c23] at hf
    refine bb_aload_n dX7_areAllByTheirOwn_26 rfl ?_
    obtain ⟨t27, h27, hf⟩ := bb_bind hf
    refine bb_getR fl_X7_12 dX7_areAllByTheirOwn_27 h27 ?_
    obtain ⟨t30, h30, hf⟩ := bb_bind hf
    refine bb_getR fl_X7_87 dX7_areAllByTheirOwn_30 h30 ?_
    obtain ⟨t33, h33, hf⟩ := bb_bind hf
    refine bb_getR fl_X7_173 dX7_areAllByTheirOwn_33 h33 ?_
    refine bb_iload_n dX7_areAllByTheirOwn_36 rfl ?_
    obtain ⟨t37, h37, hf⟩ := bb_bind hf
    refine bb_iaload dX7_areAllByTheirOwn_37 h37 ?_
    refine bb_istore (L' := [.ref x0, .int x1, .int x2, .int x3, .int t37]) dX7_areAllByTheirOwn_38 (by decide) rfl rfl ?_
    refine bb_iload_n dX7_areAllByTheirOwn_40 rfl ?_
    refine bb_iconst (v := (-1)) dX7_areAllByTheirOwn_41 (by decide) ?_
    refine bb_icmp_eq (tgt := 67) dX7_areAllByTheirOwn_42 (by decide) (fun c42 => ?_) (fun c42 => ?_)
    · rw [if_pos c42] at hf
      refine bb_fewer (L' := [.ref x0, .int x1, .null, .int x3, .int t37]) (And.intro rfl (And.intro rfl (And.intro rfl (And.intro rfl trivial)))) ?_
      exact j_X7_areAllByTheirOwn_67 ih _ _ _ _ _ hf
    rw [if_neg c42] at hf
    refine bb_aload_n dX7_areAllByTheirOwn_45 rfl ?_
    obtain ⟨t46, h46, hf⟩ := bb_bind hf
    refine bb_getR fl_X7_12 dX7_areAllByTheirOwn_46 h46 ?_
    obtain ⟨t49, h49, hf⟩ := bb_bind hf
    refine bb_getR fl_X7_66 dX7_areAllByTheirOwn_49 h49 ?_
    obtain ⟨t52, h52, hf⟩ := bb_bind hf
    refine bb_getR fl_X7_127 dX7_areAllByTheirOwn_52 h52 ?_
    refine bb_iload_n dX7_areAllByTheirOwn_55 rfl ?_
    obtain ⟨t56, h56, hf⟩ := bb_bind hf
    refine bb_iaload dX7_areAllByTheirOwn_56 h56 ?_
    refine bb_iload dX7_areAllByTheirOwn_57 rfl ?_
    obtain ⟨r59, h59, hf⟩ := bb_bind hf
    refine bb_invS (as := [.int t56, .int t37]) is_X7_220 (by unfold bb_rr; decide) dX7_areAllByTheirOwn_59 rfl rfl (Nat.le_of_ble_eq_true rfl) (ok_X7_holds h59) ?_
    refine bb_if_ne (tgt := 67) dX7_areAllByTheirOwn_62 (by decide) (fun c62 => ?_) (fun c62 => ?_)
    · rw [if_neg c62] at hf
      refine bb_fewer (L' := [.ref x0, .int x1, .null, .int x3, .int t37]) (And.intro rfl (And.intro rfl (And.intro rfl (And.intro rfl trivial)))) ?_
      exact j_X7_areAllByTheirOwn_67 ih _ _ _ _ _ hf
    rw [if_pos c62] at hf
    refine bb_iconst (v := 0) dX7_areAllByTheirOwn_65 (by decide) ?_
    obtain rfl := Option.some.inj hf
    exact bb_zret rfl (by decide) rfl dX7_areAllByTheirOwn_66
set_option maxRecDepth 100000 in
set_option maxHeartbeats 4000000 in
theorem j_X7_areAllByTheirOwn_0 {r : Int32 × bb_H} : ∀ (x0 : Nat) (x1 : Int32) (h : bb_H), m_X7_areAllByTheirOwn x0 x1 h = some r → bb_J RX7 cX7_areAllByTheirOwn 5 (some .boolean) rm_X7_areAllByTheirOwn (some (.int r.1), r.2) 0 [.ref x0, .int x1, .null, .null, .null] [] h := by
  intro x0 x1 h hf
  unfold m_X7_areAllByTheirOwn at hf
  refine bb_iconst (v := (-1)) dX7_areAllByTheirOwn_0 (by decide) ?_
  refine bb_istore_n (L' := [.ref x0, .int x1, .int (-1), .null, .null]) dX7_areAllByTheirOwn_1 (by decide) rfl rfl ?_
  refine bb_iconst (v := 0) dX7_areAllByTheirOwn_2 (by decide) ?_
  refine bb_istore_n (L' := [.ref x0, .int x1, .int (-1), .int 0, .null]) dX7_areAllByTheirOwn_3 (by decide) rfl rfl ?_
  refine bb_fewer (L' := [.ref x0, .int x1, .int (-1), .int 0, .null]) (And.intro rfl (And.intro rfl (And.intro rfl (And.intro rfl trivial)))) ?_
  exact j_X7_areAllByTheirOwn_4 _ _ _ _ _ _ hf
theorem ok_X7_areAllByTheirOwn {x0 : Nat} {x1 : Int32} {h : bb_H} {r : Int32 × bb_H} (hf : m_X7_areAllByTheirOwn x0 x1 h = some r) : bb_Ok yX7_areAllByTheirOwn cX7_areAllByTheirOwn 5 (some .boolean) rm_X7_areAllByTheirOwn [.ref x0, .int x1] h (some (.int r.1), r.2) :=
  bb_ok (L := [.ref x0, .int x1, .null, .null, .null]) (by decide) (Nat.le_of_ble_eq_true rfl) rfl (bb_fewer (L' := [.ref x0, .int x1, .null, .null, .null]) (And.intro rfl (And.intro rfl trivial)) (j_X7_areAllByTheirOwn_0 _ _ _ hf))
abbrev rm_X7_power : Room := { frames := 0, cells := 0, slots := 0, locals := 0 }
set_option maxRecDepth 100000 in
set_option maxHeartbeats 4000000 in
theorem j_X7_power_4 {r : Int32 × bb_H} : ∀ (n : Nat) (x0 : Int32) (x1 : Int32) (x2 : Int32) (x3 : Int32) (h : bb_H), m_X7_power_4 n x0 x1 x2 x3 h = some r → bb_J RX7 cX7_power 4 (some .int) rm_X7_power (some (.int r.1), r.2) 4 [.int x0, .int x1, .int x2, .int x3] [] h := by
  intro n
  induction n with
  | zero =>
    intro x0 x1 x2 x3 h hf
    exact absurd hf (fun z => by cases z)
  | succ n ih =>
    intro x0 x1 x2 x3 h hf
    unfold m_X7_power_4 at hf
    refine bb_iload_n dX7_power_4 rfl ?_
    refine bb_iload_n dX7_power_5 rfl ?_
    refine bb_icmp_ge (tgt := 19) dX7_power_6 (by decide) (fun c6 => ?_) (fun c6 => ?_)
    · rw [if_pos c6] at hf
      refine bb_iload_n dX7_power_19 rfl ?_
      obtain rfl := Option.some.inj hf
      exact bb_iret rfl rfl dX7_power_20
    rw [if_neg c6] at hf
    refine bb_iload_n dX7_power_9 rfl ?_
    refine bb_iload_n dX7_power_10 rfl ?_
    refine bb_imul dX7_power_11 ?_
    refine bb_istore_n (L' := [.int x0, .int x1, .int (x2 * x0), .int x3]) dX7_power_12 (by decide) rfl rfl ?_
    refine bb_iinc (v := x3 + 1) (L' := [.int x0, .int x1, .int (x2 * x0), .int (x3 + 1)]) dX7_power_13 rfl rfl (by decide) rfl rfl ?_
    refine bb_goto (tgt := 4) dX7_power_16 (by decide) ?_
    refine bb_fewer (L' := [.int x0, .int x1, .int (x2 * x0), .int (x3 + 1)]) (And.intro rfl (And.intro rfl (And.intro rfl (And.intro rfl trivial)))) ?_
    exact ih _ _ _ _ _ hf
set_option maxRecDepth 100000 in
set_option maxHeartbeats 4000000 in
theorem j_X7_power_0 {r : Int32 × bb_H} : ∀ (x0 : Int32) (x1 : Int32) (h : bb_H), m_X7_power x0 x1 h = some r → bb_J RX7 cX7_power 4 (some .int) rm_X7_power (some (.int r.1), r.2) 0 [.int x0, .int x1, .null, .null] [] h := by
  intro x0 x1 h hf
  unfold m_X7_power at hf
  refine bb_iconst (v := 1) dX7_power_0 (by decide) ?_
  refine bb_istore_n (L' := [.int x0, .int x1, .int 1, .null]) dX7_power_1 (by decide) rfl rfl ?_
  refine bb_iconst (v := 0) dX7_power_2 (by decide) ?_
  refine bb_istore_n (L' := [.int x0, .int x1, .int 1, .int 0]) dX7_power_3 (by decide) rfl rfl ?_
  refine bb_fewer (L' := [.int x0, .int x1, .int 1, .int 0]) (And.intro rfl (And.intro rfl (And.intro rfl (And.intro rfl trivial)))) ?_
  exact j_X7_power_4 _ _ _ _ _ _ hf
theorem ok_X7_power {x0 : Int32} {x1 : Int32} {h : bb_H} {r : Int32 × bb_H} (hf : m_X7_power x0 x1 h = some r) : bb_Ok yX7_power cX7_power 4 (some .int) rm_X7_power [.int x0, .int x1] h (some (.int r.1), r.2) :=
  bb_ok (L := [.int x0, .int x1, .null, .null]) (by decide) (Nat.le_of_ble_eq_true rfl) rfl (bb_fewer (L' := [.int x0, .int x1, .null, .null]) (And.intro rfl (And.intro rfl trivial)) (j_X7_power_0 _ _ _ hf))
abbrev rm_X7_weightOfWinters : Room := { frames := 2, cells := 0, slots := 0, locals := 45 }
set_option maxRecDepth 100000 in
set_option maxHeartbeats 4000000 in
theorem j_X7_weightOfWinters_70 {r : Int32 × bb_H} {k17 : Nat → Int32 → Int32 → Int32 → Int32 → Int32 → bb_H → Option (Int32 × bb_H)} (hk17 : ∀ (x0 : Nat) (x1 : Int32) (x2 : Int32) (x3 : Int32) (x4 : Int32) (x5 : Int32) (h : bb_H), k17 x0 x1 x2 x3 x4 x5 h = some r → bb_J RX7 cX7_weightOfWinters 7 (some .int) rm_X7_weightOfWinters (some (.int r.1), r.2) 17 [.ref x0, .int x1, .int x2, .int x3, .int x4, .int x5, .null] [] h) : ∀ (x0 : Nat) (x1 : Int32) (x2 : Int32) (x3 : Int32) (x4 : Int32) (x5 : Int32) (h : bb_H), m_X7_weightOfWinters_70 k17 x0 x1 x2 x3 x4 x5 h = some r → bb_J RX7 cX7_weightOfWinters 7 (some .int) rm_X7_weightOfWinters (some (.int r.1), r.2) 70 [.ref x0, .int x1, .int x2, .int x3, .int x4, .int x5, .null] [] h := by
  intro x0 x1 x2 x3 x4 x5 h hf
  unfold m_X7_weightOfWinters_70 at hf
  refine bb_iinc (v := x5 + 1) (L' := [.ref x0, .int x1, .int x2, .int x3, .int x4, .int (x5 + 1), .null]) dX7_weightOfWinters_70 rfl rfl (by decide) rfl rfl ?_
  refine bb_goto (tgt := 17) dX7_weightOfWinters_73 (by decide) ?_
  refine bb_fewer (L' := [.ref x0, .int x1, .int x2, .int x3, .int x4, .int (x5 + 1), .null]) (And.intro rfl (And.intro rfl (And.intro rfl (And.intro rfl (And.intro rfl (And.intro rfl trivial)))))) ?_
  exact hk17 _ _ _ _ _ _ _ hf
set_option maxRecDepth 100000 in
set_option maxHeartbeats 4000000 in
theorem j_X7_weightOfWinters_17 {r : Int32 × bb_H} : ∀ (n : Nat) (x0 : Nat) (x1 : Int32) (x2 : Int32) (x3 : Int32) (x4 : Int32) (x5 : Int32) (h : bb_H), m_X7_weightOfWinters_17 n x0 x1 x2 x3 x4 x5 h = some r → bb_J RX7 cX7_weightOfWinters 7 (some .int) rm_X7_weightOfWinters (some (.int r.1), r.2) 17 [.ref x0, .int x1, .int x2, .int x3, .int x4, .int x5, .null] [] h := by
  intro n
  induction n with
  | zero =>
    intro x0 x1 x2 x3 x4 x5 h hf
    exact absurd hf (fun z => by cases z)
  | succ n ih =>
    intro x0 x1 x2 x3 x4 x5 h hf
    unfold m_X7_weightOfWinters_17 at hf
    refine bb_iload dX7_weightOfWinters_17 rfl ?_
    refine bb_iconst (v := 1) dX7_weightOfWinters_19 (by decide) ?_
    refine bb_iload_n dX7_weightOfWinters_20 rfl ?_
    refine bb_ishl dX7_weightOfWinters_21 ?_
    refine bb_icmp_ge (tgt := 76) dX7_weightOfWinters_22 (by decide) (fun c22 => ?_) (fun c22 => ?_)
    · rw [if_pos c22] at hf
      refine bb_iload dX7_weightOfWinters_76 rfl ?_
      obtain rfl := Option.some.inj hf
      exact bb_iret rfl rfl dX7_weightOfWinters_78
    rw [if_neg c22] at hf
    refine bb_iload dX7_weightOfWinters_25 rfl ?_
    obtain ⟨r27, h27, hf⟩ := bb_bind hf
    refine bb_invS (as := [.int x5]) is_X7_227 (by unfold bb_rr; decide) dX7_weightOfWinters_27 rfl rfl (Nat.le_of_ble_eq_true rfl) (ok_J6_bitCount_0f7a4 h27) ?_
    refine bb_istore (L' := [.ref x0, .int x1, .int x2, .int x3, .int x4, .int x5, .int r27.1]) dX7_weightOfWinters_30 (by decide) rfl rfl ?_
    refine bb_iload dX7_weightOfWinters_32 rfl ?_
    refine bb_iload_n dX7_weightOfWinters_34 rfl ?_
    refine bb_icmp_lt (tgt := 70) dX7_weightOfWinters_35 (by decide) (fun c35 => ?_) (fun c35 => ?_)
    · rw [if_pos c35] at hf
      refine bb_fewer (L' := [.ref x0, .int x1, .int x2, .int x3, .int x4, .int x5, .null]) (And.intro rfl (And.intro rfl (And.intro rfl (And.intro rfl (And.intro rfl (And.intro rfl trivial)))))) ?_
      exact j_X7_weightOfWinters_70 ih _ _ _ _ _ _ _ hf
    rw [if_neg c35] at hf
    refine bb_aload_n dX7_weightOfWinters_38 rfl ?_
    refine bb_iload dX7_weightOfWinters_39 rfl ?_
    obtain ⟨r41, h41, hf⟩ := bb_bind hf
    obtain ⟨⟨v41, b41⟩, h41⟩ := bb_rcv_spec h41
    refine bb_invV (ci := 7) (as := [.int x5]) iv_X7_339 (by unfold bb_rr; decide) rfl dX7_weightOfWinters_41 rfl rfl b41 (Nat.le_of_ble_eq_true rfl) (ok_X7_areAllByTheirOwn h41) ?_
    refine bb_if_eq (tgt := 70) dX7_weightOfWinters_44 (by decide) (fun c44 => ?_) (fun c44 => ?_)
    · rw [if_pos c44] at hf
      refine bb_fewer (L' := [.ref x0, .int x1, .int x2, .int x3, .int x4, .int x5, .null]) (And.intro rfl (And.intro rfl (And.intro rfl (And.intro rfl (And.intro rfl (And.intro rfl trivial)))))) ?_
      exact j_X7_weightOfWinters_70 ih _ _ _ _ _ _ _ hf
    rw [if_neg c44] at hf
    refine bb_iload dX7_weightOfWinters_47 rfl ?_
    refine bb_bipush (v := 10) dX7_weightOfWinters_49 (by decide) ?_
    refine bb_iload_n dX7_weightOfWinters_51 rfl ?_
    refine bb_isub dX7_weightOfWinters_52 ?_
    refine bb_iload dX7_weightOfWinters_53 rfl ?_
    obtain ⟨r55, h55, hf⟩ := bb_bind hf
    refine bb_invS (as := [.int (10 - x2), .int r27.1]) is_X7_263 (by unfold bb_rr; decide) dX7_weightOfWinters_55 rfl rfl (Nat.le_of_ble_eq_true rfl) (ok_X7_power h55) ?_
    refine bb_iload_n dX7_weightOfWinters_58 rfl ?_
    refine bb_iload_n dX7_weightOfWinters_59 rfl ?_
    refine bb_iload dX7_weightOfWinters_60 rfl ?_
    refine bb_isub dX7_weightOfWinters_62 ?_
    obtain ⟨r63, h63, hf⟩ := bb_bind hf
    refine bb_invS (as := [.int x2, .int (x3 - r27.1)]) is_X7_263 (by unfold bb_rr; decide) dX7_weightOfWinters_63 rfl rfl (Nat.le_of_ble_eq_true rfl) (ok_X7_power h63) ?_
    refine bb_imul dX7_weightOfWinters_66 ?_
    refine bb_iadd dX7_weightOfWinters_67 ?_
    refine bb_istore (L' := [.ref x0, .int x1, .int x2, .int x3, .int (x4 + (r55.1 * r63.1)), .int x5, .int r27.1]) dX7_weightOfWinters_68 (by decide) rfl rfl ?_
    refine bb_fewer (L' := [.ref x0, .int x1, .int x2, .int x3, .int (x4 + (r55.1 * r63.1)), .int x5, .null]) (And.intro rfl (And.intro rfl (And.intro rfl (And.intro rfl (And.intro rfl (And.intro rfl trivial)))))) ?_
    exact j_X7_weightOfWinters_70 ih _ _ _ _ _ _ _ hf
set_option maxRecDepth 100000 in
set_option maxHeartbeats 4000000 in
theorem j_X7_weightOfWinters_0 {r : Int32 × bb_H} : ∀ (x0 : Nat) (x1 : Int32) (x2 : Int32) (h : bb_H), m_X7_weightOfWinters x0 x1 x2 h = some r → bb_J RX7 cX7_weightOfWinters 7 (some .int) rm_X7_weightOfWinters (some (.int r.1), r.2) 0 [.ref x0, .int x1, .int x2, .null, .null, .null, .null] [] h := by
  intro x0 x1 x2 h hf
  unfold m_X7_weightOfWinters at hf
  refine bb_aload_n dX7_weightOfWinters_0 rfl ?_
  obtain ⟨t1, h1, hf⟩ := bb_bind hf
  refine bb_getR fl_X7_12 dX7_weightOfWinters_1 h1 ?_
  obtain ⟨t4, h4, hf⟩ := bb_bind hf
  refine bb_getR fl_X7_87 dX7_weightOfWinters_4 h4 ?_
  obtain ⟨t7, h7, hf⟩ := bb_bind hf
  refine bb_getI fl_X7_161 dX7_weightOfWinters_7 h7 ?_
  refine bb_istore_n (L' := [.ref x0, .int x1, .int x2, .int t7, .null, .null, .null]) dX7_weightOfWinters_10 (by decide) rfl rfl ?_
  refine bb_iconst (v := 0) dX7_weightOfWinters_11 (by decide) ?_
  refine bb_istore (L' := [.ref x0, .int x1, .int x2, .int t7, .int 0, .null, .null]) dX7_weightOfWinters_12 (by decide) rfl rfl ?_
  refine bb_iconst (v := 0) dX7_weightOfWinters_14 (by decide) ?_
  refine bb_istore (L' := [.ref x0, .int x1, .int x2, .int t7, .int 0, .int 0, .null]) dX7_weightOfWinters_15 (by decide) rfl rfl ?_
  refine bb_fewer (L' := [.ref x0, .int x1, .int x2, .int t7, .int 0, .int 0, .null]) (And.intro rfl (And.intro rfl (And.intro rfl (And.intro rfl (And.intro rfl (And.intro rfl trivial)))))) ?_
  exact j_X7_weightOfWinters_17 _ _ _ _ _ _ _ _ hf
theorem ok_X7_weightOfWinters {x0 : Nat} {x1 : Int32} {x2 : Int32} {h : bb_H} {r : Int32 × bb_H} (hf : m_X7_weightOfWinters x0 x1 x2 h = some r) : bb_Ok yX7_weightOfWinters cX7_weightOfWinters 7 (some .int) rm_X7_weightOfWinters [.ref x0, .int x1, .int x2] h (some (.int r.1), r.2) :=
  bb_ok (L := [.ref x0, .int x1, .int x2, .null, .null, .null, .null]) (by decide) (Nat.le_of_ble_eq_true rfl) rfl (bb_fewer (L' := [.ref x0, .int x1, .int x2, .null, .null, .null, .null]) (And.intro rfl (And.intro rfl (And.intro rfl trivial))) (j_X7_weightOfWinters_0 _ _ _ _ hf))
abbrev rm_X7_commonDivisor : Room := { frames := 0, cells := 0, slots := 0, locals := 0 }
set_option maxRecDepth 100000 in
set_option maxHeartbeats 4000000 in
theorem j_X7_commonDivisor_34 {r : Int32 × bb_H} : ∀ (x2 : Int32) (h : bb_H), m_X7_commonDivisor_34 x2 h = some r → bb_J RX7 cX7_commonDivisor 6 (some .int) rm_X7_commonDivisor (some (.int r.1), r.2) 34 [.null, .null, .int x2, .null, .null, .null] [] h := by
  intro x2 h hf
  unfold m_X7_commonDivisor_34 at hf
  refine bb_iload_n dX7_commonDivisor_34 rfl ?_
  obtain rfl := Option.some.inj hf
  exact bb_iret rfl rfl dX7_commonDivisor_35
set_option maxRecDepth 100000 in
set_option maxHeartbeats 4000000 in
theorem j_X7_commonDivisor_7 {r : Int32 × bb_H} : ∀ (n : Nat) (x2 : Int32) (x3 : Int32) (x4 : Int32) (h : bb_H), m_X7_commonDivisor_7 n x2 x3 x4 h = some r → bb_J RX7 cX7_commonDivisor 6 (some .int) rm_X7_commonDivisor (some (.int r.1), r.2) 7 [.null, .null, .int x2, .int x3, .int x4, .null] [] h := by
  intro n
  induction n with
  | zero =>
    intro x2 x3 x4 h hf
    exact absurd hf (fun z => by cases z)
  | succ n ih =>
    intro x2 x3 x4 h hf
    unfold m_X7_commonDivisor_7 at hf
    refine bb_iload dX7_commonDivisor_7 rfl ?_
    refine bb_bipush (v := 100) dX7_commonDivisor_9 (by decide) ?_
    refine bb_icmp_ge (tgt := 34) dX7_commonDivisor_11 (by decide) (fun c11 => ?_) (fun c11 => ?_)
    · rw [if_pos c11] at hf
      refine bb_fewer (L' := [.null, .null, .int x2, .null, .null, .null]) (And.intro rfl trivial) ?_
      exact j_X7_commonDivisor_34 _ _ hf
    rw [if_neg c11] at hf
    refine bb_iload_n dX7_commonDivisor_14 rfl ?_
    refine bb_if_eq (tgt := 34) dX7_commonDivisor_15 (by decide) (fun c15 => ?_) (fun c15 => ?_)
    · rw [if_pos c15] at hf
      refine bb_fewer (L' := [.null, .null, .int x2, .null, .null, .null]) (And.intro rfl trivial) ?_
      exact j_X7_commonDivisor_34 _ _ hf
    rw [if_neg c15] at hf
    refine bb_iload_n dX7_commonDivisor_18 rfl ?_
    refine bb_iload_n dX7_commonDivisor_19 rfl ?_
    by_cases c20 : x3 = 0
    · rw [if_pos c20] at hf; cases hf
    rw [if_neg c20] at hf
    refine bb_irem dX7_commonDivisor_20 c20 ?_
    refine bb_istore (L' := [.null, .null, .int x2, .int x3, .int x4, .int (x2 - x2 / x3 * x3)]) dX7_commonDivisor_21 (by decide) rfl rfl ?_
    refine bb_iload_n dX7_commonDivisor_23 rfl ?_
    refine bb_istore_n (L' := [.null, .null, .int x3, .int x3, .int x4, .int (x2 - x2 / x3 * x3)]) dX7_commonDivisor_24 (by decide) rfl rfl ?_
    refine bb_iload dX7_commonDivisor_25 rfl ?_
    refine bb_istore_n (L' := [.null, .null, .int x3, .int (x2 - x2 / x3 * x3), .int x4, .int (x2 - x2 / x3 * x3)]) dX7_commonDivisor_27 (by decide) rfl rfl ?_
    refine bb_iinc (v := x4 + 1) (L' := [.null, .null, .int x3, .int (x2 - x2 / x3 * x3), .int (x4 + 1), .int (x2 - x2 / x3 * x3)]) dX7_commonDivisor_28 rfl rfl (by decide) rfl rfl ?_
    refine bb_goto (tgt := 7) dX7_commonDivisor_31 (by decide) ?_
    refine bb_fewer (L' := [.null, .null, .int x3, .int (x2 - x2 / x3 * x3), .int (x4 + 1), .null]) (And.intro rfl (And.intro rfl (And.intro rfl trivial))) ?_
    exact ih _ _ _ _ hf
set_option maxRecDepth 100000 in
set_option maxHeartbeats 4000000 in
theorem j_X7_commonDivisor_0 {r : Int32 × bb_H} : ∀ (x0 : Int32) (x1 : Int32) (h : bb_H), m_X7_commonDivisor x0 x1 h = some r → bb_J RX7 cX7_commonDivisor 6 (some .int) rm_X7_commonDivisor (some (.int r.1), r.2) 0 [.int x0, .int x1, .null, .null, .null, .null] [] h := by
  intro x0 x1 h hf
  unfold m_X7_commonDivisor at hf
  refine bb_iload_n dX7_commonDivisor_0 rfl ?_
  refine bb_istore_n (L' := [.int x0, .int x1, .int x0, .null, .null, .null]) dX7_commonDivisor_1 (by decide) rfl rfl ?_
  refine bb_iload_n dX7_commonDivisor_2 rfl ?_
  refine bb_istore_n (L' := [.int x0, .int x1, .int x0, .int x1, .null, .null]) dX7_commonDivisor_3 (by decide) rfl rfl ?_
  refine bb_iconst (v := 0) dX7_commonDivisor_4 (by decide) ?_
  refine bb_istore (L' := [.int x0, .int x1, .int x0, .int x1, .int 0, .null]) dX7_commonDivisor_5 (by decide) rfl rfl ?_
  refine bb_fewer (L' := [.null, .null, .int x0, .int x1, .int 0, .null]) (And.intro rfl (And.intro rfl (And.intro rfl trivial))) ?_
  exact j_X7_commonDivisor_7 _ _ _ _ _ hf
theorem ok_X7_commonDivisor {x0 : Int32} {x1 : Int32} {h : bb_H} {r : Int32 × bb_H} (hf : m_X7_commonDivisor x0 x1 h = some r) : bb_Ok yX7_commonDivisor cX7_commonDivisor 6 (some .int) rm_X7_commonDivisor [.int x0, .int x1] h (some (.int r.1), r.2) :=
  bb_ok (L := [.int x0, .int x1, .null, .null, .null, .null]) (by decide) (Nat.le_of_ble_eq_true rfl) rfl (bb_fewer (L' := [.int x0, .int x1, .null, .null, .null, .null]) (And.intro rfl (And.intro rfl trivial)) (j_X7_commonDivisor_0 _ _ _ hf))
abbrev rm_X7_winter : Room := { frames := 3, cells := 0, slots := 0, locals := 71 }
set_option maxRecDepth 100000 in
set_option maxHeartbeats 4000000 in
theorem j_X7_winter_29 {r : Int32 × bb_H} : ∀ (h : bb_H), m_X7_winter_29 h = some r → bb_J RX7 cX7_winter 7 (some .int) rm_X7_winter (some (.int r.1), r.2) 29 [.null, .null, .null, .null, .null, .null, .null] [] h := by
  intro h hf
  unfold m_X7_winter_29 at hf
  refine bb_iconst (v := (-1)) dX7_winter_29 (by decide) ?_
  obtain rfl := Option.some.inj hf
  exact bb_iret rfl rfl dX7_winter_30
set_option maxRecDepth 100000 in
set_option maxHeartbeats 4000000 in
theorem j_X7_winter_83 {r : Int32 × bb_H} : ∀ (x6 : Int32) (z0 : Int32) (h : bb_H), m_X7_winter_83 x6 z0 h = some r → bb_J RX7 cX7_winter 7 (some .int) rm_X7_winter (some (.int r.1), r.2) 83 [.null, .null, .null, .null, .null, .null, .int x6] [.int z0] h := by
  intro x6 z0 h hf
  unfold m_X7_winter_83 at hf
  refine bb_iload dX7_winter_83 rfl ?_
  by_cases c85 : x6 = 0
  · rw [if_pos c85] at hf; cases hf
  rw [if_neg c85] at hf
  refine bb_idiv dX7_winter_85 c85 ?_
  obtain rfl := Option.some.inj hf
  exact bb_iret rfl rfl dX7_winter_86
set_option maxRecDepth 100000 in
set_option maxHeartbeats 4000000 in
theorem j_X7_winter_0 {r : Int32 × bb_H} : ∀ (x0 : Nat) (x1 : Int32) (x2 : Int32) (x3 : Int32) (h : bb_H), m_X7_winter x0 x1 x2 x3 h = some r → bb_J RX7 cX7_winter 7 (some .int) rm_X7_winter (some (.int r.1), r.2) 0 [.ref x0, .int x1, .int x2, .int x3, .null, .null, .null] [] h := by
  intro x0 x1 x2 x3 h hf
  unfold m_X7_winter at hf
  refine bb_iload_n dX7_winter_0 rfl ?_
  refine bb_iconst (v := 0) dX7_winter_1 (by decide) ?_
  refine bb_bipush (v := 6) dX7_winter_2 (by decide) ?_
  obtain ⟨r4, h4, hf⟩ := bb_bind hf
  refine bb_invS (as := [.int x1, .int 0, .int 6]) is_X7_62 (by unfold bb_rr; decide) dX7_winter_4 rfl rfl (Nat.le_of_ble_eq_true rfl) (ok_X7_within h4) ?_
  refine bb_if_eq (tgt := 29) dX7_winter_7 (by decide) (fun c7 => ?_) (fun c7 => ?_)
  · rw [if_pos c7] at hf
    refine bb_fewer (L' := [.null, .null, .null, .null, .null, .null, .null]) trivial ?_
    exact j_X7_winter_29 _ hf
  rw [if_neg c7] at hf
  refine bb_iload_n dX7_winter_10 rfl ?_
  refine bb_iconst (v := 0) dX7_winter_11 (by decide) ?_
  refine bb_bipush (v := 10) dX7_winter_12 (by decide) ?_
  obtain ⟨r14, h14, hf⟩ := bb_bind hf
  refine bb_invS (as := [.int x2, .int 0, .int 10]) is_X7_62 (by unfold bb_rr; decide) dX7_winter_14 rfl rfl (Nat.le_of_ble_eq_true rfl) (ok_X7_within h14) ?_
  refine bb_if_eq (tgt := 29) dX7_winter_17 (by decide) (fun c17 => ?_) (fun c17 => ?_)
  · rw [if_pos c17] at hf
    refine bb_fewer (L' := [.null, .null, .null, .null, .null, .null, .null]) trivial ?_
    exact j_X7_winter_29 _ hf
  rw [if_neg c17] at hf
  refine bb_iload_n dX7_winter_20 rfl ?_
  refine bb_iconst (v := 0) dX7_winter_21 (by decide) ?_
  refine bb_iconst (v := 1) dX7_winter_22 (by decide) ?_
  obtain ⟨r23, h23, hf⟩ := bb_bind hf
  refine bb_invS (as := [.int x3, .int 0, .int 1]) is_X7_62 (by unfold bb_rr; decide) dX7_winter_23 rfl rfl (Nat.le_of_ble_eq_true rfl) (ok_X7_within h23) ?_
  refine bb_if_ne (tgt := 31) dX7_winter_26 (by decide) (fun c26 => ?_) (fun c26 => ?_)
  · rw [if_neg c26] at hf
    refine bb_aload_n dX7_winter_31 rfl ?_
    refine bb_iload_n dX7_winter_32 rfl ?_
    refine bb_iload_n dX7_winter_33 rfl ?_
    obtain ⟨r34, h34, hf⟩ := bb_bind hf
    obtain ⟨⟨v34, b34⟩, h34⟩ := bb_rcv_spec h34
    refine bb_invV (ci := 7) (as := [.int x1, .int x2]) iv_X7_260 (by unfold bb_rr; decide) rfl dX7_winter_34 rfl rfl b34 (Nat.le_of_ble_eq_true rfl) (ok_X7_weightOfWinters h34) ?_
    refine bb_istore (L' := [.ref x0, .int x1, .int x2, .int x3, .int r34.1, .null, .null]) dX7_winter_37 (by decide) rfl rfl ?_
    refine bb_bipush (v := 10) dX7_winter_39 (by decide) ?_
    refine bb_aload_n dX7_winter_41 rfl ?_
    obtain ⟨t42, h42, hf⟩ := bb_bind hf
    refine bb_getR fl_X7_12 dX7_winter_42 h42 ?_
    obtain ⟨t45, h45, hf⟩ := bb_bind hf
    refine bb_getR fl_X7_87 dX7_winter_45 h45 ?_
    obtain ⟨t48, h48, hf⟩ := bb_bind hf
    refine bb_getI fl_X7_161 dX7_winter_48 h48 ?_
    obtain ⟨r51, h51, hf⟩ := bb_bind hf
    refine bb_invS (as := [.int 10, .int t48]) is_X7_263 (by unfold bb_rr; decide) dX7_winter_51 rfl rfl (Nat.le_of_ble_eq_true rfl) (ok_X7_power h51) ?_
    refine bb_istore (L' := [.ref x0, .int x1, .int x2, .int x3, .int r34.1, .int r51.1, .null]) dX7_winter_54 (by decide) rfl rfl ?_
    refine bb_iload dX7_winter_56 rfl ?_
    refine bb_iload dX7_winter_58 rfl ?_
    obtain ⟨r60, h60, hf⟩ := bb_bind hf
    refine bb_invS (as := [.int r34.1, .int r51.1]) is_X7_266 (by unfold bb_rr; decide) dX7_winter_60 rfl rfl (Nat.le_of_ble_eq_true rfl) (ok_X7_commonDivisor h60) ?_
    refine bb_istore (L' := [.ref x0, .int x1, .int x2, .int x3, .int r34.1, .int r51.1, .int r60.1]) dX7_winter_63 (by decide) rfl rfl ?_
    refine bb_iload dX7_winter_65 rfl ?_
    refine bb_if_gt (tgt := 72) dX7_winter_67 (by decide) (fun c67 => ?_) (fun c67 => ?_)
    · rw [if_pos c67] at hf
      refine bb_iload_n dX7_winter_72 rfl ?_
      refine bb_if_ne (tgt := 81) dX7_winter_73 (by decide) (fun c73 => ?_) (fun c73 => ?_)
      · rw [if_neg c73] at hf
        refine bb_iload dX7_winter_81 rfl ?_
        refine bb_fewer (L' := [.null, .null, .null, .null, .null, .null, .int r60.1]) (And.intro rfl trivial) ?_
        exact j_X7_winter_83 _ _ _ hf
      rw [if_pos c73] at hf
      refine bb_iload dX7_winter_76 rfl ?_
      refine bb_goto (tgt := 83) dX7_winter_78 (by decide) ?_
      refine bb_fewer (L' := [.null, .null, .null, .null, .null, .null, .int r60.1]) (And.intro rfl trivial) ?_
      exact j_X7_winter_83 _ _ _ hf
    rw [if_neg c67] at hf
    refine bb_iconst (v := (-1)) dX7_winter_70 (by decide) ?_
    obtain rfl := Option.some.inj hf
    exact bb_iret rfl rfl dX7_winter_71
  rw [if_pos c26] at hf
  refine bb_fewer (L' := [.null, .null, .null, .null, .null, .null, .null]) trivial ?_
  exact j_X7_winter_29 _ hf
theorem ok_X7_winter {x0 : Nat} {x1 : Int32} {x2 : Int32} {x3 : Int32} {h : bb_H} {r : Int32 × bb_H} (hf : m_X7_winter x0 x1 x2 x3 h = some r) : bb_Ok yX7_winter cX7_winter 7 (some .int) rm_X7_winter [.ref x0, .int x1, .int x2, .int x3] h (some (.int r.1), r.2) :=
  bb_ok (L := [.ref x0, .int x1, .int x2, .int x3, .null, .null, .null]) (by decide) (Nat.le_of_ble_eq_true rfl) rfl (bb_fewer (L' := [.ref x0, .int x1, .int x2, .int x3, .null, .null, .null]) (And.intro rfl (And.intro rfl (And.intro rfl (And.intro rfl trivial)))) (j_X7_winter_0 _ _ _ _ _ hf))
abbrev rm_X7_image : Room := { frames := 3, cells := 0, slots := 0, locals := 65 }
set_option maxRecDepth 100000 in
set_option maxHeartbeats 4000000 in
theorem j_X7_image_0 {r : Int32 × bb_H} : ∀ (x0 : Nat) (h : bb_H), m_X7_image x0 h = some r → bb_J RX7 cX7_image 1 (some .int) rm_X7_image (some (.int r.1), r.2) 0 [.ref x0] [] h := by
  intro x0 h hf
  unfold m_X7_image at hf
  refine bb_aload_n dX7_image_0 rfl ?_
  obtain ⟨t1, h1, hf⟩ := bb_bind hf
  refine bb_getR fl_X7_16 dX7_image_1 h1 ?_
  refine bb_aload_n dX7_image_4 rfl ?_
  obtain ⟨t5, h5, hf⟩ := bb_bind hf
  refine bb_getR fl_X7_12 dX7_image_5 h5 ?_
  obtain ⟨g8, h8, hf⟩ := bb_bind hf
  obtain ⟨⟨v8, b8⟩, h8⟩ := bb_rcv_spec h8
  refine bb_invV (ci := 5) (as := [.ref t5]) iv_X7_269 (by unfold bb_rr; decide) rfl dX7_image_8 rfl rfl b8 (Nat.le_of_ble_eq_true rfl) (ok_X5_takeFrom h8) ?_
  refine bb_aload_n dX7_image_11 rfl ?_
  refine bb_iconst (v := 1) dX7_image_12 (by decide) ?_
  obtain ⟨g13, h13, hf⟩ := bb_bind hf
  refine bb_putZ fp_X7_19 dX7_image_13 h13 ?_
  refine bb_iconst (v := 1) dX7_image_16 (by decide) ?_
  obtain rfl := Option.some.inj hf
  exact bb_iret rfl rfl dX7_image_17
theorem ok_X7_image {x0 : Nat} {h : bb_H} {r : Int32 × bb_H} (hf : m_X7_image x0 h = some r) : bb_Ok yX7_image cX7_image 1 (some .int) rm_X7_image [.ref x0] h (some (.int r.1), r.2) :=
  bb_ok (L := [.ref x0]) (by decide) (Nat.le_of_ble_eq_true rfl) rfl (bb_fewer (L' := [.ref x0]) (And.intro rfl trivial) (j_X7_image_0 _ _ hf))
abbrev rm_X7_restore : Room := { frames := 3, cells := 0, slots := 0, locals := 65 }
set_option maxRecDepth 100000 in
set_option maxHeartbeats 4000000 in
theorem j_X7_restore_0 {r : Int32 × bb_H} : ∀ (x0 : Nat) (h : bb_H), m_X7_restore x0 h = some r → bb_J RX7 cX7_restore 1 (some .int) rm_X7_restore (some (.int r.1), r.2) 0 [.ref x0] [] h := by
  intro x0 h hf
  unfold m_X7_restore at hf
  refine bb_aload_n dX7_restore_0 rfl ?_
  obtain ⟨t1, h1, hf⟩ := bb_bind hf
  refine bb_getI fl_X7_19 dX7_restore_1 h1 ?_
  refine bb_if_ne (tgt := 10) dX7_restore_4 (by decide) (fun c4 => ?_) (fun c4 => ?_)
  · rw [if_neg c4] at hf
    refine bb_aload_n dX7_restore_10 rfl ?_
    obtain ⟨t11, h11, hf⟩ := bb_bind hf
    refine bb_getR fl_X7_12 dX7_restore_11 h11 ?_
    refine bb_aload_n dX7_restore_14 rfl ?_
    obtain ⟨t15, h15, hf⟩ := bb_bind hf
    refine bb_getR fl_X7_16 dX7_restore_15 h15 ?_
    obtain ⟨g18, h18, hf⟩ := bb_bind hf
    obtain ⟨⟨v18, b18⟩, h18⟩ := bb_rcv_spec h18
    refine bb_invV (ci := 5) (as := [.ref t15]) iv_X7_269 (by unfold bb_rr; decide) rfl dX7_restore_18 rfl rfl b18 (Nat.le_of_ble_eq_true rfl) (ok_X5_takeFrom h18) ?_
    refine bb_iconst (v := 1) dX7_restore_21 (by decide) ?_
    obtain rfl := Option.some.inj hf
    exact bb_iret rfl rfl dX7_restore_22
  rw [if_pos c4] at hf
  refine bb_bipush (v := (-4)) dX7_restore_7 (by decide) ?_
  obtain rfl := Option.some.inj hf
  exact bb_iret rfl rfl dX7_restore_9
theorem ok_X7_restore {x0 : Nat} {h : bb_H} {r : Int32 × bb_H} (hf : m_X7_restore x0 h = some r) : bb_Ok yX7_restore cX7_restore 1 (some .int) rm_X7_restore [.ref x0] h (some (.int r.1), r.2) :=
  bb_ok (L := [.ref x0]) (by decide) (Nat.le_of_ble_eq_true rfl) rfl (bb_fewer (L' := [.ref x0]) (And.intro rfl trivial) (j_X7_restore_0 _ _ hf))
abbrev rm_X7_isSheet : Room := { frames := 1, cells := 0, slots := 0, locals := 22 }
set_option maxRecDepth 100000 in
set_option maxHeartbeats 4000000 in
theorem j_X7_isSheet_0 {r : Int32 × bb_H} : ∀ (x0 : Int32) (h : bb_H), m_X7_isSheet x0 h = some r → bb_J RX7 cX7_isSheet 1 (some .boolean) rm_X7_isSheet (some (.int r.1), r.2) 0 [.int x0] [] h := by
  intro x0 h hf
  unfold m_X7_isSheet at hf
  refine bb_iload_n dX7_isSheet_0 rfl ?_
  refine bb_iconst (v := 0) dX7_isSheet_1 (by decide) ?_
  refine bb_iconst (v := 3) dX7_isSheet_2 (by decide) ?_
  obtain ⟨r3, h3, hf⟩ := bb_bind hf
  refine bb_invS (as := [.int x0, .int 0, .int 3]) is_X7_62 (by unfold bb_rr; decide) dX7_isSheet_3 rfl rfl (Nat.le_of_ble_eq_true rfl) (ok_X7_within h3) ?_
  obtain ⟨hn, rfl⟩ := bb_rz_spec hf
  exact bb_zret rfl hn rfl dX7_isSheet_6
theorem ok_X7_isSheet {x0 : Int32} {h : bb_H} {r : Int32 × bb_H} (hf : m_X7_isSheet x0 h = some r) : bb_Ok yX7_isSheet cX7_isSheet 1 (some .boolean) rm_X7_isSheet [.int x0] h (some (.int r.1), r.2) :=
  bb_ok (L := [.int x0]) (by decide) (Nat.le_of_ble_eq_true rfl) rfl (bb_fewer (L' := [.int x0]) (And.intro rfl trivial) (j_X7_isSheet_0 _ _ hf))
abbrev rm_X7_isLane : Room := { frames := 1, cells := 0, slots := 0, locals := 22 }
set_option maxRecDepth 100000 in
set_option maxHeartbeats 4000000 in
theorem j_X7_isLane_0 {r : Int32 × bb_H} : ∀ (x0 : Int32) (h : bb_H), m_X7_isLane x0 h = some r → bb_J RX7 cX7_isLane 1 (some .boolean) rm_X7_isLane (some (.int r.1), r.2) 0 [.int x0] [] h := by
  intro x0 h hf
  unfold m_X7_isLane at hf
  refine bb_iload_n dX7_isLane_0 rfl ?_
  refine bb_iconst (v := 0) dX7_isLane_1 (by decide) ?_
  refine bb_iconst (v := 3) dX7_isLane_2 (by decide) ?_
  obtain ⟨r3, h3, hf⟩ := bb_bind hf
  refine bb_invS (as := [.int x0, .int 0, .int 3]) is_X7_62 (by unfold bb_rr; decide) dX7_isLane_3 rfl rfl (Nat.le_of_ble_eq_true rfl) (ok_X7_within h3) ?_
  obtain ⟨hn, rfl⟩ := bb_rz_spec hf
  exact bb_zret rfl hn rfl dX7_isLane_6
theorem ok_X7_isLane {x0 : Int32} {h : bb_H} {r : Int32 × bb_H} (hf : m_X7_isLane x0 h = some r) : bb_Ok yX7_isLane cX7_isLane 1 (some .boolean) rm_X7_isLane [.int x0] h (some (.int r.1), r.2) :=
  bb_ok (L := [.int x0]) (by decide) (Nat.le_of_ble_eq_true rfl) rfl (bb_fewer (L' := [.int x0]) (And.intro rfl trivial) (j_X7_isLane_0 _ _ hf))
abbrev rm_X7_doesFail : Room := { frames := 3, cells := 0, slots := 0, locals := 72 }
set_option maxRecDepth 100000 in
set_option maxHeartbeats 4000000 in
theorem j_X7_doesFail_3 {r : Int32 × bb_H} : ∀ (n : Nat) (x0 : Nat) (x1 : Int32) (x2 : Nat) (x3 : Int32) (x4 : Int32) (x5 : Int32) (h : bb_H), m_X7_doesFail_3 n x0 x1 x2 x3 x4 x5 h = some r → bb_J RX7 cX7_doesFail 6 (some .boolean) rm_X7_doesFail (some (.int r.1), r.2) 3 [.ref x0, .int x1, .ref x2, .int x3, .int x4, .int x5] [] h := by
  intro n
  induction n with
  | zero =>
    intro x0 x1 x2 x3 x4 x5 h hf
    exact absurd hf (fun z => by cases z)
  | succ n ih =>
    intro x0 x1 x2 x3 x4 x5 h hf
    unfold m_X7_doesFail_3 at hf
    refine bb_iload dX7_doesFail_3 rfl ?_
    refine bb_iload dX7_doesFail_5 rfl ?_
    refine bb_icmp_ge (tgt := 52) dX7_doesFail_7 (by decide) (fun c7 => ?_) (fun c7 => ?_)
    · rw [if_pos c7] at hf
      refine bb_iconst (v := 1) dX7_doesFail_52 (by decide) ?_
      obtain rfl := Option.some.inj hf
      exact bb_zret rfl (by decide) rfl dX7_doesFail_53
    rw [if_neg c7] at hf
    refine bb_aload_n dX7_doesFail_10 rfl ?_
    obtain ⟨t11, h11, hf⟩ := bb_bind hf
    refine bb_getR fl_X7_39 dX7_doesFail_11 h11 ?_
    refine bb_aload_n dX7_doesFail_14 rfl ?_
    obtain ⟨t15, h15, hf⟩ := bb_bind hf
    refine bb_getR fl_X7_46 dX7_doesFail_15 h15 ?_
    obtain ⟨g18, h18, hf⟩ := bb_bind hf
    obtain ⟨⟨v18, b18⟩, h18⟩ := bb_rcv_spec h18
    refine bb_invV (ci := 0) (as := [.ref t15]) iv_X7_212 (by unfold bb_rr; decide) rfl dX7_doesFail_18 rfl rfl b18 (Nat.le_of_ble_eq_true rfl) (ok_X0_passYear h18) ?_
    refine bb_aload_n dX7_doesFail_21 rfl ?_
    obtain ⟨t22, h22, hf⟩ := bb_bind hf
    refine bb_getR fl_X7_309 dX7_doesFail_22 h22 ?_
    refine bb_iload_n dX7_doesFail_25 rfl ?_
    refine bb_iload dX7_doesFail_26 rfl ?_
    refine bb_iadd dX7_doesFail_28 ?_
    obtain ⟨t29, h29, hf⟩ := bb_bind hf
    refine bb_laload dX7_doesFail_29 h29 ?_
    refine bb_aload_n dX7_doesFail_30 rfl ?_
    obtain ⟨t31, h31, hf⟩ := bb_bind hf
    refine bb_getR fl_X7_39 dX7_doesFail_31 h31 ?_
    obtain ⟨t34, h34, hf⟩ := bb_bind hf
    refine bb_getR fl_X7_120 dX7_doesFail_34 h34 ?_
    refine bb_iload_n dX7_doesFail_37 rfl ?_
    obtain ⟨t38, h38, hf⟩ := bb_bind hf
    refine bb_iaload dX7_doesFail_38 h38 ?_
    refine bb_i2l dX7_doesFail_39 ?_
    refine bb_lcmp dX7_doesFail_40 ?_
    refine bb_if_eq (tgt := 46) dX7_doesFail_41 (by decide) (fun c41 => ?_) (fun c41 => ?_)
    · rw [if_pos c41] at hf
      refine bb_iinc (v := x5 + 1) (L' := [.ref x0, .int x1, .ref x2, .int x3, .int x4, .int (x5 + 1)]) dX7_doesFail_46 rfl rfl (by decide) rfl rfl ?_
      refine bb_goto (tgt := 3) dX7_doesFail_49 (by decide) ?_
      refine bb_fewer (L' := [.ref x0, .int x1, .ref x2, .int x3, .int x4, .int (x5 + 1)]) (And.intro rfl (And.intro rfl (And.intro rfl (And.intro rfl (And.intro rfl (And.intro rfl trivial)))))) ?_
      exact ih _ _ _ _ _ _ _ hf
    rw [if_neg c41] at hf
    refine bb_iconst (v := 0) dX7_doesFail_44 (by decide) ?_
    obtain rfl := Option.some.inj hf
    exact bb_zret rfl (by decide) rfl dX7_doesFail_45
set_option maxRecDepth 100000 in
set_option maxHeartbeats 4000000 in
theorem j_X7_doesFail_0 {r : Int32 × bb_H} : ∀ (x0 : Nat) (x1 : Int32) (x2 : Nat) (x3 : Int32) (x4 : Int32) (h : bb_H), m_X7_doesFail x0 x1 x2 x3 x4 h = some r → bb_J RX7 cX7_doesFail 6 (some .boolean) rm_X7_doesFail (some (.int r.1), r.2) 0 [.ref x0, .int x1, .ref x2, .int x3, .int x4, .null] [] h := by
  intro x0 x1 x2 x3 x4 h hf
  unfold m_X7_doesFail at hf
  refine bb_iconst (v := 0) dX7_doesFail_0 (by decide) ?_
  refine bb_istore (L' := [.ref x0, .int x1, .ref x2, .int x3, .int x4, .int 0]) dX7_doesFail_1 (by decide) rfl rfl ?_
  refine bb_fewer (L' := [.ref x0, .int x1, .ref x2, .int x3, .int x4, .int 0]) (And.intro rfl (And.intro rfl (And.intro rfl (And.intro rfl (And.intro rfl (And.intro rfl trivial)))))) ?_
  exact j_X7_doesFail_3 _ _ _ _ _ _ _ _ hf
theorem ok_X7_doesFail {x0 : Nat} {x1 : Int32} {x2 : Nat} {x3 : Int32} {x4 : Int32} {h : bb_H} {r : Int32 × bb_H} (hf : m_X7_doesFail x0 x1 x2 x3 x4 h = some r) : bb_Ok yX7_doesFail cX7_doesFail 6 (some .boolean) rm_X7_doesFail [.ref x0, .int x1, .ref x2, .int x3, .int x4] h (some (.int r.1), r.2) :=
  bb_ok (L := [.ref x0, .int x1, .ref x2, .int x3, .int x4, .null]) (by decide) (Nat.le_of_ble_eq_true rfl) rfl (bb_fewer (L' := [.ref x0, .int x1, .ref x2, .int x3, .int x4, .null]) (And.intro rfl (And.intro rfl (And.intro rfl (And.intro rfl (And.intro rfl trivial))))) (j_X7_doesFail_0 _ _ _ _ _ _ hf))
abbrev rm_X7_kindsThatFit : Room := { frames := 4, cells := 0, slots := 0, locals := 97 }
set_option maxRecDepth 100000 in
set_option maxHeartbeats 4000000 in
theorem j_X7_kindsThatFit_72 {r : Int32 × bb_H} {k6 : Nat → Int32 → Nat → Int32 → Int32 → Int32 → Int32 → bb_H → Option (Int32 × bb_H)} (hk6 : ∀ (x0 : Nat) (x1 : Int32) (x2 : Nat) (x3 : Int32) (x4 : Int32) (x5 : Int32) (x6 : Int32) (h : bb_H), k6 x0 x1 x2 x3 x4 x5 x6 h = some r → bb_J RX7 cX7_kindsThatFit 7 (some .int) rm_X7_kindsThatFit (some (.int r.1), r.2) 6 [.ref x0, .int x1, .ref x2, .int x3, .int x4, .int x5, .int x6] [] h) : ∀ (x0 : Nat) (x1 : Int32) (x2 : Nat) (x3 : Int32) (x4 : Int32) (x5 : Int32) (x6 : Int32) (h : bb_H), m_X7_kindsThatFit_72 k6 x0 x1 x2 x3 x4 x5 x6 h = some r → bb_J RX7 cX7_kindsThatFit 7 (some .int) rm_X7_kindsThatFit (some (.int r.1), r.2) 72 [.ref x0, .int x1, .ref x2, .int x3, .int x4, .int x5, .int x6] [] h := by
  intro x0 x1 x2 x3 x4 x5 x6 h hf
  unfold m_X7_kindsThatFit_72 at hf
  refine bb_iinc (v := x6 + 1) (L' := [.ref x0, .int x1, .ref x2, .int x3, .int x4, .int x5, .int (x6 + 1)]) dX7_kindsThatFit_72 rfl rfl (by decide) rfl rfl ?_
  refine bb_goto (tgt := 6) dX7_kindsThatFit_75 (by decide) ?_
  refine bb_fewer (L' := [.ref x0, .int x1, .ref x2, .int x3, .int x4, .int x5, .int (x6 + 1)]) (And.intro rfl (And.intro rfl (And.intro rfl (And.intro rfl (And.intro rfl (And.intro rfl (And.intro rfl trivial))))))) ?_
  exact hk6 _ _ _ _ _ _ _ _ hf
set_option maxRecDepth 100000 in
set_option maxHeartbeats 4000000 in
theorem j_X7_kindsThatFit_6 {r : Int32 × bb_H} : ∀ (n : Nat) (x0 : Nat) (x1 : Int32) (x2 : Nat) (x3 : Int32) (x4 : Int32) (x5 : Int32) (x6 : Int32) (h : bb_H), m_X7_kindsThatFit_6 n x0 x1 x2 x3 x4 x5 x6 h = some r → bb_J RX7 cX7_kindsThatFit 7 (some .int) rm_X7_kindsThatFit (some (.int r.1), r.2) 6 [.ref x0, .int x1, .ref x2, .int x3, .int x4, .int x5, .int x6] [] h := by
  intro n
  induction n with
  | zero =>
    intro x0 x1 x2 x3 x4 x5 x6 h hf
    exact absurd hf (fun z => by cases z)
  | succ n ih =>
    intro x0 x1 x2 x3 x4 x5 x6 h hf
    unfold m_X7_kindsThatFit_6 at hf
    refine bb_iload dX7_kindsThatFit_6 rfl ?_
    refine bb_iconst (v := 5) dX7_kindsThatFit_8 (by decide) ?_
    refine bb_icmp_ge (tgt := 78) dX7_kindsThatFit_9 (by decide) (fun c9 => ?_) (fun c9 => ?_)
    · rw [if_pos c9] at hf
      refine bb_iload dX7_kindsThatFit_78 rfl ?_
      obtain rfl := Option.some.inj hf
      exact bb_iret rfl rfl dX7_kindsThatFit_80
    rw [if_neg c9] at hf
    refine bb_aload_n dX7_kindsThatFit_12 rfl ?_
    obtain ⟨t13, h13, hf⟩ := bb_bind hf
    refine bb_getR fl_X7_46 dX7_kindsThatFit_13 h13 ?_
    refine bb_aload_n dX7_kindsThatFit_16 rfl ?_
    obtain ⟨t17, h17, hf⟩ := bb_bind hf
    refine bb_getR fl_X7_12 dX7_kindsThatFit_17 h17 ?_
    obtain ⟨t20, h20, hf⟩ := bb_bind hf
    refine bb_getR fl_X7_66 dX7_kindsThatFit_20 h20 ?_
    obtain ⟨g23, h23, hf⟩ := bb_bind hf
    obtain ⟨⟨v23, b23⟩, h23⟩ := bb_rcv_spec h23
    refine bb_invV (ci := 3) (as := [.ref t20]) iv_X7_152 (by unfold bb_rr; decide) rfl dX7_kindsThatFit_23 rfl rfl b23 (Nat.le_of_ble_eq_true rfl) (ok_X3_takeFrom h23) ?_
    refine bb_aload_n dX7_kindsThatFit_26 rfl ?_
    obtain ⟨t27, h27, hf⟩ := bb_bind hf
    refine bb_getR fl_X7_46 dX7_kindsThatFit_27 h27 ?_
    obtain ⟨t30, h30, hf⟩ := bb_bind hf
    refine bb_getR fl_X7_117 dX7_kindsThatFit_30 h30 ?_
    refine bb_iload_n dX7_kindsThatFit_33 rfl ?_
    refine bb_iload dX7_kindsThatFit_34 rfl ?_
    obtain ⟨g36, h36, hf⟩ := bb_bind hf
    refine bb_iastore dX7_kindsThatFit_36 h36 ?_
    refine bb_aload_n dX7_kindsThatFit_37 rfl ?_
    obtain ⟨t38, h38, hf⟩ := bb_bind hf
    refine bb_getR fl_X7_39 dX7_kindsThatFit_38 h38 ?_
    refine bb_aload_n dX7_kindsThatFit_41 rfl ?_
    obtain ⟨t42, h42, hf⟩ := bb_bind hf
    refine bb_getR fl_X7_12 dX7_kindsThatFit_42 h42 ?_
    obtain ⟨t45, h45, hf⟩ := bb_bind hf
    refine bb_getR fl_X7_87 dX7_kindsThatFit_45 h45 ?_
    obtain ⟨g48, h48, hf⟩ := bb_bind hf
    obtain ⟨⟨v48, b48⟩, h48⟩ := bb_rcv_spec h48
    refine bb_invV (ci := 0) (as := [.ref t45]) iv_X7_218 (by unfold bb_rr; decide) rfl dX7_kindsThatFit_48 rfl rfl b48 (Nat.le_of_ble_eq_true rfl) (ok_X0_takeFrom h48) ?_
    refine bb_aload_n dX7_kindsThatFit_51 rfl ?_
    refine bb_iload_n dX7_kindsThatFit_52 rfl ?_
    refine bb_aload_n dX7_kindsThatFit_53 rfl ?_
    refine bb_iload_n dX7_kindsThatFit_54 rfl ?_
    refine bb_iload dX7_kindsThatFit_55 rfl ?_
    obtain ⟨r57, h57, hf⟩ := bb_bind hf
    obtain ⟨⟨v57, b57⟩, h57⟩ := bb_rcv_spec h57
    refine bb_invV (ci := 7) (as := [.int x1, .ref x2, .int x3, .int x4]) iv_X7_342 (by unfold bb_rr; decide) rfl dX7_kindsThatFit_57 rfl rfl b57 (Nat.le_of_ble_eq_true rfl) (ok_X7_doesFail h57) ?_
    refine bb_if_eq (tgt := 72) dX7_kindsThatFit_60 (by decide) (fun c60 => ?_) (fun c60 => ?_)
    · rw [if_pos c60] at hf
      refine bb_fewer (L' := [.ref x0, .int x1, .ref x2, .int x3, .int x4, .int x5, .int x6]) (And.intro rfl (And.intro rfl (And.intro rfl (And.intro rfl (And.intro rfl (And.intro rfl (And.intro rfl trivial))))))) ?_
      exact j_X7_kindsThatFit_72 ih _ _ _ _ _ _ _ _ hf
    rw [if_neg c60] at hf
    refine bb_iload dX7_kindsThatFit_63 rfl ?_
    refine bb_iconst (v := 1) dX7_kindsThatFit_65 (by decide) ?_
    refine bb_iload dX7_kindsThatFit_66 rfl ?_
    refine bb_ishl dX7_kindsThatFit_68 ?_
    refine bb_ior dX7_kindsThatFit_69 ?_
    refine bb_istore (L' := [.ref x0, .int x1, .ref x2, .int x3, .int x4, .int (x5 ||| (1 <<< (x6 &&& 31))), .int x6]) dX7_kindsThatFit_70 (by decide) rfl rfl ?_
    refine bb_fewer (L' := [.ref x0, .int x1, .ref x2, .int x3, .int x4, .int (x5 ||| (1 <<< (x6 &&& 31))), .int x6]) (And.intro rfl (And.intro rfl (And.intro rfl (And.intro rfl (And.intro rfl (And.intro rfl (And.intro rfl trivial))))))) ?_
    exact j_X7_kindsThatFit_72 ih _ _ _ _ _ _ _ _ hf
set_option maxRecDepth 100000 in
set_option maxHeartbeats 4000000 in
theorem j_X7_kindsThatFit_0 {r : Int32 × bb_H} : ∀ (x0 : Nat) (x1 : Int32) (x2 : Nat) (x3 : Int32) (x4 : Int32) (h : bb_H), m_X7_kindsThatFit x0 x1 x2 x3 x4 h = some r → bb_J RX7 cX7_kindsThatFit 7 (some .int) rm_X7_kindsThatFit (some (.int r.1), r.2) 0 [.ref x0, .int x1, .ref x2, .int x3, .int x4, .null, .null] [] h := by
  intro x0 x1 x2 x3 x4 h hf
  unfold m_X7_kindsThatFit at hf
  refine bb_iconst (v := 0) dX7_kindsThatFit_0 (by decide) ?_
  refine bb_istore (L' := [.ref x0, .int x1, .ref x2, .int x3, .int x4, .int 0, .null]) dX7_kindsThatFit_1 (by decide) rfl rfl ?_
  refine bb_iconst (v := 0) dX7_kindsThatFit_3 (by decide) ?_
  refine bb_istore (L' := [.ref x0, .int x1, .ref x2, .int x3, .int x4, .int 0, .int 0]) dX7_kindsThatFit_4 (by decide) rfl rfl ?_
  refine bb_fewer (L' := [.ref x0, .int x1, .ref x2, .int x3, .int x4, .int 0, .int 0]) (And.intro rfl (And.intro rfl (And.intro rfl (And.intro rfl (And.intro rfl (And.intro rfl (And.intro rfl trivial))))))) ?_
  exact j_X7_kindsThatFit_6 _ _ _ _ _ _ _ _ _ hf
theorem ok_X7_kindsThatFit {x0 : Nat} {x1 : Int32} {x2 : Nat} {x3 : Int32} {x4 : Int32} {h : bb_H} {r : Int32 × bb_H} (hf : m_X7_kindsThatFit x0 x1 x2 x3 x4 h = some r) : bb_Ok yX7_kindsThatFit cX7_kindsThatFit 7 (some .int) rm_X7_kindsThatFit [.ref x0, .int x1, .ref x2, .int x3, .int x4] h (some (.int r.1), r.2) :=
  bb_ok (L := [.ref x0, .int x1, .ref x2, .int x3, .int x4, .null, .null]) (by decide) (Nat.le_of_ble_eq_true rfl) rfl (bb_fewer (L' := [.ref x0, .int x1, .ref x2, .int x3, .int x4, .null, .null]) (And.intro rfl (And.intro rfl (And.intro rfl (And.intro rfl (And.intro rfl trivial))))) (j_X7_kindsThatFit_0 _ _ _ _ _ _ hf))
abbrev rm_X7_doesLifeFit : Room := { frames := 4, cells := 0, slots := 0, locals := 97 }
set_option maxRecDepth 100000 in
set_option maxHeartbeats 4000000 in
theorem j_X7_doesLifeFit_0 {r : Int32 × bb_H} : ∀ (x0 : Nat) (x1 : Int32) (x2 : Int32) (x3 : Nat) (x4 : Int32) (x5 : Int32) (h : bb_H), m_X7_doesLifeFit x0 x1 x2 x3 x4 x5 h = some r → bb_J RX7 cX7_doesLifeFit 6 (some .boolean) rm_X7_doesLifeFit (some (.int r.1), r.2) 0 [.ref x0, .int x1, .int x2, .ref x3, .int x4, .int x5] [] h := by
  intro x0 x1 x2 x3 x4 x5 h hf
  unfold m_X7_doesLifeFit at hf
  refine bb_aload_n dX7_doesLifeFit_0 rfl ?_
  obtain ⟨t1, h1, hf⟩ := bb_bind hf
  refine bb_getR fl_X7_46 dX7_doesLifeFit_1 h1 ?_
  refine bb_aload_n dX7_doesLifeFit_4 rfl ?_
  obtain ⟨t5, h5, hf⟩ := bb_bind hf
  refine bb_getR fl_X7_12 dX7_doesLifeFit_5 h5 ?_
  obtain ⟨t8, h8, hf⟩ := bb_bind hf
  refine bb_getR fl_X7_66 dX7_doesLifeFit_8 h8 ?_
  obtain ⟨g11, h11, hf⟩ := bb_bind hf
  obtain ⟨⟨v11, b11⟩, h11⟩ := bb_rcv_spec h11
  refine bb_invV (ci := 3) (as := [.ref t8]) iv_X7_152 (by unfold bb_rr; decide) rfl dX7_doesLifeFit_11 rfl rfl b11 (Nat.le_of_ble_eq_true rfl) (ok_X3_takeFrom h11) ?_
  refine bb_aload_n dX7_doesLifeFit_14 rfl ?_
  obtain ⟨t15, h15, hf⟩ := bb_bind hf
  refine bb_getR fl_X7_39 dX7_doesLifeFit_15 h15 ?_
  refine bb_aload_n dX7_doesLifeFit_18 rfl ?_
  obtain ⟨t19, h19, hf⟩ := bb_bind hf
  refine bb_getR fl_X7_12 dX7_doesLifeFit_19 h19 ?_
  obtain ⟨t22, h22, hf⟩ := bb_bind hf
  refine bb_getR fl_X7_87 dX7_doesLifeFit_22 h22 ?_
  obtain ⟨g25, h25, hf⟩ := bb_bind hf
  obtain ⟨⟨v25, b25⟩, h25⟩ := bb_rcv_spec h25
  refine bb_invV (ci := 0) (as := [.ref t22]) iv_X7_218 (by unfold bb_rr; decide) rfl dX7_doesLifeFit_25 rfl rfl b25 (Nat.le_of_ble_eq_true rfl) (ok_X0_takeFrom h25) ?_
  refine bb_aload_n dX7_doesLifeFit_28 rfl ?_
  obtain ⟨t29, h29, hf⟩ := bb_bind hf
  refine bb_getR fl_X7_39 dX7_doesLifeFit_29 h29 ?_
  obtain ⟨t32, h32, hf⟩ := bb_bind hf
  refine bb_getR fl_X7_120 dX7_doesLifeFit_32 h32 ?_
  refine bb_iload_n dX7_doesLifeFit_35 rfl ?_
  refine bb_iload_n dX7_doesLifeFit_36 rfl ?_
  obtain ⟨g37, h37, hf⟩ := bb_bind hf
  refine bb_iastore dX7_doesLifeFit_37 h37 ?_
  refine bb_aload_n dX7_doesLifeFit_38 rfl ?_
  refine bb_iload_n dX7_doesLifeFit_39 rfl ?_
  refine bb_aload_n dX7_doesLifeFit_40 rfl ?_
  refine bb_iload dX7_doesLifeFit_41 rfl ?_
  refine bb_iload dX7_doesLifeFit_43 rfl ?_
  obtain ⟨r45, h45, hf⟩ := bb_bind hf
  obtain ⟨⟨v45, b45⟩, h45⟩ := bb_rcv_spec h45
  refine bb_invV (ci := 7) (as := [.int x1, .ref x3, .int x4, .int x5]) iv_X7_342 (by unfold bb_rr; decide) rfl dX7_doesLifeFit_45 rfl rfl b45 (Nat.le_of_ble_eq_true rfl) (ok_X7_doesFail h45) ?_
  obtain ⟨hn, rfl⟩ := bb_rz_spec hf
  exact bb_zret rfl hn rfl dX7_doesLifeFit_48
theorem ok_X7_doesLifeFit {x0 : Nat} {x1 : Int32} {x2 : Int32} {x3 : Nat} {x4 : Int32} {x5 : Int32} {h : bb_H} {r : Int32 × bb_H} (hf : m_X7_doesLifeFit x0 x1 x2 x3 x4 x5 h = some r) : bb_Ok yX7_doesLifeFit cX7_doesLifeFit 6 (some .boolean) rm_X7_doesLifeFit [.ref x0, .int x1, .int x2, .ref x3, .int x4, .int x5] h (some (.int r.1), r.2) :=
  bb_ok (L := [.ref x0, .int x1, .int x2, .ref x3, .int x4, .int x5]) (by decide) (Nat.le_of_ble_eq_true rfl) rfl (bb_fewer (L' := [.ref x0, .int x1, .int x2, .ref x3, .int x4, .int x5]) (And.intro rfl (And.intro rfl (And.intro rfl (And.intro rfl (And.intro rfl (And.intro rfl trivial)))))) (j_X7_doesLifeFit_0 _ _ _ _ _ _ _ hf))
abbrev rm_X7_howManyLivesFit : Room := { frames := 5, cells := 0, slots := 0, locals := 122 }
set_option maxRecDepth 100000 in
set_option maxHeartbeats 4000000 in
theorem j_X7_howManyLivesFit_30 {r : Int32 × bb_H} {k6 : Nat → Int32 → Nat → Int32 → Int32 → Int32 → Int32 → bb_H → Option (Int32 × bb_H)} (hk6 : ∀ (x0 : Nat) (x1 : Int32) (x2 : Nat) (x3 : Int32) (x4 : Int32) (x5 : Int32) (x6 : Int32) (h : bb_H), k6 x0 x1 x2 x3 x4 x5 x6 h = some r → bb_J RX7 cX7_howManyLivesFit 7 (some .int) rm_X7_howManyLivesFit (some (.int r.1), r.2) 6 [.ref x0, .int x1, .ref x2, .int x3, .int x4, .int x5, .int x6] [] h) : ∀ (x0 : Nat) (x1 : Int32) (x2 : Nat) (x3 : Int32) (x4 : Int32) (x5 : Int32) (x6 : Int32) (h : bb_H), m_X7_howManyLivesFit_30 k6 x0 x1 x2 x3 x4 x5 x6 h = some r → bb_J RX7 cX7_howManyLivesFit 7 (some .int) rm_X7_howManyLivesFit (some (.int r.1), r.2) 30 [.ref x0, .int x1, .ref x2, .int x3, .int x4, .int x5, .int x6] [] h := by
  intro x0 x1 x2 x3 x4 x5 x6 h hf
  unfold m_X7_howManyLivesFit_30 at hf
  refine bb_iinc (v := x6 + 1) (L' := [.ref x0, .int x1, .ref x2, .int x3, .int x4, .int x5, .int (x6 + 1)]) dX7_howManyLivesFit_30 rfl rfl (by decide) rfl rfl ?_
  refine bb_goto (tgt := 6) dX7_howManyLivesFit_33 (by decide) ?_
  refine bb_fewer (L' := [.ref x0, .int x1, .ref x2, .int x3, .int x4, .int x5, .int (x6 + 1)]) (And.intro rfl (And.intro rfl (And.intro rfl (And.intro rfl (And.intro rfl (And.intro rfl (And.intro rfl trivial))))))) ?_
  exact hk6 _ _ _ _ _ _ _ _ hf
set_option maxRecDepth 100000 in
set_option maxHeartbeats 4000000 in
theorem j_X7_howManyLivesFit_6 {r : Int32 × bb_H} : ∀ (n : Nat) (x0 : Nat) (x1 : Int32) (x2 : Nat) (x3 : Int32) (x4 : Int32) (x5 : Int32) (x6 : Int32) (h : bb_H), m_X7_howManyLivesFit_6 n x0 x1 x2 x3 x4 x5 x6 h = some r → bb_J RX7 cX7_howManyLivesFit 7 (some .int) rm_X7_howManyLivesFit (some (.int r.1), r.2) 6 [.ref x0, .int x1, .ref x2, .int x3, .int x4, .int x5, .int x6] [] h := by
  intro n
  induction n with
  | zero =>
    intro x0 x1 x2 x3 x4 x5 x6 h hf
    exact absurd hf (fun z => by cases z)
  | succ n ih =>
    intro x0 x1 x2 x3 x4 x5 x6 h hf
    unfold m_X7_howManyLivesFit_6 at hf
    refine bb_iload dX7_howManyLivesFit_6 rfl ?_
    refine bb_bipush (v := 60) dX7_howManyLivesFit_8 (by decide) ?_
    refine bb_icmp_gt (tgt := 36) dX7_howManyLivesFit_10 (by decide) (fun c10 => ?_) (fun c10 => ?_)
    · rw [if_pos c10] at hf
      refine bb_iload dX7_howManyLivesFit_36 rfl ?_
      obtain rfl := Option.some.inj hf
      exact bb_iret rfl rfl dX7_howManyLivesFit_38
    rw [if_neg c10] at hf
    refine bb_aload_n dX7_howManyLivesFit_13 rfl ?_
    refine bb_iload_n dX7_howManyLivesFit_14 rfl ?_
    refine bb_iload dX7_howManyLivesFit_15 rfl ?_
    refine bb_aload_n dX7_howManyLivesFit_17 rfl ?_
    refine bb_iload_n dX7_howManyLivesFit_18 rfl ?_
    refine bb_iload dX7_howManyLivesFit_19 rfl ?_
    obtain ⟨r21, h21, hf⟩ := bb_bind hf
    obtain ⟨⟨v21, b21⟩, h21⟩ := bb_rcv_spec h21
    refine bb_invV (ci := 7) (as := [.int x1, .int x6, .ref x2, .int x3, .int x4]) iv_X7_346 (by unfold bb_rr; decide) rfl dX7_howManyLivesFit_21 rfl rfl b21 (Nat.le_of_ble_eq_true rfl) (ok_X7_doesLifeFit h21) ?_
    refine bb_if_eq (tgt := 30) dX7_howManyLivesFit_24 (by decide) (fun c24 => ?_) (fun c24 => ?_)
    · rw [if_pos c24] at hf
      refine bb_fewer (L' := [.ref x0, .int x1, .ref x2, .int x3, .int x4, .int x5, .int x6]) (And.intro rfl (And.intro rfl (And.intro rfl (And.intro rfl (And.intro rfl (And.intro rfl (And.intro rfl trivial))))))) ?_
      exact j_X7_howManyLivesFit_30 ih _ _ _ _ _ _ _ _ hf
    rw [if_neg c24] at hf
    refine bb_iinc (v := x5 + 1) (L' := [.ref x0, .int x1, .ref x2, .int x3, .int x4, .int (x5 + 1), .int x6]) dX7_howManyLivesFit_27 rfl rfl (by decide) rfl rfl ?_
    refine bb_fewer (L' := [.ref x0, .int x1, .ref x2, .int x3, .int x4, .int (x5 + 1), .int x6]) (And.intro rfl (And.intro rfl (And.intro rfl (And.intro rfl (And.intro rfl (And.intro rfl (And.intro rfl trivial))))))) ?_
    exact j_X7_howManyLivesFit_30 ih _ _ _ _ _ _ _ _ hf
set_option maxRecDepth 100000 in
set_option maxHeartbeats 4000000 in
theorem j_X7_howManyLivesFit_0 {r : Int32 × bb_H} : ∀ (x0 : Nat) (x1 : Int32) (x2 : Nat) (x3 : Int32) (x4 : Int32) (h : bb_H), m_X7_howManyLivesFit x0 x1 x2 x3 x4 h = some r → bb_J RX7 cX7_howManyLivesFit 7 (some .int) rm_X7_howManyLivesFit (some (.int r.1), r.2) 0 [.ref x0, .int x1, .ref x2, .int x3, .int x4, .null, .null] [] h := by
  intro x0 x1 x2 x3 x4 h hf
  unfold m_X7_howManyLivesFit at hf
  refine bb_iconst (v := 0) dX7_howManyLivesFit_0 (by decide) ?_
  refine bb_istore (L' := [.ref x0, .int x1, .ref x2, .int x3, .int x4, .int 0, .null]) dX7_howManyLivesFit_1 (by decide) rfl rfl ?_
  refine bb_iconst (v := 1) dX7_howManyLivesFit_3 (by decide) ?_
  refine bb_istore (L' := [.ref x0, .int x1, .ref x2, .int x3, .int x4, .int 0, .int 1]) dX7_howManyLivesFit_4 (by decide) rfl rfl ?_
  refine bb_fewer (L' := [.ref x0, .int x1, .ref x2, .int x3, .int x4, .int 0, .int 1]) (And.intro rfl (And.intro rfl (And.intro rfl (And.intro rfl (And.intro rfl (And.intro rfl (And.intro rfl trivial))))))) ?_
  exact j_X7_howManyLivesFit_6 _ _ _ _ _ _ _ _ _ hf
theorem ok_X7_howManyLivesFit {x0 : Nat} {x1 : Int32} {x2 : Nat} {x3 : Int32} {x4 : Int32} {h : bb_H} {r : Int32 × bb_H} (hf : m_X7_howManyLivesFit x0 x1 x2 x3 x4 h = some r) : bb_Ok yX7_howManyLivesFit cX7_howManyLivesFit 7 (some .int) rm_X7_howManyLivesFit [.ref x0, .int x1, .ref x2, .int x3, .int x4] h (some (.int r.1), r.2) :=
  bb_ok (L := [.ref x0, .int x1, .ref x2, .int x3, .int x4, .null, .null]) (by decide) (Nat.le_of_ble_eq_true rfl) rfl (bb_fewer (L' := [.ref x0, .int x1, .ref x2, .int x3, .int x4, .null, .null]) (And.intro rfl (And.intro rfl (And.intro rfl (And.intro rfl (And.intro rfl trivial))))) (j_X7_howManyLivesFit_0 _ _ _ _ _ _ hf))
abbrev rm_X7_leastLifeThatFits : Room := { frames := 5, cells := 0, slots := 0, locals := 122 }
set_option maxRecDepth 100000 in
set_option maxHeartbeats 4000000 in
theorem j_X7_leastLifeThatFits_3 {r : Int32 × bb_H} : ∀ (n : Nat) (x0 : Nat) (x1 : Int32) (x2 : Nat) (x3 : Int32) (x4 : Int32) (x5 : Int32) (h : bb_H), m_X7_leastLifeThatFits_3 n x0 x1 x2 x3 x4 x5 h = some r → bb_J RX7 cX7_leastLifeThatFits 6 (some .int) rm_X7_leastLifeThatFits (some (.int r.1), r.2) 3 [.ref x0, .int x1, .ref x2, .int x3, .int x4, .int x5] [] h := by
  intro n
  induction n with
  | zero =>
    intro x0 x1 x2 x3 x4 x5 h hf
    exact absurd hf (fun z => by cases z)
  | succ n ih =>
    intro x0 x1 x2 x3 x4 x5 h hf
    unfold m_X7_leastLifeThatFits_3 at hf
    refine bb_iload dX7_leastLifeThatFits_3 rfl ?_
    refine bb_bipush (v := 60) dX7_leastLifeThatFits_5 (by decide) ?_
    refine bb_icmp_gt (tgt := 33) dX7_leastLifeThatFits_7 (by decide) (fun c7 => ?_) (fun c7 => ?_)
    · rw [if_pos c7] at hf
      refine bb_bipush (v := (-4)) dX7_leastLifeThatFits_33 (by decide) ?_
      obtain rfl := Option.some.inj hf
      exact bb_iret rfl rfl dX7_leastLifeThatFits_35
    rw [if_neg c7] at hf
    refine bb_aload_n dX7_leastLifeThatFits_10 rfl ?_
    refine bb_iload_n dX7_leastLifeThatFits_11 rfl ?_
    refine bb_iload dX7_leastLifeThatFits_12 rfl ?_
    refine bb_aload_n dX7_leastLifeThatFits_14 rfl ?_
    refine bb_iload_n dX7_leastLifeThatFits_15 rfl ?_
    refine bb_iload dX7_leastLifeThatFits_16 rfl ?_
    obtain ⟨r18, h18, hf⟩ := bb_bind hf
    obtain ⟨⟨v18, b18⟩, h18⟩ := bb_rcv_spec h18
    refine bb_invV (ci := 7) (as := [.int x1, .int x5, .ref x2, .int x3, .int x4]) iv_X7_346 (by unfold bb_rr; decide) rfl dX7_leastLifeThatFits_18 rfl rfl b18 (Nat.le_of_ble_eq_true rfl) (ok_X7_doesLifeFit h18) ?_
    refine bb_if_eq (tgt := 27) dX7_leastLifeThatFits_21 (by decide) (fun c21 => ?_) (fun c21 => ?_)
    · rw [if_pos c21] at hf
      refine bb_iinc (v := x5 + 1) (L' := [.ref x0, .int x1, .ref x2, .int x3, .int x4, .int (x5 + 1)]) dX7_leastLifeThatFits_27 rfl rfl (by decide) rfl rfl ?_
      refine bb_goto (tgt := 3) dX7_leastLifeThatFits_30 (by decide) ?_
      refine bb_fewer (L' := [.ref x0, .int x1, .ref x2, .int x3, .int x4, .int (x5 + 1)]) (And.intro rfl (And.intro rfl (And.intro rfl (And.intro rfl (And.intro rfl (And.intro rfl trivial)))))) ?_
      exact ih _ _ _ _ _ _ _ hf
    rw [if_neg c21] at hf
    refine bb_iload dX7_leastLifeThatFits_24 rfl ?_
    obtain rfl := Option.some.inj hf
    exact bb_iret rfl rfl dX7_leastLifeThatFits_26
set_option maxRecDepth 100000 in
set_option maxHeartbeats 4000000 in
theorem j_X7_leastLifeThatFits_0 {r : Int32 × bb_H} : ∀ (x0 : Nat) (x1 : Int32) (x2 : Nat) (x3 : Int32) (x4 : Int32) (h : bb_H), m_X7_leastLifeThatFits x0 x1 x2 x3 x4 h = some r → bb_J RX7 cX7_leastLifeThatFits 6 (some .int) rm_X7_leastLifeThatFits (some (.int r.1), r.2) 0 [.ref x0, .int x1, .ref x2, .int x3, .int x4, .null] [] h := by
  intro x0 x1 x2 x3 x4 h hf
  unfold m_X7_leastLifeThatFits at hf
  refine bb_iconst (v := 1) dX7_leastLifeThatFits_0 (by decide) ?_
  refine bb_istore (L' := [.ref x0, .int x1, .ref x2, .int x3, .int x4, .int 1]) dX7_leastLifeThatFits_1 (by decide) rfl rfl ?_
  refine bb_fewer (L' := [.ref x0, .int x1, .ref x2, .int x3, .int x4, .int 1]) (And.intro rfl (And.intro rfl (And.intro rfl (And.intro rfl (And.intro rfl (And.intro rfl trivial)))))) ?_
  exact j_X7_leastLifeThatFits_3 _ _ _ _ _ _ _ _ hf
theorem ok_X7_leastLifeThatFits {x0 : Nat} {x1 : Int32} {x2 : Nat} {x3 : Int32} {x4 : Int32} {h : bb_H} {r : Int32 × bb_H} (hf : m_X7_leastLifeThatFits x0 x1 x2 x3 x4 h = some r) : bb_Ok yX7_leastLifeThatFits cX7_leastLifeThatFits 6 (some .int) rm_X7_leastLifeThatFits [.ref x0, .int x1, .ref x2, .int x3, .int x4] h (some (.int r.1), r.2) :=
  bb_ok (L := [.ref x0, .int x1, .ref x2, .int x3, .int x4, .null]) (by decide) (Nat.le_of_ble_eq_true rfl) rfl (bb_fewer (L' := [.ref x0, .int x1, .ref x2, .int x3, .int x4, .null]) (And.intro rfl (And.intro rfl (And.intro rfl (And.intro rfl (And.intro rfl trivial))))) (j_X7_leastLifeThatFits_0 _ _ _ _ _ _ hf))
abbrev rm_X7_failed : Room := { frames := 6, cells := 0, slots := 0, locals := 148 }
set_option maxRecDepth 100000 in
set_option maxHeartbeats 4000000 in
theorem j_X7_failed_49 {r : Int32 × bb_H} : ∀ (h : bb_H), m_X7_failed_49 h = some r → bb_J RX7 cX7_failed 9 (some .int) rm_X7_failed (some (.int r.1), r.2) 49 [.null, .null, .null, .null, .null, .null, .null, .null, .null] [] h := by
  intro h hf
  unfold m_X7_failed_49 at hf
  refine bb_iconst (v := (-1)) dX7_failed_49 (by decide) ?_
  obtain rfl := Option.some.inj hf
  exact bb_iret rfl rfl dX7_failed_50
set_option maxRecDepth 100000 in
set_option maxHeartbeats 4000000 in
theorem j_X7_failed_0 {r : Int32 × bb_H} : ∀ (x0 : Nat) (x1 : Int32) (x2 : Int32) (x3 : Int32) (x4 : Int32) (x5 : Int32) (x6 : Int32) (h : bb_H), m_X7_failed x0 x1 x2 x3 x4 x5 x6 h = some r → bb_J RX7 cX7_failed 9 (some .int) rm_X7_failed (some (.int r.1), r.2) 0 [.ref x0, .int x1, .int x2, .int x3, .int x4, .int x5, .int x6, .null, .null] [] h := by
  intro x0 x1 x2 x3 x4 x5 x6 h hf
  unfold m_X7_failed at hf
  refine bb_aload_n dX7_failed_0 rfl ?_
  obtain ⟨t1, h1, hf⟩ := bb_bind hf
  refine bb_getR fl_X7_12 dX7_failed_1 h1 ?_
  obtain ⟨t4, h4, hf⟩ := bb_bind hf
  refine bb_getR fl_X7_66 dX7_failed_4 h4 ?_
  refine bb_iload_n dX7_failed_7 rfl ?_
  obtain ⟨r8, h8, hf⟩ := bb_bind hf
  obtain ⟨⟨v8, b8⟩, h8⟩ := bb_rcv_spec h8
  refine bb_invV (ci := 3) (as := [.int x1]) iv_X7_103 (by unfold bb_rr; decide) rfl dX7_failed_8 rfl rfl b8 (Nat.le_of_ble_eq_true rfl) (ok_X3_has h8) ?_
  refine bb_if_eq (tgt := 49) dX7_failed_11 (by decide) (fun c11 => ?_) (fun c11 => ?_)
  · rw [if_pos c11] at hf
    refine bb_fewer (L' := [.null, .null, .null, .null, .null, .null, .null, .null, .null]) trivial ?_
    exact j_X7_failed_49 _ hf
  rw [if_neg c11] at hf
  refine bb_iload_n dX7_failed_14 rfl ?_
  obtain ⟨r15, h15, hf⟩ := bb_bind hf
  refine bb_invS (as := [.int x2]) is_X7_272 (by unfold bb_rr; decide) dX7_failed_15 rfl rfl (Nat.le_of_ble_eq_true rfl) (ok_X7_isSheet h15) ?_
  refine bb_if_eq (tgt := 49) dX7_failed_18 (by decide) (fun c18 => ?_) (fun c18 => ?_)
  · rw [if_pos c18] at hf
    refine bb_fewer (L' := [.null, .null, .null, .null, .null, .null, .null, .null, .null]) trivial ?_
    exact j_X7_failed_49 _ hf
  rw [if_neg c18] at hf
  refine bb_iload_n dX7_failed_21 rfl ?_
  obtain ⟨r22, h22, hf⟩ := bb_bind hf
  refine bb_invS (as := [.int x3]) is_X7_275 (by unfold bb_rr; decide) dX7_failed_22 rfl rfl (Nat.le_of_ble_eq_true rfl) (ok_X7_isLane h22) ?_
  refine bb_if_eq (tgt := 49) dX7_failed_25 (by decide) (fun c25 => ?_) (fun c25 => ?_)
  · rw [if_pos c25] at hf
    refine bb_fewer (L' := [.null, .null, .null, .null, .null, .null, .null, .null, .null]) trivial ?_
    exact j_X7_failed_49 _ hf
  rw [if_neg c25] at hf
  refine bb_iload dX7_failed_28 rfl ?_
  refine bb_iconst (v := 1) dX7_failed_30 (by decide) ?_
  refine bb_bipush (v := 8) dX7_failed_31 (by decide) ?_
  obtain ⟨r33, h33, hf⟩ := bb_bind hf
  refine bb_invS (as := [.int x5, .int 1, .int 8]) is_X7_62 (by unfold bb_rr; decide) dX7_failed_33 rfl rfl (Nat.le_of_ble_eq_true rfl) (ok_X7_within h33) ?_
  refine bb_if_eq (tgt := 49) dX7_failed_36 (by decide) (fun c36 => ?_) (fun c36 => ?_)
  · rw [if_pos c36] at hf
    refine bb_fewer (L' := [.null, .null, .null, .null, .null, .null, .null, .null, .null]) trivial ?_
    exact j_X7_failed_49 _ hf
  rw [if_neg c36] at hf
  refine bb_iload dX7_failed_39 rfl ?_
  refine bb_iconst (v := 0) dX7_failed_41 (by decide) ?_
  refine bb_iconst (v := 2) dX7_failed_42 (by decide) ?_
  obtain ⟨r43, h43, hf⟩ := bb_bind hf
  refine bb_invS (as := [.int x6, .int 0, .int 2]) is_X7_62 (by unfold bb_rr; decide) dX7_failed_43 rfl rfl (Nat.le_of_ble_eq_true rfl) (ok_X7_within h43) ?_
  refine bb_if_ne (tgt := 51) dX7_failed_46 (by decide) (fun c46 => ?_) (fun c46 => ?_)
  · rw [if_neg c46] at hf
    refine bb_aload_n dX7_failed_51 rfl ?_
    obtain ⟨t52, h52, hf⟩ := bb_bind hf
    refine bb_getR fl_X7_32 dX7_failed_52 h52 ?_
    refine bb_iload_n dX7_failed_55 rfl ?_
    obtain ⟨t56, h56, hf⟩ := bb_bind hf
    refine bb_aaload (t0 := 4) (fun _ => rfl) rfl (fun _ _ => rfl) dX7_failed_56 h56 ?_
    refine bb_astore (L' := [.ref x0, .int x1, .int x2, .int x3, .int x4, .int x5, .int x6, .ref t56, .null]) dX7_failed_57 (by decide) rfl rfl ?_
    refine bb_aload dX7_failed_59 rfl ?_
    refine bb_iload_n dX7_failed_61 rfl ?_
    refine bb_iload dX7_failed_62 rfl ?_
    refine bb_iload dX7_failed_64 rfl ?_
    obtain ⟨r66, h66, hf⟩ := bb_bind hf
    obtain ⟨⟨v66, b66⟩, h66⟩ := bb_rcv_spec h66
    refine bb_invV (ci := 4) (as := [.int x3, .int x4, .int x5]) iv_X7_278 (by unfold bb_rr; decide) rfl dX7_failed_66 rfl rfl b66 (Nat.le_of_ble_eq_true rfl) (ok_X4_refusalOf h66) ?_
    refine bb_istore (L' := [.ref x0, .int x1, .int x2, .int x3, .int x4, .int x5, .int x6, .ref t56, .int r66.1]) dX7_failed_69 (by decide) rfl rfl ?_
    refine bb_iload dX7_failed_71 rfl ?_
    refine bb_if_eq (tgt := 79) dX7_failed_73 (by decide) (fun c73 => ?_) (fun c73 => ?_)
    · rw [if_pos c73] at hf
      refine bb_aload_n dX7_failed_79 rfl ?_
      obtain ⟨t80, h80, hf⟩ := bb_bind hf
      refine bb_getR fl_X7_12 dX7_failed_80 h80 ?_
      obtain ⟨t83, h83, hf⟩ := bb_bind hf
      refine bb_getR fl_X7_87 dX7_failed_83 h83 ?_
      refine bb_iload_n dX7_failed_86 rfl ?_
      obtain ⟨r87, h87, hf⟩ := bb_bind hf
      obtain ⟨⟨v87, b87⟩, h87⟩ := bb_rcv_spec h87
      refine bb_invV (ci := 0) (as := [.int x1]) iv_X7_123 (by unfold bb_rr; decide) rfl dX7_failed_87 rfl rfl b87 (Nat.le_of_ble_eq_true rfl) (ok_X0_seatOf h87) ?_
      refine bb_bipush (v := (-4)) dX7_failed_90 (by decide) ?_
      refine bb_icmp_ne (tgt := 98) dX7_failed_92 (by decide) (fun c92 => ?_) (fun c92 => ?_)
      · rw [if_neg c92] at hf
        refine bb_iload dX7_failed_98 rfl ?_
        by_cases c100_0 : x6 = 0
        · rw [if_pos c100_0] at hf
          refine bb_lookup (tgt := 128) dX7_failed_100 (by decide) (off := 28) (by rw [c100_0]; decide) (by decide) ?_
          refine bb_aload_n dX7_failed_128 rfl ?_
          refine bb_iload_n dX7_failed_129 rfl ?_
          refine bb_aload dX7_failed_130 rfl ?_
          refine bb_iload dX7_failed_132 rfl ?_
          refine bb_iload dX7_failed_134 rfl ?_
          obtain ⟨r136, h136, hf⟩ := bb_bind hf
          obtain ⟨⟨v136, b136⟩, h136⟩ := bb_rcv_spec h136
          refine bb_invV (ci := 7) (as := [.int x1, .ref t56, .int x4, .int x5]) iv_X7_282 (by unfold bb_rr; decide) rfl dX7_failed_136 rfl rfl b136 (Nat.le_of_ble_eq_true rfl) (ok_X7_kindsThatFit h136) ?_
          obtain rfl := Option.some.inj hf
          exact bb_iret rfl rfl dX7_failed_139
        rw [if_neg c100_0] at hf
        by_cases c100_1 : x6 = 1
        · rw [if_pos c100_1] at hf
          refine bb_lookup (tgt := 140) dX7_failed_100 (by decide) (off := 40) (by rw [c100_1]; decide) (by decide) ?_
          refine bb_aload_n dX7_failed_140 rfl ?_
          refine bb_iload_n dX7_failed_141 rfl ?_
          refine bb_aload dX7_failed_142 rfl ?_
          refine bb_iload dX7_failed_144 rfl ?_
          refine bb_iload dX7_failed_146 rfl ?_
          obtain ⟨r148, h148, hf⟩ := bb_bind hf
          obtain ⟨⟨v148, b148⟩, h148⟩ := bb_rcv_spec h148
          refine bb_invV (ci := 7) (as := [.int x1, .ref t56, .int x4, .int x5]) iv_X7_286 (by unfold bb_rr; decide) rfl dX7_failed_148 rfl rfl b148 (Nat.le_of_ble_eq_true rfl) (ok_X7_howManyLivesFit h148) ?_
          obtain rfl := Option.some.inj hf
          exact bb_iret rfl rfl dX7_failed_151
        rw [if_neg c100_1] at hf
        refine bb_lookup (tgt := 152) dX7_failed_100 (by decide) (off := 52) (by show Op.lookupswitch.offset [(0, 28), (1, 40)] 52 _ = _; rw [lv_osw c100_0 (by decide), lv_osw c100_1 (by decide)]; rfl) (by decide) ?_
        refine bb_aload_n dX7_failed_152 rfl ?_
        refine bb_iload_n dX7_failed_153 rfl ?_
        refine bb_aload dX7_failed_154 rfl ?_
        refine bb_iload dX7_failed_156 rfl ?_
        refine bb_iload dX7_failed_158 rfl ?_
        obtain ⟨r160, h160, hf⟩ := bb_bind hf
        obtain ⟨⟨v160, b160⟩, h160⟩ := bb_rcv_spec h160
        refine bb_invV (ci := 7) (as := [.int x1, .ref t56, .int x4, .int x5]) iv_X7_289 (by unfold bb_rr; decide) rfl dX7_failed_160 rfl rfl b160 (Nat.le_of_ble_eq_true rfl) (ok_X7_leastLifeThatFits h160) ?_
        obtain rfl := Option.some.inj hf
        exact bb_iret rfl rfl dX7_failed_163
      rw [if_pos c92] at hf
      refine bb_bipush (v := (-2)) dX7_failed_95 (by decide) ?_
      obtain rfl := Option.some.inj hf
      exact bb_iret rfl rfl dX7_failed_97
    rw [if_neg c73] at hf
    refine bb_iload dX7_failed_76 rfl ?_
    obtain rfl := Option.some.inj hf
    exact bb_iret rfl rfl dX7_failed_78
  rw [if_pos c46] at hf
  refine bb_fewer (L' := [.null, .null, .null, .null, .null, .null, .null, .null, .null]) trivial ?_
  exact j_X7_failed_49 _ hf
theorem ok_X7_failed {x0 : Nat} {x1 : Int32} {x2 : Int32} {x3 : Int32} {x4 : Int32} {x5 : Int32} {x6 : Int32} {h : bb_H} {r : Int32 × bb_H} (hf : m_X7_failed x0 x1 x2 x3 x4 x5 x6 h = some r) : bb_Ok yX7_failed cX7_failed 9 (some .int) rm_X7_failed [.ref x0, .int x1, .int x2, .int x3, .int x4, .int x5, .int x6] h (some (.int r.1), r.2) :=
  bb_ok (L := [.ref x0, .int x1, .int x2, .int x3, .int x4, .int x5, .int x6, .null, .null]) (by decide) (Nat.le_of_ble_eq_true rfl) rfl (bb_fewer (L' := [.ref x0, .int x1, .int x2, .int x3, .int x4, .int x5, .int x6, .null, .null]) (And.intro rfl (And.intro rfl (And.intro rfl (And.intro rfl (And.intro rfl (And.intro rfl (And.intro rfl trivial))))))) (j_X7_failed_0 _ _ _ _ _ _ _ _ hf))
abbrev rm_X7_film : Room := { frames := 3, cells := 0, slots := 0, locals := 72 }
set_option maxRecDepth 100000 in
set_option maxHeartbeats 4000000 in
theorem j_X7_film_39 {r : Int32 × bb_H} : ∀ (h : bb_H), m_X7_film_39 h = some r → bb_J RX7 cX7_film 9 (some .int) rm_X7_film (some (.int r.1), r.2) 39 [.null, .null, .null, .null, .null, .null, .null, .null, .null] [] h := by
  intro h hf
  unfold m_X7_film_39 at hf
  refine bb_iconst (v := (-1)) dX7_film_39 (by decide) ?_
  obtain rfl := Option.some.inj hf
  exact bb_iret rfl rfl dX7_film_40
set_option maxRecDepth 100000 in
set_option maxHeartbeats 4000000 in
theorem j_X7_film_86 {r : Int32 × bb_H} : ∀ (n : Nat) (x0 : Nat) (x1 : Int32) (x2 : Int32) (x5 : Int32) (x6 : Nat) (x8 : Int32) (h : bb_H), m_X7_film_86 n x0 x1 x2 x5 x6 x8 h = some r → bb_J RX7 cX7_film 9 (some .int) rm_X7_film (some (.int r.1), r.2) 86 [.ref x0, .int x1, .int x2, .null, .null, .int x5, .ref x6, .null, .int x8] [] h := by
  intro n
  induction n with
  | zero =>
    intro x0 x1 x2 x5 x6 x8 h hf
    exact absurd hf (fun z => by cases z)
  | succ n ih =>
    intro x0 x1 x2 x5 x6 x8 h hf
    unfold m_X7_film_86 at hf
    refine bb_iload dX7_film_86 rfl ?_
    refine bb_iload_n dX7_film_88 rfl ?_
    refine bb_icmp_ge (tgt := 132) dX7_film_89 (by decide) (fun c89 => ?_) (fun c89 => ?_)
    · rw [if_pos c89] at hf
      refine bb_iload_n dX7_film_132 rfl ?_
      obtain rfl := Option.some.inj hf
      exact bb_iret rfl rfl dX7_film_133
    rw [if_neg c89] at hf
    refine bb_aload_n dX7_film_92 rfl ?_
    obtain ⟨t93, h93, hf⟩ := bb_bind hf
    refine bb_getR fl_X7_39 dX7_film_93 h93 ?_
    refine bb_aload_n dX7_film_96 rfl ?_
    obtain ⟨t97, h97, hf⟩ := bb_bind hf
    refine bb_getR fl_X7_12 dX7_film_97 h97 ?_
    obtain ⟨t100, h100, hf⟩ := bb_bind hf
    refine bb_getR fl_X7_66 dX7_film_100 h100 ?_
    obtain ⟨g103, h103, hf⟩ := bb_bind hf
    obtain ⟨⟨v103, b103⟩, h103⟩ := bb_rcv_spec h103
    refine bb_invV (ci := 0) (as := [.ref t100]) iv_X7_212 (by unfold bb_rr; decide) rfl dX7_film_103 rfl rfl b103 (Nat.le_of_ble_eq_true rfl) (ok_X0_passYear h103) ?_
    refine bb_aload dX7_film_106 rfl ?_
    refine bb_iload dX7_film_108 rfl ?_
    refine bb_iload dX7_film_110 rfl ?_
    refine bb_iadd dX7_film_112 ?_
    refine bb_aload_n dX7_film_113 rfl ?_
    obtain ⟨t114, h114, hf⟩ := bb_bind hf
    refine bb_getR fl_X7_39 dX7_film_114 h114 ?_
    obtain ⟨t117, h117, hf⟩ := bb_bind hf
    refine bb_getR fl_X7_120 dX7_film_117 h117 ?_
    refine bb_iload_n dX7_film_120 rfl ?_
    obtain ⟨t121, h121, hf⟩ := bb_bind hf
    refine bb_iaload dX7_film_121 h121 ?_
    refine bb_i2l dX7_film_122 ?_
    obtain ⟨g123, h123, hf⟩ := bb_bind hf
    obtain ⟨⟨v123, b123⟩, h123⟩ := bb_rcv_spec h123
    refine bb_invV (ci := 4) (as := [.int (x5 + x8), .long t121.toInt64]) iv_X7_292 (by unfold bb_rr; decide) rfl dX7_film_123 rfl rfl b123 (Nat.le_of_ble_eq_true rfl) (ok_X4_put h123) ?_
    refine bb_iinc (v := x8 + 1) (L' := [.ref x0, .int x1, .int x2, .null, .null, .int x5, .ref x6, .null, .int (x8 + 1)]) dX7_film_126 rfl rfl (by decide) rfl rfl ?_
    refine bb_goto (tgt := 86) dX7_film_129 (by decide) ?_
    refine bb_fewer (L' := [.ref x0, .int x1, .int x2, .null, .null, .int x5, .ref x6, .null, .int (x8 + 1)]) (And.intro rfl (And.intro rfl (And.intro rfl (And.intro rfl (And.intro rfl (And.intro rfl trivial)))))) ?_
    exact ih _ _ _ _ _ _ _ hf
set_option maxRecDepth 100000 in
set_option maxHeartbeats 4000000 in
theorem j_X7_film_0 {r : Int32 × bb_H} : ∀ (x0 : Nat) (x1 : Int32) (x2 : Int32) (x3 : Int32) (x4 : Int32) (x5 : Int32) (h : bb_H), m_X7_film x0 x1 x2 x3 x4 x5 h = some r → bb_J RX7 cX7_film 9 (some .int) rm_X7_film (some (.int r.1), r.2) 0 [.ref x0, .int x1, .int x2, .int x3, .int x4, .int x5, .null, .null, .null] [] h := by
  intro x0 x1 x2 x3 x4 x5 h hf
  unfold m_X7_film at hf
  refine bb_aload_n dX7_film_0 rfl ?_
  obtain ⟨t1, h1, hf⟩ := bb_bind hf
  refine bb_getR fl_X7_12 dX7_film_1 h1 ?_
  obtain ⟨t4, h4, hf⟩ := bb_bind hf
  refine bb_getR fl_X7_66 dX7_film_4 h4 ?_
  refine bb_iload_n dX7_film_7 rfl ?_
  obtain ⟨r8, h8, hf⟩ := bb_bind hf
  obtain ⟨⟨v8, b8⟩, h8⟩ := bb_rcv_spec h8
  refine bb_invV (ci := 3) (as := [.int x1]) iv_X7_103 (by unfold bb_rr; decide) rfl dX7_film_8 rfl rfl b8 (Nat.le_of_ble_eq_true rfl) (ok_X3_has h8) ?_
  refine bb_if_eq (tgt := 39) dX7_film_11 (by decide) (fun c11 => ?_) (fun c11 => ?_)
  · rw [if_pos c11] at hf
    refine bb_fewer (L' := [.null, .null, .null, .null, .null, .null, .null, .null, .null]) trivial ?_
    exact j_X7_film_39 _ hf
  rw [if_neg c11] at hf
  refine bb_iload_n dX7_film_14 rfl ?_
  refine bb_iconst (v := 1) dX7_film_15 (by decide) ?_
  refine bb_bipush (v := 24) dX7_film_16 (by decide) ?_
  obtain ⟨r18, h18, hf⟩ := bb_bind hf
  refine bb_invS (as := [.int x2, .int 1, .int 24]) is_X7_62 (by unfold bb_rr; decide) dX7_film_18 rfl rfl (Nat.le_of_ble_eq_true rfl) (ok_X7_within h18) ?_
  refine bb_if_eq (tgt := 39) dX7_film_21 (by decide) (fun c21 => ?_) (fun c21 => ?_)
  · rw [if_pos c21] at hf
    refine bb_fewer (L' := [.null, .null, .null, .null, .null, .null, .null, .null, .null]) trivial ?_
    exact j_X7_film_39 _ hf
  rw [if_neg c21] at hf
  refine bb_iload_n dX7_film_24 rfl ?_
  obtain ⟨r25, h25, hf⟩ := bb_bind hf
  refine bb_invS (as := [.int x3]) is_X7_272 (by unfold bb_rr; decide) dX7_film_25 rfl rfl (Nat.le_of_ble_eq_true rfl) (ok_X7_isSheet h25) ?_
  refine bb_if_eq (tgt := 39) dX7_film_28 (by decide) (fun c28 => ?_) (fun c28 => ?_)
  · rw [if_pos c28] at hf
    refine bb_fewer (L' := [.null, .null, .null, .null, .null, .null, .null, .null, .null]) trivial ?_
    exact j_X7_film_39 _ hf
  rw [if_neg c28] at hf
  refine bb_iload dX7_film_31 rfl ?_
  obtain ⟨r33, h33, hf⟩ := bb_bind hf
  refine bb_invS (as := [.int x4]) is_X7_275 (by unfold bb_rr; decide) dX7_film_33 rfl rfl (Nat.le_of_ble_eq_true rfl) (ok_X7_isLane h33) ?_
  refine bb_if_ne (tgt := 41) dX7_film_36 (by decide) (fun c36 => ?_) (fun c36 => ?_)
  · rw [if_neg c36] at hf
    refine bb_aload_n dX7_film_41 rfl ?_
    obtain ⟨t42, h42, hf⟩ := bb_bind hf
    refine bb_getR fl_X7_32 dX7_film_42 h42 ?_
    refine bb_iload_n dX7_film_45 rfl ?_
    obtain ⟨t46, h46, hf⟩ := bb_bind hf
    refine bb_aaload (t0 := 4) (fun _ => rfl) rfl (fun _ _ => rfl) dX7_film_46 h46 ?_
    refine bb_astore (L' := [.ref x0, .int x1, .int x2, .int x3, .int x4, .int x5, .ref t46, .null, .null]) dX7_film_47 (by decide) rfl rfl ?_
    refine bb_aload dX7_film_49 rfl ?_
    refine bb_iload dX7_film_51 rfl ?_
    refine bb_iload dX7_film_53 rfl ?_
    refine bb_iload_n dX7_film_55 rfl ?_
    obtain ⟨r56, h56, hf⟩ := bb_bind hf
    obtain ⟨⟨v56, b56⟩, h56⟩ := bb_rcv_spec h56
    refine bb_invV (ci := 4) (as := [.int x4, .int x5, .int x2]) iv_X7_278 (by unfold bb_rr; decide) rfl dX7_film_56 rfl rfl b56 (Nat.le_of_ble_eq_true rfl) (ok_X4_refusalOf h56) ?_
    refine bb_istore (L' := [.ref x0, .int x1, .int x2, .int x3, .int x4, .int x5, .ref t46, .int r56.1, .null]) dX7_film_59 (by decide) rfl rfl ?_
    refine bb_iload dX7_film_61 rfl ?_
    refine bb_if_eq (tgt := 69) dX7_film_63 (by decide) (fun c63 => ?_) (fun c63 => ?_)
    · rw [if_pos c63] at hf
      refine bb_aload_n dX7_film_69 rfl ?_
      obtain ⟨t70, h70, hf⟩ := bb_bind hf
      refine bb_getR fl_X7_39 dX7_film_70 h70 ?_
      refine bb_aload_n dX7_film_73 rfl ?_
      obtain ⟨t74, h74, hf⟩ := bb_bind hf
      refine bb_getR fl_X7_12 dX7_film_74 h74 ?_
      obtain ⟨t77, h77, hf⟩ := bb_bind hf
      refine bb_getR fl_X7_87 dX7_film_77 h77 ?_
      obtain ⟨g80, h80, hf⟩ := bb_bind hf
      obtain ⟨⟨v80, b80⟩, h80⟩ := bb_rcv_spec h80
      refine bb_invV (ci := 0) (as := [.ref t77]) iv_X7_218 (by unfold bb_rr; decide) rfl dX7_film_80 rfl rfl b80 (Nat.le_of_ble_eq_true rfl) (ok_X0_takeFrom h80) ?_
      refine bb_iconst (v := 0) dX7_film_83 (by decide) ?_
      refine bb_istore (L' := [.ref x0, .int x1, .int x2, .int x3, .int x4, .int x5, .ref t46, .int r56.1, .int 0]) dX7_film_84 (by decide) rfl rfl ?_
      refine bb_fewer (L' := [.ref x0, .int x1, .int x2, .null, .null, .int x5, .ref t46, .null, .int 0]) (And.intro rfl (And.intro rfl (And.intro rfl (And.intro rfl (And.intro rfl (And.intro rfl trivial)))))) ?_
      exact j_X7_film_86 _ _ _ _ _ _ _ _ hf
    rw [if_neg c63] at hf
    refine bb_iload dX7_film_66 rfl ?_
    obtain rfl := Option.some.inj hf
    exact bb_iret rfl rfl dX7_film_68
  rw [if_pos c36] at hf
  refine bb_fewer (L' := [.null, .null, .null, .null, .null, .null, .null, .null, .null]) trivial ?_
  exact j_X7_film_39 _ hf
theorem ok_X7_film {x0 : Nat} {x1 : Int32} {x2 : Int32} {x3 : Int32} {x4 : Int32} {x5 : Int32} {h : bb_H} {r : Int32 × bb_H} (hf : m_X7_film x0 x1 x2 x3 x4 x5 h = some r) : bb_Ok yX7_film cX7_film 9 (some .int) rm_X7_film [.ref x0, .int x1, .int x2, .int x3, .int x4, .int x5] h (some (.int r.1), r.2) :=
  bb_ok (L := [.ref x0, .int x1, .int x2, .int x3, .int x4, .int x5, .null, .null, .null]) (by decide) (Nat.le_of_ble_eq_true rfl) rfl (bb_fewer (L' := [.ref x0, .int x1, .int x2, .int x3, .int x4, .int x5, .null, .null, .null]) (And.intro rfl (And.intro rfl (And.intro rfl (And.intro rfl (And.intro rfl (And.intro rfl trivial)))))) (j_X7_film_0 _ _ _ _ _ _ _ hf))
abbrev rm_X7_sheet : Room := { frames := 2, cells := 0, slots := 0, locals := 42 }
set_option maxRecDepth 100000 in
set_option maxHeartbeats 4000000 in
theorem j_X7_sheet_20 {r : Int32 × bb_H} : ∀ (h : bb_H), m_X7_sheet_20 h = some r → bb_J RX7 cX7_sheet 4 (some .int) rm_X7_sheet (some (.int r.1), r.2) 20 [.null, .null, .null, .null] [] h := by
  intro h hf
  unfold m_X7_sheet_20 at hf
  refine bb_iconst (v := (-1)) dX7_sheet_20 (by decide) ?_
  obtain rfl := Option.some.inj hf
  exact bb_iret rfl rfl dX7_sheet_21
set_option maxRecDepth 100000 in
set_option maxHeartbeats 4000000 in
theorem j_X7_sheet_0 {r : Int32 × bb_H} : ∀ (x0 : Nat) (x1 : Int32) (x2 : Int32) (x3 : Int32) (h : bb_H), m_X7_sheet x0 x1 x2 x3 h = some r → bb_J RX7 cX7_sheet 4 (some .int) rm_X7_sheet (some (.int r.1), r.2) 0 [.ref x0, .int x1, .int x2, .int x3] [] h := by
  intro x0 x1 x2 x3 h hf
  unfold m_X7_sheet at hf
  refine bb_iload_n dX7_sheet_0 rfl ?_
  obtain ⟨r1, h1, hf⟩ := bb_bind hf
  refine bb_invS (as := [.int x1]) is_X7_272 (by unfold bb_rr; decide) dX7_sheet_1 rfl rfl (Nat.le_of_ble_eq_true rfl) (ok_X7_isSheet h1) ?_
  refine bb_if_eq (tgt := 20) dX7_sheet_4 (by decide) (fun c4 => ?_) (fun c4 => ?_)
  · rw [if_pos c4] at hf
    refine bb_fewer (L' := [.null, .null, .null, .null]) trivial ?_
    exact j_X7_sheet_20 _ hf
  rw [if_neg c4] at hf
  refine bb_iload_n dX7_sheet_7 rfl ?_
  obtain ⟨r8, h8, hf⟩ := bb_bind hf
  refine bb_invS (as := [.int x2]) is_X7_275 (by unfold bb_rr; decide) dX7_sheet_8 rfl rfl (Nat.le_of_ble_eq_true rfl) (ok_X7_isLane h8) ?_
  refine bb_if_eq (tgt := 20) dX7_sheet_11 (by decide) (fun c11 => ?_) (fun c11 => ?_)
  · rw [if_pos c11] at hf
    refine bb_fewer (L' := [.null, .null, .null, .null]) trivial ?_
    exact j_X7_sheet_20 _ hf
  rw [if_neg c11] at hf
  refine bb_iload_n dX7_sheet_14 rfl ?_
  refine bb_bipush (v := 24) dX7_sheet_15 (by decide) ?_
  refine bb_icmp_le (tgt := 22) dX7_sheet_17 (by decide) (fun c17 => ?_) (fun c17 => ?_)
  · rw [if_pos c17] at hf
    refine bb_iload_n dX7_sheet_22 rfl ?_
    refine bb_if_ge (tgt := 29) dX7_sheet_23 (by decide) (fun c23 => ?_) (fun c23 => ?_)
    · rw [if_pos c23] at hf
      refine bb_aload_n dX7_sheet_29 rfl ?_
      obtain ⟨t30, h30, hf⟩ := bb_bind hf
      refine bb_getR fl_X7_32 dX7_sheet_30 h30 ?_
      refine bb_iload_n dX7_sheet_33 rfl ?_
      obtain ⟨t34, h34, hf⟩ := bb_bind hf
      refine bb_aaload (t0 := 4) (fun _ => rfl) rfl (fun _ _ => rfl) dX7_sheet_34 h34 ?_
      refine bb_iload_n dX7_sheet_35 rfl ?_
      refine bb_iload_n dX7_sheet_36 rfl ?_
      obtain ⟨g37, h37, hf⟩ := bb_bind hf
      obtain ⟨⟨v37, b37⟩, h37⟩ := bb_rcv_spec h37
      refine bb_invV (ci := 4) (as := [.int x2, .int x3]) iv_X7_296 (by unfold bb_rr; decide) rfl dX7_sheet_37 rfl rfl b37 (Nat.le_of_ble_eq_true rfl) (ok_X4_renew h37) ?_
      refine bb_iload_n dX7_sheet_40 rfl ?_
      obtain rfl := Option.some.inj hf
      exact bb_iret rfl rfl dX7_sheet_41
    rw [if_neg c23] at hf
    refine bb_bipush (v := (-14)) dX7_sheet_26 (by decide) ?_
    obtain rfl := Option.some.inj hf
    exact bb_iret rfl rfl dX7_sheet_28
  rw [if_neg c17] at hf
  refine bb_fewer (L' := [.null, .null, .null, .null]) trivial ?_
  exact j_X7_sheet_20 _ hf
theorem ok_X7_sheet {x0 : Nat} {x1 : Int32} {x2 : Int32} {x3 : Int32} {h : bb_H} {r : Int32 × bb_H} (hf : m_X7_sheet x0 x1 x2 x3 h = some r) : bb_Ok yX7_sheet cX7_sheet 4 (some .int) rm_X7_sheet [.ref x0, .int x1, .int x2, .int x3] h (some (.int r.1), r.2) :=
  bb_ok (L := [.ref x0, .int x1, .int x2, .int x3]) (by decide) (Nat.le_of_ble_eq_true rfl) rfl (bb_fewer (L' := [.ref x0, .int x1, .int x2, .int x3]) (And.intro rfl (And.intro rfl (And.intro rfl (And.intro rfl trivial)))) (j_X7_sheet_0 _ _ _ _ _ hf))
abbrev rm_X7_drop : Room := { frames := 2, cells := 0, slots := 0, locals := 42 }
set_option maxRecDepth 100000 in
set_option maxHeartbeats 4000000 in
theorem j_X7_drop_0 {r : Int32 × bb_H} : ∀ (x0 : Nat) (x1 : Int32) (h : bb_H), m_X7_drop x0 x1 h = some r → bb_J RX7 cX7_drop 3 (some .int) rm_X7_drop (some (.int r.1), r.2) 0 [.ref x0, .int x1, .null] [] h := by
  intro x0 x1 h hf
  unfold m_X7_drop at hf
  refine bb_iload_n dX7_drop_0 rfl ?_
  obtain ⟨r1, h1, hf⟩ := bb_bind hf
  refine bb_invS (as := [.int x1]) is_X7_272 (by unfold bb_rr; decide) dX7_drop_1 rfl rfl (Nat.le_of_ble_eq_true rfl) (ok_X7_isSheet h1) ?_
  refine bb_if_ne (tgt := 9) dX7_drop_4 (by decide) (fun c4 => ?_) (fun c4 => ?_)
  · rw [if_neg c4] at hf
    refine bb_aload_n dX7_drop_9 rfl ?_
    obtain ⟨t10, h10, hf⟩ := bb_bind hf
    refine bb_getR fl_X7_32 dX7_drop_10 h10 ?_
    refine bb_iload_n dX7_drop_13 rfl ?_
    obtain ⟨t14, h14, hf⟩ := bb_bind hf
    refine bb_aaload (t0 := 4) (fun _ => rfl) rfl (fun _ _ => rfl) dX7_drop_14 h14 ?_
    refine bb_astore_n (L' := [.ref x0, .int x1, .ref t14]) dX7_drop_15 (by decide) rfl rfl ?_
    refine bb_aload_n dX7_drop_16 rfl ?_
    obtain ⟨t17, h17, hf⟩ := bb_bind hf
    refine bb_getI fl_X7_299 dX7_drop_17 h17 ?_
    refine bb_if_ne (tgt := 26) dX7_drop_20 (by decide) (fun c20 => ?_) (fun c20 => ?_)
    · rw [if_neg c20] at hf
      refine bb_aload_n dX7_drop_26 rfl ?_
      refine bb_iconst (v := 0) dX7_drop_27 (by decide) ?_
      obtain ⟨g28, h28, hf⟩ := bb_bind hf
      refine bb_putZ fp_X7_299 dX7_drop_28 h28 ?_
      refine bb_aload_n dX7_drop_31 rfl ?_
      obtain ⟨t32, h32, hf⟩ := bb_bind hf
      refine bb_getI fl_X7_302 dX7_drop_32 h32 ?_
      obtain rfl := Option.some.inj hf
      exact bb_iret rfl rfl dX7_drop_35
    rw [if_pos c20] at hf
    refine bb_bipush (v := (-11)) dX7_drop_23 (by decide) ?_
    obtain rfl := Option.some.inj hf
    exact bb_iret rfl rfl dX7_drop_25
  rw [if_pos c4] at hf
  refine bb_iconst (v := (-1)) dX7_drop_7 (by decide) ?_
  obtain rfl := Option.some.inj hf
  exact bb_iret rfl rfl dX7_drop_8
theorem ok_X7_drop {x0 : Nat} {x1 : Int32} {h : bb_H} {r : Int32 × bb_H} (hf : m_X7_drop x0 x1 h = some r) : bb_Ok yX7_drop cX7_drop 3 (some .int) rm_X7_drop [.ref x0, .int x1] h (some (.int r.1), r.2) :=
  bb_ok (L := [.ref x0, .int x1, .null]) (by decide) (Nat.le_of_ble_eq_true rfl) rfl (bb_fewer (L' := [.ref x0, .int x1, .null]) (And.intro rfl (And.intro rfl trivial)) (j_X7_drop_0 _ _ _ hf))
abbrev rm_X7_item : Room := { frames := 2, cells := 0, slots := 0, locals := 45 }
set_option maxRecDepth 100000 in
set_option maxHeartbeats 4000000 in
theorem j_X7_item_14 {r : Int32 × bb_H} : ∀ (h : bb_H), m_X7_item_14 h = some r → bb_J RX7 cX7_item 7 (some .int) rm_X7_item (some (.int r.1), r.2) 14 [.null, .null, .null, .null, .null, .null, .null] [] h := by
  intro h hf
  unfold m_X7_item_14 at hf
  refine bb_iconst (v := (-1)) dX7_item_14 (by decide) ?_
  obtain rfl := Option.some.inj hf
  exact bb_iret rfl rfl dX7_item_15
set_option maxRecDepth 100000 in
set_option maxHeartbeats 4000000 in
theorem j_X7_item_0 {r : Int32 × bb_H} : ∀ (x0 : Nat) (x1 : Int32) (x2 : Int32) (x3 : Int32) (x4 : Int64) (h : bb_H), m_X7_item x0 x1 x2 x3 x4 h = some r → bb_J RX7 cX7_item 7 (some .int) rm_X7_item (some (.int r.1), r.2) 0 [.ref x0, .int x1, .int x2, .int x3, .long x4, .null, .null] [] h := by
  intro x0 x1 x2 x3 x4 h hf
  unfold m_X7_item at hf
  refine bb_iload_n dX7_item_0 rfl ?_
  obtain ⟨r1, h1, hf⟩ := bb_bind hf
  refine bb_invS (as := [.int x1]) is_X7_272 (by unfold bb_rr; decide) dX7_item_1 rfl rfl (Nat.le_of_ble_eq_true rfl) (ok_X7_isSheet h1) ?_
  refine bb_if_eq (tgt := 14) dX7_item_4 (by decide) (fun c4 => ?_) (fun c4 => ?_)
  · rw [if_pos c4] at hf
    refine bb_fewer (L' := [.null, .null, .null, .null, .null, .null, .null]) trivial ?_
    exact j_X7_item_14 _ hf
  rw [if_neg c4] at hf
  refine bb_iload_n dX7_item_7 rfl ?_
  obtain ⟨r8, h8, hf⟩ := bb_bind hf
  refine bb_invS (as := [.int x2]) is_X7_275 (by unfold bb_rr; decide) dX7_item_8 rfl rfl (Nat.le_of_ble_eq_true rfl) (ok_X7_isLane h8) ?_
  refine bb_if_ne (tgt := 16) dX7_item_11 (by decide) (fun c11 => ?_) (fun c11 => ?_)
  · rw [if_neg c11] at hf
    refine bb_aload_n dX7_item_16 rfl ?_
    obtain ⟨t17, h17, hf⟩ := bb_bind hf
    refine bb_getR fl_X7_32 dX7_item_17 h17 ?_
    refine bb_iload_n dX7_item_20 rfl ?_
    obtain ⟨t21, h21, hf⟩ := bb_bind hf
    refine bb_aaload (t0 := 4) (fun _ => rfl) rfl (fun _ _ => rfl) dX7_item_21 h21 ?_
    refine bb_iload_n dX7_item_22 rfl ?_
    refine bb_iload_n dX7_item_23 rfl ?_
    refine bb_iconst (v := 1) dX7_item_24 (by decide) ?_
    obtain ⟨r25, h25, hf⟩ := bb_bind hf
    obtain ⟨⟨v25, b25⟩, h25⟩ := bb_rcv_spec h25
    refine bb_invV (ci := 4) (as := [.int x2, .int x3, .int 1]) iv_X7_278 (by unfold bb_rr; decide) rfl dX7_item_25 rfl rfl b25 (Nat.le_of_ble_eq_true rfl) (ok_X4_refusalOf h25) ?_
    refine bb_istore (L' := [.ref x0, .int x1, .int x2, .int x3, .long x4, .null, .int r25.1]) dX7_item_28 (by decide) rfl rfl ?_
    refine bb_iload dX7_item_30 rfl ?_
    refine bb_if_eq (tgt := 38) dX7_item_32 (by decide) (fun c32 => ?_) (fun c32 => ?_)
    · rw [if_pos c32] at hf
      refine bb_aload_n dX7_item_38 rfl ?_
      obtain ⟨t39, h39, hf⟩ := bb_bind hf
      refine bb_getR fl_X7_32 dX7_item_39 h39 ?_
      refine bb_iload_n dX7_item_42 rfl ?_
      obtain ⟨t43, h43, hf⟩ := bb_bind hf
      refine bb_aaload (t0 := 4) (fun _ => rfl) rfl (fun _ _ => rfl) dX7_item_43 h43 ?_
      refine bb_iload_n dX7_item_44 rfl ?_
      refine bb_lload dX7_item_45 rfl ?_
      obtain ⟨g47, h47, hf⟩ := bb_bind hf
      obtain ⟨⟨v47, b47⟩, h47⟩ := bb_rcv_spec h47
      refine bb_invV (ci := 4) (as := [.int x3, .long x4]) iv_X7_292 (by unfold bb_rr; decide) rfl dX7_item_47 rfl rfl b47 (Nat.le_of_ble_eq_true rfl) (ok_X4_put h47) ?_
      refine bb_iconst (v := 1) dX7_item_50 (by decide) ?_
      obtain rfl := Option.some.inj hf
      exact bb_iret rfl rfl dX7_item_51
    rw [if_neg c32] at hf
    refine bb_iload dX7_item_35 rfl ?_
    obtain rfl := Option.some.inj hf
    exact bb_iret rfl rfl dX7_item_37
  rw [if_pos c11] at hf
  refine bb_fewer (L' := [.null, .null, .null, .null, .null, .null, .null]) trivial ?_
  exact j_X7_item_14 _ hf
theorem ok_X7_item {x0 : Nat} {x1 : Int32} {x2 : Int32} {x3 : Int32} {x4 : Int64} {h : bb_H} {r : Int32 × bb_H} (hf : m_X7_item x0 x1 x2 x3 x4 h = some r) : bb_Ok yX7_item cX7_item 7 (some .int) rm_X7_item [.ref x0, .int x1, .int x2, .int x3, .long x4] h (some (.int r.1), r.2) :=
  bb_ok (L := [.ref x0, .int x1, .int x2, .int x3, .long x4, .null, .null]) (by decide) (Nat.le_of_ble_eq_true rfl) rfl (bb_fewer (L' := [.ref x0, .int x1, .int x2, .int x3, .long x4, .null, .null]) (And.intro rfl (And.intro rfl (And.intro rfl (And.intro rfl (And.intro rfl trivial))))) (j_X7_item_0 _ _ _ _ _ _ hf))
abbrev rm_X7_copy : Room := { frames := 2, cells := 0, slots := 0, locals := 60 }
set_option maxRecDepth 100000 in
set_option maxHeartbeats 4000000 in
theorem j_X7_copy_14 {r : Int32 × bb_H} : ∀ (h : bb_H), m_X7_copy_14 h = some r → bb_J RX7 cX7_copy 8 (some .int) rm_X7_copy (some (.int r.1), r.2) 14 [.null, .null, .null, .null, .null, .null, .null, .null] [] h := by
  intro h hf
  unfold m_X7_copy_14 at hf
  refine bb_iconst (v := (-1)) dX7_copy_14 (by decide) ?_
  obtain rfl := Option.some.inj hf
  exact bb_iret rfl rfl dX7_copy_15
set_option maxRecDepth 100000 in
set_option maxHeartbeats 4000000 in
theorem j_X7_copy_48 {r : Int32 × bb_H} : ∀ (h : bb_H), m_X7_copy_48 h = some r → bb_J RX7 cX7_copy 8 (some .int) rm_X7_copy (some (.int r.1), r.2) 48 [.null, .null, .null, .null, .null, .null, .null, .null] [] h := by
  intro h hf
  unfold m_X7_copy_48 at hf
  refine bb_bipush (v := (-11)) dX7_copy_48 (by decide) ?_
  obtain rfl := Option.some.inj hf
  exact bb_iret rfl rfl dX7_copy_50
set_option maxRecDepth 100000 in
set_option maxHeartbeats 4000000 in
theorem j_X7_copy_90 {r : Int32 × bb_H} : ∀ (h : bb_H), m_X7_copy_90 h = some r → bb_J RX7 cX7_copy 8 (some .int) rm_X7_copy (some (.int r.1), r.2) 90 [.null, .null, .null, .null, .null, .null, .null, .null] [] h := by
  intro h hf
  unfold m_X7_copy_90 at hf
  refine bb_bipush (v := (-13)) dX7_copy_90 (by decide) ?_
  obtain rfl := Option.some.inj hf
  exact bb_iret rfl rfl dX7_copy_92
set_option maxRecDepth 100000 in
set_option maxHeartbeats 4000000 in
theorem j_X7_copy_0 {r : Int32 × bb_H} : ∀ (x0 : Nat) (x1 : Int32) (x2 : Int32) (x3 : Int32) (x4 : Int32) (x5 : Int32) (h : bb_H), m_X7_copy x0 x1 x2 x3 x4 x5 h = some r → bb_J RX7 cX7_copy 8 (some .int) rm_X7_copy (some (.int r.1), r.2) 0 [.ref x0, .int x1, .int x2, .int x3, .int x4, .int x5, .null, .null] [] h := by
  intro x0 x1 x2 x3 x4 x5 h hf
  unfold m_X7_copy at hf
  refine bb_iload_n dX7_copy_0 rfl ?_
  obtain ⟨r1, h1, hf⟩ := bb_bind hf
  refine bb_invS (as := [.int x1]) is_X7_272 (by unfold bb_rr; decide) dX7_copy_1 rfl rfl (Nat.le_of_ble_eq_true rfl) (ok_X7_isSheet h1) ?_
  refine bb_if_eq (tgt := 14) dX7_copy_4 (by decide) (fun c4 => ?_) (fun c4 => ?_)
  · rw [if_pos c4] at hf
    refine bb_fewer (L' := [.null, .null, .null, .null, .null, .null, .null, .null]) trivial ?_
    exact j_X7_copy_14 _ hf
  rw [if_neg c4] at hf
  refine bb_iload_n dX7_copy_7 rfl ?_
  obtain ⟨r8, h8, hf⟩ := bb_bind hf
  refine bb_invS (as := [.int x3]) is_X7_272 (by unfold bb_rr; decide) dX7_copy_8 rfl rfl (Nat.le_of_ble_eq_true rfl) (ok_X7_isSheet h8) ?_
  refine bb_if_ne (tgt := 16) dX7_copy_11 (by decide) (fun c11 => ?_) (fun c11 => ?_)
  · rw [if_neg c11] at hf
    refine bb_aload_n dX7_copy_16 rfl ?_
    obtain ⟨t17, h17, hf⟩ := bb_bind hf
    refine bb_getR fl_X7_32 dX7_copy_17 h17 ?_
    refine bb_iload_n dX7_copy_20 rfl ?_
    obtain ⟨t21, h21, hf⟩ := bb_bind hf
    refine bb_aaload (t0 := 4) (fun _ => rfl) rfl (fun _ _ => rfl) dX7_copy_21 h21 ?_
    refine bb_astore (L' := [.ref x0, .int x1, .int x2, .int x3, .int x4, .int x5, .ref t21, .null]) dX7_copy_22 (by decide) rfl rfl ?_
    refine bb_aload_n dX7_copy_24 rfl ?_
    obtain ⟨t25, h25, hf⟩ := bb_bind hf
    refine bb_getR fl_X7_32 dX7_copy_25 h25 ?_
    refine bb_iload_n dX7_copy_28 rfl ?_
    obtain ⟨t29, h29, hf⟩ := bb_bind hf
    refine bb_aaload (t0 := 4) (fun _ => rfl) rfl (fun _ _ => rfl) dX7_copy_29 h29 ?_
    refine bb_astore (L' := [.ref x0, .int x1, .int x2, .int x3, .int x4, .int x5, .ref t21, .ref t29]) dX7_copy_30 (by decide) rfl rfl ?_
    refine bb_aload dX7_copy_32 rfl ?_
    obtain ⟨t34, h34, hf⟩ := bb_bind hf
    refine bb_getI fl_X7_299 dX7_copy_34 h34 ?_
    refine bb_if_eq (tgt := 48) dX7_copy_37 (by decide) (fun c37 => ?_) (fun c37 => ?_)
    · rw [if_pos c37] at hf
      refine bb_fewer (L' := [.null, .null, .null, .null, .null, .null, .null, .null]) trivial ?_
      exact j_X7_copy_48 _ hf
    rw [if_neg c37] at hf
    refine bb_aload dX7_copy_40 rfl ?_
    obtain ⟨t42, h42, hf⟩ := bb_bind hf
    refine bb_getI fl_X7_299 dX7_copy_42 h42 ?_
    refine bb_if_ne (tgt := 51) dX7_copy_45 (by decide) (fun c45 => ?_) (fun c45 => ?_)
    · rw [if_neg c45] at hf
      refine bb_aload dX7_copy_51 rfl ?_
      obtain ⟨t53, h53, hf⟩ := bb_bind hf
      refine bb_getI fl_X7_303 dX7_copy_53 h53 ?_
      refine bb_aload dX7_copy_56 rfl ?_
      obtain ⟨t58, h58, hf⟩ := bb_bind hf
      refine bb_getI fl_X7_303 dX7_copy_58 h58 ?_
      refine bb_icmp_eq (tgt := 67) dX7_copy_61 (by decide) (fun c61 => ?_) (fun c61 => ?_)
      · rw [if_pos c61] at hf
        refine bb_aload dX7_copy_67 rfl ?_
        refine bb_iload_n dX7_copy_69 rfl ?_
        refine bb_iload dX7_copy_70 rfl ?_
        obtain ⟨r72, h72, hf⟩ := bb_bind hf
        obtain ⟨⟨v72, b72⟩, h72⟩ := bb_rcv_spec h72
        refine bb_invV (ci := 4) (as := [.int x2, .int x5]) iv_X7_306 (by unfold bb_rr; decide) rfl dX7_copy_72 rfl rfl b72 (Nat.le_of_ble_eq_true rfl) (ok_X4_spans h72) ?_
        refine bb_if_eq (tgt := 90) dX7_copy_75 (by decide) (fun c75 => ?_) (fun c75 => ?_)
        · rw [if_pos c75] at hf
          refine bb_fewer (L' := [.null, .null, .null, .null, .null, .null, .null, .null]) trivial ?_
          exact j_X7_copy_90 _ hf
        rw [if_neg c75] at hf
        refine bb_aload dX7_copy_78 rfl ?_
        refine bb_iload dX7_copy_80 rfl ?_
        refine bb_iload dX7_copy_82 rfl ?_
        obtain ⟨r84, h84, hf⟩ := bb_bind hf
        obtain ⟨⟨v84, b84⟩, h84⟩ := bb_rcv_spec h84
        refine bb_invV (ci := 4) (as := [.int x4, .int x5]) iv_X7_306 (by unfold bb_rr; decide) rfl dX7_copy_84 rfl rfl b84 (Nat.le_of_ble_eq_true rfl) (ok_X4_spans h84) ?_
        refine bb_if_ne (tgt := 93) dX7_copy_87 (by decide) (fun c87 => ?_) (fun c87 => ?_)
        · rw [if_neg c87] at hf
          refine bb_aload dX7_copy_93 rfl ?_
          obtain ⟨t95, h95, hf⟩ := bb_bind hf
          refine bb_getR fl_X7_309 dX7_copy_95 h95 ?_
          refine bb_iload_n dX7_copy_98 rfl ?_
          refine bb_aload dX7_copy_99 rfl ?_
          obtain ⟨t101, h101, hf⟩ := bb_bind hf
          refine bb_getR fl_X7_309 dX7_copy_101 h101 ?_
          refine bb_iload dX7_copy_104 rfl ?_
          refine bb_iload dX7_copy_106 rfl ?_
          obtain ⟨g108, h108, hf⟩ := bb_bind hf
          refine bb_acopy ac_X7_313 (by decide) (by decide) dX7_copy_108 h108 ?_
          refine bb_iload dX7_copy_111 rfl ?_
          obtain rfl := Option.some.inj hf
          exact bb_iret rfl rfl dX7_copy_113
        rw [if_pos c87] at hf
        refine bb_fewer (L' := [.null, .null, .null, .null, .null, .null, .null, .null]) trivial ?_
        exact j_X7_copy_90 _ hf
      rw [if_neg c61] at hf
      refine bb_bipush (v := (-12)) dX7_copy_64 (by decide) ?_
      obtain rfl := Option.some.inj hf
      exact bb_iret rfl rfl dX7_copy_66
    rw [if_pos c45] at hf
    refine bb_fewer (L' := [.null, .null, .null, .null, .null, .null, .null, .null]) trivial ?_
    exact j_X7_copy_48 _ hf
  rw [if_pos c11] at hf
  refine bb_fewer (L' := [.null, .null, .null, .null, .null, .null, .null, .null]) trivial ?_
  exact j_X7_copy_14 _ hf
theorem ok_X7_copy {x0 : Nat} {x1 : Int32} {x2 : Int32} {x3 : Int32} {x4 : Int32} {x5 : Int32} {h : bb_H} {r : Int32 × bb_H} (hf : m_X7_copy x0 x1 x2 x3 x4 x5 h = some r) : bb_Ok yX7_copy cX7_copy 8 (some .int) rm_X7_copy [.ref x0, .int x1, .int x2, .int x3, .int x4, .int x5] h (some (.int r.1), r.2) :=
  bb_ok (L := [.ref x0, .int x1, .int x2, .int x3, .int x4, .int x5, .null, .null]) (by decide) (Nat.le_of_ble_eq_true rfl) rfl (bb_fewer (L' := [.ref x0, .int x1, .int x2, .int x3, .int x4, .int x5, .null, .null]) (And.intro rfl (And.intro rfl (And.intro rfl (And.intro rfl (And.intro rfl (And.intro rfl trivial)))))) (j_X7_copy_0 _ _ _ _ _ _ _ hf))
