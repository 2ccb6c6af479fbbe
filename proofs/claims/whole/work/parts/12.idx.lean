/-! String.indexOf over the one String constant, "phudr" -/
section BBS
variable {own : String} {cc : ByteArray} {nL : Nat} {ret : Option FieldType} {rm : Room} {o : Option Value × bb_H} {pc : Nat} {L st : List Value} {h : bb_H}
theorem bb_sget {ix : Nat} (hl : Cond.fieldLink own ix "java/lang/String" "value" "[B" ∈ bb_good) (hd : decode cc pc = .ok (.getfield ix, 3)) (k : bb_J own cc nL ret rm o (pc + 3) L (.ref bb_qv :: st) h) : bb_J own cc nL ret rm o pc L (.ref bb_qs :: st) h :=
  fun p l e s m args below meth c D cA A ad H locs ls hX hY hL => vk_getf hX.1 hX.2.1 (hX.2.2.2.2.2.2.2.2.1.1.1 0 (by decide)).2.2.1 hY.2.2 hX.2.2.2.1 (hX.2.2.2.2.1 _ hl) (fun _ q => q) hd (k p l e s m args below meth c D cA A ad H locs ls hX hY hL)
theorem bb_scod {ix : Nat} (hl : Cond.fieldLink own ix "java/lang/String" "coder" "B" ∈ bb_good) (hd : decode cc pc = .ok (.getfield ix, 3)) (k : bb_J own cc nL ret rm o (pc + 3) L (.int 0 :: st) h) : bb_J own cc nL ret rm o pc L (.ref bb_qs :: st) h :=
  fun p l e s m args below meth c D cA A ad H locs ls hX hY hL => vk_getf hX.1 hX.2.1 (hX.2.2.2.2.2.2.2.2.1.1.1 0 (by decide)).2.1 hY.2.2 hX.2.2.2.1 (hX.2.2.2.2.1 _ hl) (fun _ q => q) hd (k p l e s m args below meth c D cA A ad H locs ls hX hY hL)
theorem bb_scmp {ix : Nat} (hl : Cond.fieldLink own ix "java/lang/String" "COMPACT_STRINGS" "Z" ∈ bb_good) (hd : decode cc pc = .ok (.getstatic ix, 3)) (k : bb_J own cc nL ret rm o (pc + 3) L (.int 1 :: st) h) : bb_J own cc nL ret rm o pc L st h :=
  fun p l e s m args below meth c D cA A ad H locs ls hX hY hL => va_gets hX.1 hX.2.1 hX.2.2.2.2.2.2.2.2.1.2 hY.2.2 hX.2.2.2.1 (hX.2.2.2.2.1 _ hl) (fun _ q => q) hd (k p l e s m args below meth c D cA A ad H locs ls hX hY hL)
theorem bb_slen (hd : decode cc pc = .ok (.arraylength, 1)) (k : bb_J own cc nL ret rm o (pc + 1) L (.int 5 :: st) h) : bb_J own cc nL ret rm o pc L (.ref bb_qv :: st) h :=
  fun p l e s m args below meth c D cA A ad H locs ls hX hY hL => va_tlen (v := 5) hX.1 hX.2.1 (hX.2.2.2.2.2.2.2.2.1.1.1 0 (by decide)).2.2.2 hY.2.2 rfl hd (k p l e s m args below meth c D cA A ad H locs ls hX hY hL)
theorem bb_sld {j : Nat} {v : Int32} (hj : j < 5) (hv : ([112, 104, 117, 100, 114] : List Int32).getD j 0 = v) (hd : decode cc pc = .ok (.baload, 1)) (k : bb_J own cc nL ret rm o (pc + 1) L (.int v :: st) h) : bb_J own cc nL ret rm o pc L (.int (nI j) :: .ref bb_qv :: st) h :=
  fun p l e s m args below meth c D cA A ad H locs ls hX hY hL => va_tb (v := .int v) hX.1 hX.2.1 (hX.2.2.2.2.2.2.2.2.1.1.1 0 (by decide)).2.2.2 hY.2.2 (vp_in_nI hj (by decide)) (by rw [nI_clamp (by omega)]; show Value.int (([112, 104, 117, 100, 114] : List Int32).getD j 0) = _; rw [hv]) hd (k p l e s m args below meth c D cA A ad H locs ls hX hY hL)
theorem bb_sinv {ix : Nat} {y : MethodName} {cc' : ByteArray} {nL' n : Nat} {ret' : Option FieldType} {rm' : Room} {as ast : List Value} {r : Option Value} {h' : bb_H} (hs : bb_iv own ix "java/lang/String" y cc' nL' ret' n) (hR : bb_rr rm' rm nL') (hd : decode cc pc = .ok (.invokevirtual ix, 3)) (hast : as.reverse ++ .ref bb_qs :: st = ast) (hn : as.length = n) (hrest : (st.map fun v => v.category).sum ≤ 8) (hok : bb_Ok y cc' nL' ret' rm' (.ref bb_qs :: as) h (r, h')) (k : bb_J own cc nL ret rm o (pc + 3) L (r.toList ++ st) h') : bb_J own cc nL ret rm o pc L ast h := by
  intro p l e s m args below meth c D cA A ad H locs ls hX hY hL
  subst hast
  obtain ⟨⟨w1, w2, w3, w4, w5⟩, hdd⟩ := hs
  have hF := bb_free hY hX.2.2.2.2.2.2.2.2.2
  have hG : GoodIn bb_good (wsV own ix "java/lang/String" y (bb_wd y cc' nL' ret')) := bb_goodin (fun w hw => by
    unfold wsV at hw
    rcases List.mem_append.mp hw with hw | hw
    · simp only [List.mem_cons, List.not_mem_nil, or_false] at hw
      rcases hw with rfl | rfl | rfl | rfl
      · exact w1
      · exact w2
      · exact w3
      · exact w4
    · exact bb_wd_in w5 w hw)
  have hpre := bb_pre (as := .ref bb_qs :: as) hX hY
  refine bb_callx (va_runV (As := as.map (bb_cv ad)) (rest := st.map (bb_cv ad)) (b := ad bb_qs) ⟨hX.1, hX.2.1, hX.2.2.1, hX.2.2.2.1, hX.2.2.2.2.1⟩ (hok l D cA ad H.size) (cwV n hX.2.2.2.2.1 hG rfl hR.1.1 hR.1.2 hdd hR.2) ⟨bb_blind, vk_recv hX.2.2.2.2.2.2.2.2.1.1 (i := 0) (by decide) hY.2.2, hpre⟩ rfl (by rw [List.length_map]; exact hn) hL.1 ?_ ?_ hd ⟨Nat.zero_le _, Nat.zero_le _⟩) hY.2.2 (fun q _ hq => hF q hq) hF (fun t H1 locs1 ht hB hS1 => ?_)
  · show (as.reverse ++ .ref bb_qs :: st).map (bb_cv ad) = _
    rw [List.map_append, List.map_reverse]
    rfl
  · show 2 * 0 + _ ≤ 8
    rw [bb_sum]
    omega
  · rw [bb_stk]
    exact k p l e s m args below meth c D cA A ad H1 locs1 ls hX ⟨by rw [← ht]; exact hB.1, hB.2.weaken (fun _ q _ z => hF q.1 z), hS1⟩ hL
end BBS
abbrev rm_s0 : Room := { frames := 0, cells := 0, slots := 0, locals := 0 }
abbrev rm_s1 : Room := { frames := 1, cells := 0, slots := 0, locals := 25 }
abbrev rm_s2 : Room := { frames := 2, cells := 0, slots := 0, locals := 48 }
abbrev rm_s3 : Room := { frames := 3, cells := 0, slots := 0, locals := 70 }
theorem ws_38 : Cond.fieldLink RJ0 38 "java/lang/String" "COMPACT_STRINGS" "Z" ∈ bb_good := by decide +kernel
theorem ws_15 : Cond.fieldLink RJ0 15 "java/lang/String" "coder" "B" ∈ bb_good := by decide +kernel
theorem ws_9 : Cond.fieldLink RJ0 9 "java/lang/String" "value" "[B" ∈ bb_good := by decide +kernel
theorem ws_335 : bb_iv RJ0 335 "java/lang/String" yJ0_coder_7d493 cJ0_coder_7d493 1 (some .byte) 0 := by unfold bb_iv; decide +kernel
theorem ws_492 : bb_iv RJ0 492 "java/lang/String" yJ0_isLatin1_aae02 cJ0_isLatin1_aae02 1 (some .boolean) 0 := by unfold bb_iv; decide +kernel
theorem ws_505 : bb_iv RJ0 505 "java/lang/String" yJ0_length_8abf5 cJ0_length_8abf5 1 (some .int) 0 := by unfold bb_iv; decide +kernel
theorem ws_633 : bb_iv RJ0 633 "java/lang/String" yJ0_indexOf_7cf53 cJ0_indexOf_7cf53 3 (some .int) 2 := by unfold bb_iv; decide +kernel
theorem ws_637 : bb_is_ RJ0 637 yJ1_indexOf_4cfef cJ1_indexOf_4cfef 4 (some .int) 4 := by unfold bb_is_; decide +kernel
theorem ws_88 : bb_is_ RJ1 88 yJ1_canEncode_9a6ad cJ1_canEncode_9a6ad 1 (some .boolean) 1 := by unfold bb_is_; decide +kernel
theorem ws_95 : bb_is_ RJ1 95 yJ1_indexOfChar_4cfef cJ1_indexOfChar_4cfef 6 (some .int) 4 := by unfold bb_is_; decide +kernel
theorem ws_92 : bb_im RJ1 92 := by unfold bb_im; decide +kernel
theorem ws_m38 : bb_in2 RJ1 38 := by unfold bb_in2; decide +kernel
set_option maxRecDepth 100000 in
set_option maxHeartbeats 4000000 in
theorem ok_isLatin1 {h : bb_H} : bb_Ok yJ0_isLatin1_aae02 cJ0_isLatin1_aae02 1 (some .boolean) rm_s0 [.ref bb_qs] h (some (.int 1), h) := by
  refine bb_ok (L := [.ref bb_qs]) (by decide) (Nat.le_of_ble_eq_true rfl) rfl ?_
  refine bb_scmp ws_38 dJ0_isLatin1_aae02_0 ?_
  refine bb_if_eq (tgt := 17) dJ0_isLatin1_aae02_3 (by decide) (fun q => absurd q (by decide)) (fun _ => ?_)
  refine bb_aload_n dJ0_isLatin1_aae02_6 rfl ?_
  refine bb_scod ws_15 dJ0_isLatin1_aae02_7 ?_
  refine bb_if_ne (tgt := 17) dJ0_isLatin1_aae02_10 (by decide) (fun q => absurd rfl q) (fun _ => ?_)
  refine bb_iconst (v := 1) dJ0_isLatin1_aae02_13 (by decide) ?_
  refine bb_goto (tgt := 18) dJ0_isLatin1_aae02_14 (by decide) ?_
  exact bb_zret rfl (by decide) rfl dJ0_isLatin1_aae02_18
set_option maxRecDepth 100000 in
set_option maxHeartbeats 4000000 in
theorem ok_coder {h : bb_H} : bb_Ok yJ0_coder_7d493 cJ0_coder_7d493 1 (some .byte) rm_s0 [.ref bb_qs] h (some (.int 0), h) := by
  refine bb_ok (L := [.ref bb_qs]) (by decide) (Nat.le_of_ble_eq_true rfl) rfl ?_
  refine bb_scmp ws_38 dJ0_coder_7d493_0 ?_
  refine bb_if_eq (tgt := 13) dJ0_coder_7d493_3 (by decide) (fun q => absurd q (by decide)) (fun _ => ?_)
  refine bb_aload_n dJ0_coder_7d493_6 rfl ?_
  refine bb_scod ws_15 dJ0_coder_7d493_7 ?_
  refine bb_goto (tgt := 14) dJ0_coder_7d493_10 (by decide) ?_
  exact bb_zret rfl (by decide) rfl dJ0_coder_7d493_14
set_option maxRecDepth 100000 in
set_option maxHeartbeats 4000000 in
theorem ok_slength {h : bb_H} : bb_Ok yJ0_length_8abf5 cJ0_length_8abf5 1 (some .int) rm_s1 [.ref bb_qs] h (some (.int 5), h) := by
  refine bb_ok (L := [.ref bb_qs]) (by decide) (Nat.le_of_ble_eq_true rfl) rfl ?_
  refine bb_aload_n dJ0_length_8abf5_0 rfl ?_
  refine bb_sget ws_9 dJ0_length_8abf5_1 ?_
  refine bb_slen dJ0_length_8abf5_4 ?_
  refine bb_aload_n dJ0_length_8abf5_5 rfl ?_
  refine bb_sinv (as := []) ws_335 (by unfold bb_rr; decide) dJ0_length_8abf5_6 rfl rfl (Nat.le_of_ble_eq_true rfl) ok_coder ?_
  refine bb_ishr dJ0_length_8abf5_9 ?_
  exact bb_iret rfl rfl dJ0_length_8abf5_10
set_option maxRecDepth 100000 in
set_option maxHeartbeats 4000000 in
theorem ok_canEncode {h : bb_H} {x : Int32} : bb_Ok yJ1_canEncode_9a6ad cJ1_canEncode_9a6ad 1 (some .boolean) rm_s0 [.int x] h (some (.int (if x < 0 then 0 else if 255 < x then 0 else 1)), h) := by
  refine bb_ok (L := [.int x]) (by decide) (Nat.le_of_ble_eq_true rfl) rfl ?_
  refine bb_iload_n dJ1_canEncode_9a6ad_0 rfl ?_
  refine bb_if_lt (tgt := 15) dJ1_canEncode_9a6ad_1 (by decide) (fun q => ?_) (fun q => ?_)
  · rw [if_pos q]
    refine bb_iconst (v := 0) dJ1_canEncode_9a6ad_15 (by decide) ?_
    exact bb_zret rfl (by decide) rfl dJ1_canEncode_9a6ad_16
  · rw [if_neg q]
    refine bb_iload_n dJ1_canEncode_9a6ad_4 rfl ?_
    refine bb_sipush (v := 255) dJ1_canEncode_9a6ad_5 (by decide) ?_
    refine bb_icmp_gt (tgt := 15) dJ1_canEncode_9a6ad_8 (by decide) (fun q => ?_) (fun q => ?_)
    · rw [if_pos q]
      refine bb_iconst (v := 0) dJ1_canEncode_9a6ad_15 (by decide) ?_
      exact bb_zret rfl (by decide) rfl dJ1_canEncode_9a6ad_16
    · rw [if_neg q]
      refine bb_iconst (v := 1) dJ1_canEncode_9a6ad_11 (by decide) ?_
      refine bb_goto (tgt := 16) dJ1_canEncode_9a6ad_12 (by decide) ?_
      exact bb_zret rfl (by decide) rfl dJ1_canEncode_9a6ad_16
/-- the first place from j on whose letter this is -/
def bb_ixf (b : Int32) (j : Nat) : Nat → Int32
  | 0 => -1
  | n + 1 => if ([112, 104, 117, 100, 114] : List Int32).getD j 0 = b then nI j else bb_ixf b (j + 1) n
set_option maxRecDepth 100000 in
set_option maxHeartbeats 4000000 in
theorem j_ixchar {h : bb_H} {x : Int32} : ∀ (n j : Nat), j + n = 5 → bb_J RJ1 cJ1_indexOfChar_4cfef 6 (some .int) rm_s0 (some (.int (bb_ixf x.toInt8.toInt32 j n)), h) 7 [.ref bb_qv, .int x, .int 0, .int 5, .int x.toInt8.toInt32, .int (nI j)] [] h := by
  intro n
  induction n with
  | zero =>
    intro j hj
    obtain rfl : j = 5 := (by omega)
    refine bb_iload dJ1_indexOfChar_4cfef_7 rfl ?_
    refine bb_iload_n dJ1_indexOfChar_4cfef_9 rfl ?_
    refine bb_icmp_ge (tgt := 31) dJ1_indexOfChar_4cfef_10 (by decide) (fun q => ?_) (fun q => absurd (by decide) q)
    refine bb_iconst (v := -1) dJ1_indexOfChar_4cfef_31 (by decide) ?_
    exact bb_iret rfl rfl dJ1_indexOfChar_4cfef_32
  | succ n ih =>
    intro j hj
    refine bb_iload dJ1_indexOfChar_4cfef_7 rfl ?_
    refine bb_iload_n dJ1_indexOfChar_4cfef_9 rfl ?_
    refine bb_icmp_ge (tgt := 31) dJ1_indexOfChar_4cfef_10 (by decide) (fun q => absurd q (nI_ge (b := 5) (by omega) (by decide))) (fun q => ?_)
    refine bb_aload_n dJ1_indexOfChar_4cfef_13 rfl ?_
    refine bb_iload dJ1_indexOfChar_4cfef_14 rfl ?_
    refine bb_sld (by omega) rfl dJ1_indexOfChar_4cfef_16 ?_
    refine bb_iload dJ1_indexOfChar_4cfef_17 rfl ?_
    refine bb_icmp_ne (tgt := 25) dJ1_indexOfChar_4cfef_19 (by decide) (fun q => ?_) (fun q => ?_)
    · rw [show bb_ixf x.toInt8.toInt32 j (n + 1) = bb_ixf x.toInt8.toInt32 (j + 1) n from if_neg q]
      refine bb_iinc (v := nI (j + 1)) (L' := [.ref bb_qv, .int x, .int 0, .int 5, .int x.toInt8.toInt32, .int (nI (j + 1))]) dJ1_indexOfChar_4cfef_25 rfl (nI_1 j) (by decide) rfl rfl ?_
      refine bb_goto (tgt := 7) dJ1_indexOfChar_4cfef_28 (by decide) ?_
      exact ih (j + 1) (by omega)
    · rw [show bb_ixf x.toInt8.toInt32 j (n + 1) = nI j from if_pos q]
      refine bb_iload dJ1_indexOfChar_4cfef_22 rfl ?_
      exact bb_iret rfl rfl dJ1_indexOfChar_4cfef_24
set_option maxRecDepth 100000 in
set_option maxHeartbeats 4000000 in
theorem ok_ixchar {h : bb_H} {x : Int32} : bb_Ok yJ1_indexOfChar_4cfef cJ1_indexOfChar_4cfef 6 (some .int) rm_s0 [.ref bb_qv, .int x, .int 0, .int 5] h (some (.int (bb_ixf x.toInt8.toInt32 0 5)), h) := by
  refine bb_ok (L := [.ref bb_qv, .int x, .int 0, .int 5, .null, .null]) (by decide) (Nat.le_of_ble_eq_true rfl) rfl ?_
  refine bb_iload_n dJ1_indexOfChar_4cfef_0 rfl ?_
  refine bb_i2b dJ1_indexOfChar_4cfef_1 ?_
  refine bb_istore (L' := [.ref bb_qv, .int x, .int 0, .int 5, .int x.toInt8.toInt32, .null]) dJ1_indexOfChar_4cfef_2 (by decide) rfl rfl ?_
  refine bb_iload_n dJ1_indexOfChar_4cfef_4 rfl ?_
  refine bb_istore (L' := [.ref bb_qv, .int x, .int 0, .int 5, .int x.toInt8.toInt32, .int 0]) dJ1_indexOfChar_4cfef_5 (by decide) rfl rfl ?_
  exact j_ixchar 5 0 rfl
theorem bb_kix_no {x : Int32} (h : x < 0 ∨ 255 < x) : bb_kix x = -1 := by
  have hne : ∀ k : Int32, (0 ≤ k ∧ k ≤ 255) → ¬ x = k := fun k hk e => by
    subst e
    rcases h with h | h
    · exact absurd hk.1 (Int32.not_le.mpr h)
    · exact absurd hk.2 (Int32.not_le.mpr h)
  unfold bb_kix
  rw [if_neg (hne 112 (by decide)), if_neg (hne 104 (by decide)), if_neg (hne 117 (by decide)), if_neg (hne 100 (by decide)), if_neg (hne 114 (by decide))]
theorem bb_kix_all : ∀ n, n < 256 → bb_ixf (nI n).toInt8.toInt32 0 5 = bb_kix (nI n) := by decide +kernel
theorem bb_kix_yes {x : Int32} (h : ¬ x < 0) (h2 : ¬ 255 < x) : bb_ixf x.toInt8.toInt32 0 5 = bb_kix x := by
  obtain ⟨j, hj, rfl⟩ := nI_of2 (M := 255) (n := 255) (by decide) h (Int32.not_lt.mp h2)
  exact bb_kix_all j (by omega)
set_option maxRecDepth 100000 in
set_option maxHeartbeats 4000000 in
theorem ok_lindexOf {h : bb_H} {x : Int32} : bb_Ok yJ1_indexOf_4cfef cJ1_indexOf_4cfef 4 (some .int) rm_s1 [.ref bb_qv, .int x, .int 0, .int 5] h (some (.int (bb_kix x)), h) := by
  refine bb_ok (L := [.ref bb_qv, .int x, .int 0, .int 5]) (by decide) (Nat.le_of_ble_eq_true rfl) rfl ?_
  refine bb_iload_n dJ1_indexOf_4cfef_0 rfl ?_
  refine bb_invS (as := [.int x]) ws_88 (by unfold bb_rr; decide) dJ1_indexOf_4cfef_1 rfl rfl (Nat.le_of_ble_eq_true rfl) ok_canEncode ?_
  have no : ∀ (hx : x < 0 ∨ 255 < x), bb_J RJ1 cJ1_indexOf_4cfef 4 (some .int) rm_s1 (some (.int (bb_kix x)), h) 4 [.ref bb_qv, .int x, .int 0, .int 5] [.int 0] h := fun hx => by
    rw [bb_kix_no hx]
    refine bb_if_ne (tgt := 9) dJ1_indexOf_4cfef_4 (by decide) (fun q => absurd rfl q) (fun _ => ?_)
    refine bb_iconst (v := -1) dJ1_indexOf_4cfef_7 (by decide) ?_
    exact bb_iret rfl rfl dJ1_indexOf_4cfef_8
  by_cases c1 : x < 0
  · rw [if_pos c1]
    exact no (Or.inl c1)
  · rw [if_neg c1]
    by_cases c2 : 255 < x
    · rw [if_pos c2]
      exact no (Or.inr c2)
    · rw [if_neg c2]
      refine bb_if_ne (tgt := 9) dJ1_indexOf_4cfef_4 (by decide) (fun _ => ?_) (fun q => absurd q (by decide))
      refine bb_iload_n dJ1_indexOf_4cfef_9 rfl ?_
      refine bb_iconst (v := 0) dJ1_indexOf_4cfef_10 (by decide) ?_
      refine bb_mmax ws_92 (by decide) (by decide) (Nat.le_of_ble_eq_true rfl) dJ1_indexOf_4cfef_11 ?_
      refine bb_istore_n (L' := [.ref bb_qv, .int x, .int 0, .int 5]) dJ1_indexOf_4cfef_14 (by decide) rfl rfl ?_
      refine bb_iload_n dJ1_indexOf_4cfef_15 rfl ?_
      refine bb_aload_n dJ1_indexOf_4cfef_16 rfl ?_
      refine bb_slen dJ1_indexOf_4cfef_17 ?_
      refine bb_mmin ws_m38 (by decide) (by decide) (Nat.le_of_ble_eq_true rfl) dJ1_indexOf_4cfef_18 ?_
      refine bb_istore_n (L' := [.ref bb_qv, .int x, .int 0, .int 5]) dJ1_indexOf_4cfef_21 (by decide) rfl rfl ?_
      refine bb_iload_n dJ1_indexOf_4cfef_22 rfl ?_
      refine bb_iload_n dJ1_indexOf_4cfef_23 rfl ?_
      refine bb_icmp_lt (tgt := 29) dJ1_indexOf_4cfef_24 (by decide) (fun _ => ?_) (fun q => absurd (by decide) q)
      refine bb_aload_n dJ1_indexOf_4cfef_29 rfl ?_
      refine bb_iload_n dJ1_indexOf_4cfef_30 rfl ?_
      refine bb_iload_n dJ1_indexOf_4cfef_31 rfl ?_
      refine bb_iload_n dJ1_indexOf_4cfef_32 rfl ?_
      refine bb_invS (as := [.ref bb_qv, .int x, .int 0, .int 5]) ws_95 (by unfold bb_rr; decide) dJ1_indexOf_4cfef_33 rfl rfl (Nat.le_of_ble_eq_true rfl) ok_ixchar ?_
      rw [bb_kix_yes c1 c2]
      exact bb_iret rfl rfl dJ1_indexOf_4cfef_36
set_option maxRecDepth 100000 in
set_option maxHeartbeats 4000000 in
theorem ok_indexOf2 {h : bb_H} {x : Int32} : bb_Ok yJ0_indexOf_7cf53 cJ0_indexOf_7cf53 3 (some .int) rm_s2 [.ref bb_qs, .int x, .int 0] h (some (.int (bb_kix x)), h) := by
  refine bb_ok (L := [.ref bb_qs, .int x, .int 0]) (by decide) (Nat.le_of_ble_eq_true rfl) rfl ?_
  refine bb_aload_n dJ0_indexOf_7cf53_0 rfl ?_
  refine bb_sinv (as := []) ws_492 (by unfold bb_rr; decide) dJ0_indexOf_7cf53_1 rfl rfl (Nat.le_of_ble_eq_true rfl) ok_isLatin1 ?_
  refine bb_if_eq (tgt := 23) dJ0_indexOf_7cf53_4 (by decide) (fun q => absurd q (by decide)) (fun _ => ?_)
  refine bb_aload_n dJ0_indexOf_7cf53_7 rfl ?_
  refine bb_sget ws_9 dJ0_indexOf_7cf53_8 ?_
  refine bb_iload_n dJ0_indexOf_7cf53_11 rfl ?_
  refine bb_iload_n dJ0_indexOf_7cf53_12 rfl ?_
  refine bb_aload_n dJ0_indexOf_7cf53_13 rfl ?_
  refine bb_sinv (as := []) ws_505 (by unfold bb_rr; decide) dJ0_indexOf_7cf53_14 rfl rfl (Nat.le_of_ble_eq_true rfl) ok_slength ?_
  refine bb_invS (as := [.ref bb_qv, .int x, .int 0, .int 5]) ws_637 (by unfold bb_rr; decide) dJ0_indexOf_7cf53_17 rfl rfl (Nat.le_of_ble_eq_true rfl) ok_lindexOf ?_
  refine bb_goto (tgt := 36) dJ0_indexOf_7cf53_20 (by decide) ?_
  exact bb_iret rfl rfl dJ0_indexOf_7cf53_36
set_option maxRecDepth 100000 in
set_option maxHeartbeats 4000000 in
theorem ok_indexOf1 {h : bb_H} {x : Int32} : bb_Ok yJ0_indexOf_0f7a4 cJ0_indexOf_0f7a4 2 (some .int) rm_s3 [.ref bb_qs, .int x] h (some (.int (bb_kix x)), h) := by
  refine bb_ok (L := [.ref bb_qs, .int x]) (by decide) (Nat.le_of_ble_eq_true rfl) rfl ?_
  refine bb_aload_n dJ0_indexOf_0f7a4_0 rfl ?_
  refine bb_iload_n dJ0_indexOf_0f7a4_1 rfl ?_
  refine bb_iconst (v := 0) dJ0_indexOf_0f7a4_2 (by decide) ?_
  refine bb_sinv (as := [.int x, .int 0]) ws_633 (by unfold bb_rr; decide) dJ0_indexOf_0f7a4_3 rfl rfl (Nat.le_of_ble_eq_true rfl) ok_indexOf2 ?_
  exact bb_iret rfl rfl dJ0_indexOf_0f7a4_6
def bb_iix (own : String) (ix : Nat) : Prop := bb_iv own ix "java/lang/String" yJ0_indexOf_0f7a4 cJ0_indexOf_0f7a4 2 (some .int) 1
theorem bb_indexOf {cc : ByteArray} {nL : Nat} {ret : Option FieldType} {rm : Room} {own : String} {o : Option Value × bb_H} {pc : Nat} {L st : List Value} {h : bb_H} {ix : Nat} {x : Int32} (hs : bb_iix own ix) (hf : 6 ≤ rm.frames) (hl : 150 ≤ rm.locals) (hrest : (st.map fun v => v.category).sum ≤ 8) (hd : decode cc pc = .ok (.invokevirtual ix, 3)) (k : bb_J own cc nL ret rm o (pc + 3) L (.int (bb_kix x) :: st) h) : bb_J own cc nL ret rm o pc L (.int x :: .ref bb_qs :: st) h :=
  bb_sinv (as := [.int x]) hs ⟨⟨rfl, rfl⟩, by show 3 + 1 ≤ _; omega, by show 8 + (2 + 11) + 70 ≤ _; omega⟩ hd rfl rfl hrest ok_indexOf1 k
