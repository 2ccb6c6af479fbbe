def bb_rn (n0 s0 : Nat) (rm : Room) (h : bb_H) : Option bb_H := if h.length = n0 + rm.cells ∧ bb_sz h = s0 + rm.slots then some h else none
theorem bb_rn_spec {n0 s0 : Nat} {rm : Room} {h r : bb_H} (e : bb_rn n0 s0 rm h = some r) : h.length = n0 + rm.cells ∧ bb_sz h = s0 + rm.slots ∧ r = h := by
  unfold bb_rn at e
  split at e
  · rename_i q
    cases e
    exact ⟨q.1, q.2, rfl⟩
  · cases e
abbrev rm_X0_init : Room := { frames := 1, cells := 2, slots := 12, locals := 12 }
def m_X0_init_0 (n0 s0 : Nat) (x0 : Nat) (h : bb_H) : Option bb_H :=
  (bb_al n0 s0 rm_X0_init h [.ref x0, .ref x0] [(.inl .int, List.replicate 6 (.int 0))]).bind fun g7 =>
  (bb_pR g7 x0 0 0 h.length).bind fun g9 =>
  (bb_al n0 s0 rm_X0_init g9 [.ref x0, .ref x0] [(.inl .int, List.replicate 6 (.int 0))]).bind fun g15 =>
  (bb_pR g15 x0 0 1 g9.length).bind fun g17 =>
  (bb_pI g17 x0 0 2 0).bind fun g22 =>
  (bb_pI g22 x0 0 3 0).bind fun g27 =>
  (bb_pI g27 x0 0 4 1).bind fun g32 =>
  bb_rn n0 s0 rm_X0_init g32
def m_X0_init (x0 : Nat) (h : bb_H) : Option bb_H := if h.length ≤ 1000 then m_X0_init_0 h.length (bb_sz h) x0 h else none
abbrev rm_X2_init : Room := { frames := 1, cells := 2, slots := 12, locals := 12 }
def m_X2_init_0 (n0 s0 : Nat) (x0 : Nat) (h : bb_H) : Option bb_H :=
  (bb_al n0 s0 rm_X2_init h [.ref x0, .ref x0] [(.inl .int, List.replicate 6 (.int 0))]).bind fun g7 =>
  (bb_pR g7 x0 2 0 h.length).bind fun g9 =>
  (bb_al n0 s0 rm_X2_init g9 [.ref x0, .ref x0] [(.inl .int, List.replicate 6 (.int 0))]).bind fun g15 =>
  (bb_pR g15 x0 2 1 g9.length).bind fun g17 =>
  (bb_pI g17 x0 2 2 0).bind fun g22 =>
  bb_rn n0 s0 rm_X2_init g22
def m_X2_init (x0 : Nat) (h : bb_H) : Option bb_H := if h.length ≤ 1000 then m_X2_init_0 h.length (bb_sz h) x0 h else none
abbrev rm_X3_init : Room := { frames := 1, cells := 6, slots := 33, locals := 12 }
def m_X3_init_0 (n0 s0 : Nat) (x0 : Nat) (h : bb_H) : Option bb_H :=
  (bb_pI h x0 3 0 0).bind fun g6 =>
  (bb_al n0 s0 rm_X3_init g6 [.ref x0, .ref x0] [(.inl .int, List.replicate 6 (.int 0))]).bind fun g12 =>
  (bb_pR g12 x0 3 1 g6.length).bind fun g14 =>
  (bb_al n0 s0 rm_X3_init g14 [.ref x0, .ref x0] (bb_g36 g14.length)).bind fun g21 =>
  (bb_pR g21 x0 3 2 g14.length).bind fun g25 =>
  (bb_al n0 s0 rm_X3_init g25 [.ref x0, .ref x0] [(.inl .int, List.replicate 6 (.int 0))]).bind fun g31 =>
  (bb_pR g31 x0 3 3 g25.length).bind fun g33 =>
  bb_rn n0 s0 rm_X3_init g33
def m_X3_init (x0 : Nat) (h : bb_H) : Option bb_H := if h.length ≤ 1000 then m_X3_init_0 h.length (bb_sz h) x0 h else none
abbrev rm_X4_init : Room := { frames := 1, cells := 1, slots := 24, locals := 12 }
def m_X4_init_0 (n0 s0 : Nat) (x0 : Nat) (h : bb_H) : Option bb_H :=
  (bb_pZ h x0 4 0 0).bind fun g6 =>
  (bb_pI g6 x0 4 1 0).bind fun g11 =>
  (bb_pI g11 x0 4 2 0).bind fun g16 =>
  (bb_al n0 s0 rm_X4_init g16 [.ref x0, .ref x0] [(.inl .long, List.replicate 24 (.long 0))]).bind fun g22 =>
  (bb_pR g22 x0 4 3 g16.length).bind fun g24 =>
  bb_rn n0 s0 rm_X4_init g24
def m_X4_init (x0 : Nat) (h : bb_H) : Option bb_H := if h.length ≤ 1000 then m_X4_init_0 h.length (bb_sz h) x0 h else none
abbrev rm_X1_init : Room := { frames := 2, cells := 25, slots := 144, locals := 32 }
def m_X1_init_25 (n0 s0 : Nat) : Nat → Nat → Int32 → bb_H → Option bb_H
  | 0, _, _, _ => none
  | n + 1, x0, x1, h =>
    if 8 ≤ x1 then
      bb_rn n0 s0 rm_X1_init h
    else
    (bb_gR h x0 1 0).bind fun t32 =>
    (bb_al n0 s0 rm_X1_init h [.ref x0, .int x1, .int x1, .ref t32] [(.inr 0, [.null, .null, .int 0, .int 0, .int 0])]).bind fun g36 =>
    (m_X0_init h.length g36).bind fun e40 =>
    (bb_cck n0 s0 rm_X1_init rm_X0_init g36 [.ref x0, .int x1, .ref h.length, .int x1, .ref t32] e40).bind fun g40 =>
    (bb_rcv g40 h.length 0 (bb_sV g40 t32 (.object "BattleBench$Bench") x1 (.ref h.length))).bind fun g43 =>
    m_X1_init_25 n0 s0 n x0 (x1 + 1) g43
def m_X1_init_0 (n0 s0 : Nat) (x0 : Nat) (h : bb_H) : Option bb_H :=
  (bb_al n0 s0 rm_X1_init h [.ref x0, .null, .ref x0] [(.inl (.object "BattleBench$Bench"), List.replicate 8 .null)]).bind fun g7 =>
  (bb_pR g7 x0 1 0 h.length).bind fun g10 =>
  (bb_pI g10 x0 1 1 0).bind fun g15 =>
  (bb_pI g15 x0 1 2 0).bind fun g20 =>
  m_X1_init_25 n0 s0 1000 x0 0 g20
def m_X1_init (x0 : Nat) (h : bb_H) : Option bb_H := if h.length ≤ 1000 then m_X1_init_0 h.length (bb_sz h) x0 h else none
abbrev rm_X5_init : Room := { frames := 3, cells := 36, slots := 201, locals := 53 }
def m_X5_init_0 (n0 s0 : Nat) (x0 : Nat) (h : bb_H) : Option bb_H :=
  (bb_al n0 s0 rm_X5_init h [.ref x0, .ref x0] [(.inr 3, [.int 0, .null, .null, .null])]).bind fun g5 =>
  (m_X3_init h.length g5).bind fun e9 =>
  (bb_cck n0 s0 rm_X5_init rm_X3_init g5 [.ref x0, .ref h.length, .ref x0] e9).bind fun g9 =>
  (bb_pR g9 x0 5 0 h.length).bind fun g12 =>
  (bb_al n0 s0 rm_X5_init g12 [.ref x0, .ref x0] [(.inr 0, [.null, .null, .int 0, .int 0, .int 0])]).bind fun g16 =>
  (m_X0_init g12.length g16).bind fun e20 =>
  (bb_cck n0 s0 rm_X5_init rm_X0_init g16 [.ref x0, .ref g12.length, .ref x0] e20).bind fun g20 =>
  (bb_pR g20 x0 5 1 g12.length).bind fun g23 =>
  (bb_al n0 s0 rm_X5_init g23 [.ref x0, .ref x0] [(.inr 1, [.null, .int 0, .int 0])]).bind fun g27 =>
  (m_X1_init g23.length g27).bind fun e31 =>
  (bb_cck n0 s0 rm_X5_init rm_X1_init g27 [.ref x0, .ref g23.length, .ref x0] e31).bind fun g31 =>
  (bb_pR g31 x0 5 2 g23.length).bind fun g34 =>
  bb_rn n0 s0 rm_X5_init g34
def m_X5_init (x0 : Nat) (h : bb_H) : Option bb_H := if h.length ≤ 1000 then m_X5_init_0 h.length (bb_sz h) x0 h else none
abbrev rm_X6_init : Room := { frames := 2, cells := 9, slots := 113, locals := 32 }
def m_X6_init_0 (n0 s0 : Nat) (x0 : Nat) (h : bb_H) : Option bb_H :=
  (bb_al n0 s0 rm_X6_init h [.ref x0, .ref x0] [(.inl .char, List.replicate 70 (.int 0))]).bind fun g7 =>
  (bb_pR g7 x0 6 0 h.length).bind fun g9 =>
  (bb_pI g9 x0 6 1 0).bind fun g14 =>
  (bb_al n0 s0 rm_X6_init g14 [.ref x0, .ref x0] [(.inr 3, [.int 0, .null, .null, .null])]).bind fun g18 =>
  (m_X3_init g14.length g18).bind fun e22 =>
  (bb_cck n0 s0 rm_X6_init rm_X3_init g18 [.ref x0, .ref g14.length, .ref x0] e22).bind fun g22 =>
  (bb_pR g22 x0 6 2 g14.length).bind fun g25 =>
  (bb_al n0 s0 rm_X6_init g25 [.ref x0, .ref x0] [(.inl .int, List.replicate 6 (.int 0))]).bind fun g31 =>
  (bb_pR g31 x0 6 3 g25.length).bind fun g33 =>
  (bb_pI g33 x0 6 4 0).bind fun g38 =>
  (bb_pI g38 x0 6 5 0).bind fun g43 =>
  bb_rn n0 s0 rm_X6_init g43
def m_X6_init (x0 : Nat) (h : bb_H) : Option bb_H := if h.length ≤ 1000 then m_X6_init_0 h.length (bb_sz h) x0 h else none
abbrev rm_X7_init : Room := { frames := 4, cells := 107, slots := 718, locals := 73 }
def m_X7_init_93 (n0 s0 : Nat) : Nat → Nat → Int32 → bb_H → Option bb_H
  | 0, _, _, _ => none
  | n + 1, x0, x1, h =>
    if 4 ≤ x1 then
      bb_rn n0 s0 rm_X7_init h
    else
    (bb_gR h x0 7 4).bind fun t99 =>
    (bb_al n0 s0 rm_X7_init h [.ref x0, .int x1, .int x1, .ref t99] [(.inr 4, [.int 0, .int 0, .int 0, .null])]).bind fun g103 =>
    (m_X4_init h.length g103).bind fun e107 =>
    (bb_cck n0 s0 rm_X7_init rm_X4_init g103 [.ref x0, .int x1, .ref h.length, .int x1, .ref t99] e107).bind fun g107 =>
    (bb_rcv g107 h.length 4 (bb_sV g107 t99 (.object "BattleBench$Sheet") x1 (.ref h.length))).bind fun g110 =>
    m_X7_init_93 n0 s0 n x0 (x1 + 1) g110
def m_X7_init_0 (n0 s0 : Nat) (x0 : Nat) (h : bb_H) : Option bb_H :=
  (bb_al n0 s0 rm_X7_init h [.ref x0, .null, .ref x0] [(.inr 5, [.null, .null, .null])]).bind fun g5 =>
  (m_X5_init h.length g5).bind fun e9 =>
  (bb_cck n0 s0 rm_X7_init rm_X5_init g5 [.ref x0, .null, .ref h.length, .ref x0] e9).bind fun g9 =>
  (bb_pR g9 x0 7 0 h.length).bind fun g12 =>
  (bb_al n0 s0 rm_X7_init g12 [.ref x0, .null, .ref x0] [(.inr 5, [.null, .null, .null])]).bind fun g16 =>
  (m_X5_init g12.length g16).bind fun e20 =>
  (bb_cck n0 s0 rm_X7_init rm_X5_init g16 [.ref x0, .null, .ref g12.length, .ref x0] e20).bind fun g20 =>
  (bb_pR g20 x0 7 1 g12.length).bind fun g23 =>
  (bb_pZ g23 x0 7 2 0).bind fun g28 =>
  (bb_al n0 s0 rm_X7_init g28 [.ref x0, .null, .ref x0] [(.inr 6, [.null, .int 0, .null, .null, .int 0, .int 0])]).bind fun g32 =>
  (m_X6_init g28.length g32).bind fun e36 =>
  (bb_cck n0 s0 rm_X7_init rm_X6_init g32 [.ref x0, .null, .ref g28.length, .ref x0] e36).bind fun g36 =>
  (bb_pR g36 x0 7 3 g28.length).bind fun g39 =>
  (bb_al n0 s0 rm_X7_init g39 [.ref x0, .null, .ref x0] [(.inl (.object "BattleBench$Sheet"), List.replicate 4 .null)]).bind fun g44 =>
  (bb_pR g44 x0 7 4 g39.length).bind fun g47 =>
  (bb_al n0 s0 rm_X7_init g47 [.ref x0, .null, .ref x0] [(.inr 0, [.null, .null, .int 0, .int 0, .int 0])]).bind fun g51 =>
  (m_X0_init g47.length g51).bind fun e55 =>
  (bb_cck n0 s0 rm_X7_init rm_X0_init g51 [.ref x0, .null, .ref g47.length, .ref x0] e55).bind fun g55 =>
  (bb_pR g55 x0 7 5 g47.length).bind fun g58 =>
  (bb_al n0 s0 rm_X7_init g58 [.ref x0, .null, .ref x0] [(.inr 3, [.int 0, .null, .null, .null])]).bind fun g62 =>
  (m_X3_init g58.length g62).bind fun e66 =>
  (bb_cck n0 s0 rm_X7_init rm_X3_init g62 [.ref x0, .null, .ref g58.length, .ref x0] e66).bind fun g66 =>
  (bb_pR g66 x0 7 6 g58.length).bind fun g69 =>
  (bb_al n0 s0 rm_X7_init g69 [.ref x0, .null, .ref x0] [(.inr 2, [.null, .null, .int 0])]).bind fun g73 =>
  (m_X2_init g69.length g73).bind fun e77 =>
  (bb_cck n0 s0 rm_X7_init rm_X2_init g73 [.ref x0, .null, .ref g69.length, .ref x0] e77).bind fun g77 =>
  (bb_pR g77 x0 7 7 g69.length).bind fun g80 =>
  (bb_al n0 s0 rm_X7_init g80 [.ref x0, .null, .ref x0] [(.inl .int, List.replicate 6 (.int 0))]).bind fun g86 =>
  (bb_pR g86 x0 7 8 g80.length).bind fun g88 =>
  m_X7_init_93 n0 s0 1000 x0 0 g88
def m_X7_init (x0 : Nat) (h : bb_H) : Option bb_H := if h.length ≤ 1000 then m_X7_init_0 h.length (bb_sz h) x0 h else none
abbrev rm_X8_init : Room := { frames := 1, cells := 11, slots := 646, locals := 12 }
def m_X8_init_101 (n0 s0 : Nat) : Nat → Nat → Int32 → bb_H → Option bb_H
  | 0, _, _, _ => none
  | n + 1, x0, x1, h =>
    if 4 ≤ x1 then
      bb_rn n0 s0 rm_X8_init h
    else
    (bb_gR h x0 8 9).bind fun t107 =>
    (bb_sV h t107 .int x1 (.int (-1))).bind fun g112 =>
    m_X8_init_101 n0 s0 n x0 (x1 + 1) g112
def m_X8_init_0 (n0 s0 : Nat) (x0 : Nat) (h : bb_H) : Option bb_H :=
  (bb_al n0 s0 rm_X8_init h [.ref x0, .null, .ref x0] [(.inl .int, List.replicate 161 (.int 0))]).bind fun g8 =>
  (bb_pR g8 x0 8 0 h.length).bind fun g10 =>
  (bb_al n0 s0 rm_X8_init g10 [.ref x0, .null, .ref x0] [(.inl .int, List.replicate 161 (.int 0))]).bind fun g17 =>
  (bb_pR g17 x0 8 1 g10.length).bind fun g19 =>
  (bb_al n0 s0 rm_X8_init g19 [.ref x0, .null, .ref x0] [(.inl .int, List.replicate 70 (.int 0))]).bind fun g25 =>
  (bb_pR g25 x0 8 3 g19.length).bind fun g27 =>
  (bb_al n0 s0 rm_X8_init g27 [.ref x0, .null, .ref x0] [(.inl .int, List.replicate 40 (.int 0))]).bind fun g33 =>
  (bb_pR g33 x0 8 5 g27.length).bind fun g35 =>
  (bb_al n0 s0 rm_X8_init g35 [.ref x0, .null, .ref x0] [(.inl .long, List.replicate 96 (.long 0))]).bind fun g41 =>
  (bb_pR g41 x0 8 7 g35.length).bind fun g43 =>
  (bb_al n0 s0 rm_X8_init g43 [.ref x0, .null, .ref x0] [(.inl .long, List.replicate 24 (.long 0))]).bind fun g49 =>
  (bb_pR g49 x0 8 8 g43.length).bind fun g51 =>
  (bb_al n0 s0 rm_X8_init g51 [.ref x0, .null, .ref x0] [(.inl .int, List.replicate 4 (.int 0))]).bind fun g56 =>
  (bb_pR g56 x0 8 9 g51.length).bind fun g58 =>
  (bb_al n0 s0 rm_X8_init g58 [.ref x0, .null, .ref x0] [(.inl .int, List.replicate 4 (.int 0))]).bind fun g63 =>
  (bb_pR g63 x0 8 10 g58.length).bind fun g65 =>
  (bb_al n0 s0 rm_X8_init g65 [.ref x0, .null, .ref x0] [(.inl .int, List.replicate 6 (.int 0))]).bind fun g71 =>
  (bb_pR g71 x0 8 11 g65.length).bind fun g73 =>
  (bb_al n0 s0 rm_X8_init g73 [.ref x0, .null, .ref x0] [(.inl .int, List.replicate 40 (.int 0))]).bind fun g79 =>
  (bb_pR g79 x0 8 12 g73.length).bind fun g81 =>
  (bb_al n0 s0 rm_X8_init g81 [.ref x0, .null, .ref x0] [(.inl .int, List.replicate 40 (.int 0))]).bind fun g87 =>
  (bb_pR g87 x0 8 13 g81.length).bind fun g89 =>
  (bb_gR g89 x0 8 0).bind fun t93 =>
  (bb_sV g89 t93 .int 3 (.int 1)).bind fun g98 =>
  m_X8_init_101 n0 s0 1000 x0 0 g98
def m_X8_init (x0 : Nat) (h : bb_H) : Option bb_H := if h.length ≤ 1000 then m_X8_init_0 h.length (bb_sz h) x0 h else none
theorem io_X0_3 : bb_io RX0 3 := by unfold bb_io; decide +kernel
theorem aa_int : Cond.arrayClass (newarray.typeOf .int) ∈ bb_good := by decide +kernel
theorem fli_X0_9 : bb_fl RX0 9 0 0 := ⟨RX0, TX0, 5, rfl, by decide, bb_u0, by decide +kernel⟩
theorem ff_X0_9 : bb_fF RX0 9 0 0 := ⟨RX0, TX0, 5, tyX0, rfl, by decide, bb_u0, by decide +kernel, tyX0_ok, nmX0, rfl, rfl, fun _ => ⟨rfl, rfl⟩⟩
theorem fli_X0_15 : bb_fl RX0 15 0 1 := ⟨RX0, TX0, 5, rfl, by decide, bb_u0, by decide +kernel⟩
theorem ff_X0_15 : bb_fF RX0 15 0 1 := ⟨RX0, TX0, 5, tyX0, rfl, by decide, bb_u0, by decide +kernel, tyX0_ok, nmX0, rfl, rfl, fun _ => ⟨rfl, rfl⟩⟩
theorem fli_X0_18 : bb_fl RX0 18 0 2 := ⟨RX0, TX0, 5, rfl, by decide, bb_u0, by decide +kernel⟩
theorem fpi_X0_18 : bb_fp RX0 18 0 2 .int := ⟨RX0, TX0, 5, tyX0, rfl, by decide, bb_u0, by decide +kernel, tyX0_ok, nmX0, rfl, rfl⟩
theorem fli_X0_22 : bb_fl RX0 22 0 3 := ⟨RX0, TX0, 5, rfl, by decide, bb_u0, by decide +kernel⟩
theorem fpi_X0_22 : bb_fp RX0 22 0 3 .int := ⟨RX0, TX0, 5, tyX0, rfl, by decide, bb_u0, by decide +kernel, tyX0_ok, nmX0, rfl, rfl⟩
theorem fli_X0_25 : bb_fl RX0 25 0 4 := ⟨RX0, TX0, 5, rfl, by decide, bb_u0, by decide +kernel⟩
theorem fpi_X0_25 : bb_fp RX0 25 0 4 .int := ⟨RX0, TX0, 5, tyX0, rfl, by decide, bb_u0, by decide +kernel, tyX0_ok, nmX0, rfl, rfl⟩
theorem io_X2_3 : bb_io RX2 3 := by unfold bb_io; decide +kernel
theorem fli_X2_9 : bb_fl RX2 9 2 0 := ⟨RX2, TX2, 3, rfl, by decide, bb_u2, by decide +kernel⟩
theorem ff_X2_9 : bb_fF RX2 9 2 0 := ⟨RX2, TX2, 3, tyX2, rfl, by decide, bb_u2, by decide +kernel, tyX2_ok, nmX2, rfl, rfl, fun _ => ⟨rfl, rfl⟩⟩
theorem fli_X2_15 : bb_fl RX2 15 2 1 := ⟨RX2, TX2, 3, rfl, by decide, bb_u2, by decide +kernel⟩
theorem ff_X2_15 : bb_fF RX2 15 2 1 := ⟨RX2, TX2, 3, tyX2, rfl, by decide, bb_u2, by decide +kernel, tyX2_ok, nmX2, rfl, rfl, fun _ => ⟨rfl, rfl⟩⟩
theorem fli_X2_18 : bb_fl RX2 18 2 2 := ⟨RX2, TX2, 3, rfl, by decide, bb_u2, by decide +kernel⟩
theorem fpi_X2_18 : bb_fp RX2 18 2 2 .int := ⟨RX2, TX2, 3, tyX2, rfl, by decide, bb_u2, by decide +kernel, tyX2_ok, nmX2, rfl, rfl⟩
theorem io_X3_3 : bb_io RX3 3 := by unfold bb_io; decide +kernel
theorem fli_X3_9 : bb_fl RX3 9 3 0 := ⟨RX3, TX3, 4, rfl, by decide, bb_u3, by decide +kernel⟩
theorem fpi_X3_9 : bb_fp RX3 9 3 0 .int := ⟨RX3, TX3, 4, tyX3, rfl, by decide, bb_u3, by decide +kernel, tyX3_ok, nmX3, rfl, rfl⟩
theorem fli_X3_15 : bb_fl RX3 15 3 1 := ⟨RX3, TX3, 4, rfl, by decide, bb_u3, by decide +kernel⟩
theorem ff_X3_15 : bb_fF RX3 15 3 1 := ⟨RX3, TX3, 4, tyX3, rfl, by decide, bb_u3, by decide +kernel, tyX3_ok, nmX3, rfl, rfl, fun _ => ⟨rfl, rfl⟩⟩
theorem cl_X3_19 : Cond.classLink RX3 19 "[[I" ∈ bb_good := by decide +kernel
theorem fli_X3_21 : bb_fl RX3 21 3 2 := ⟨RX3, TX3, 4, rfl, by decide, bb_u3, by decide +kernel⟩
theorem ff_X3_21 : bb_fF RX3 21 3 2 := ⟨RX3, TX3, 4, tyX3, rfl, by decide, bb_u3, by decide +kernel, tyX3_ok, nmX3, rfl, rfl, fun _ => ⟨rfl, rfl⟩⟩
theorem fli_X3_24 : bb_fl RX3 24 3 3 := ⟨RX3, TX3, 4, rfl, by decide, bb_u3, by decide +kernel⟩
theorem ff_X3_24 : bb_fF RX3 24 3 3 := ⟨RX3, TX3, 4, tyX3, rfl, by decide, bb_u3, by decide +kernel, tyX3_ok, nmX3, rfl, rfl, fun _ => ⟨rfl, rfl⟩⟩
theorem io_X4_3 : bb_io RX4 3 := by unfold bb_io; decide +kernel
theorem fli_X4_9 : bb_fl RX4 9 4 0 := ⟨RX4, TX4, 4, rfl, by decide, bb_u4, by decide +kernel⟩
theorem fpi_X4_9 : bb_fp RX4 9 4 0 .boolean := ⟨RX4, TX4, 4, tyX4, rfl, by decide, bb_u4, by decide +kernel, tyX4_ok, nmX4, rfl, rfl⟩
theorem fli_X4_15 : bb_fl RX4 15 4 1 := ⟨RX4, TX4, 4, rfl, by decide, bb_u4, by decide +kernel⟩
theorem fpi_X4_15 : bb_fp RX4 15 4 1 .int := ⟨RX4, TX4, 4, tyX4, rfl, by decide, bb_u4, by decide +kernel, tyX4_ok, nmX4, rfl, rfl⟩
theorem fli_X4_19 : bb_fl RX4 19 4 2 := ⟨RX4, TX4, 4, rfl, by decide, bb_u4, by decide +kernel⟩
theorem fpi_X4_19 : bb_fp RX4 19 4 2 .int := ⟨RX4, TX4, 4, tyX4, rfl, by decide, bb_u4, by decide +kernel, tyX4_ok, nmX4, rfl, rfl⟩
theorem aa_long : Cond.arrayClass (newarray.typeOf .long) ∈ bb_good := by decide +kernel
theorem fli_X4_22 : bb_fl RX4 22 4 3 := ⟨RX4, TX4, 4, rfl, by decide, bb_u4, by decide +kernel⟩
theorem ff_X4_22 : bb_fF RX4 22 4 3 := ⟨RX4, TX4, 4, tyX4, rfl, by decide, bb_u4, by decide +kernel, tyX4_ok, nmX4, rfl, rfl, fun _ => ⟨rfl, rfl⟩⟩
theorem fli_X1_11 : bb_fl RX1 11 1 0 := ⟨RX1, TX1, 3, rfl, by decide, bb_u1, by decide +kernel⟩
theorem nw_X1_9 : bb_inw RX1 9 0 [.null, .null, .int 0, .int 0, .int 0] := ⟨RX0, TX0, 5, tyX0, rfl, bb_u0, tyX0_ok, by decide +kernel, by decide, rfl, fun _ => rfl⟩
theorem ic_X1_24 : bb_ic RX1 24 yX0_init cX0_init 1 := by unfold bb_ic; decide +kernel
theorem io_X1_3 : bb_io RX1 3 := by unfold bb_io; decide +kernel
theorem cl_X1_9 : Cond.classLink RX1 9 "BattleBench$Bench" ∈ bb_good := by decide +kernel
theorem ff_X1_11 : bb_fF RX1 11 1 0 := ⟨RX1, TX1, 3, tyX1, rfl, by decide, bb_u1, by decide +kernel, tyX1_ok, nmX1, rfl, rfl, fun _ => ⟨rfl, rfl⟩⟩
theorem fli_X1_17 : bb_fl RX1 17 1 1 := ⟨RX1, TX1, 3, rfl, by decide, bb_u1, by decide +kernel⟩
theorem fpi_X1_17 : bb_fp RX1 17 1 1 .int := ⟨RX1, TX1, 3, tyX1, rfl, by decide, bb_u1, by decide +kernel, tyX1_ok, nmX1, rfl, rfl⟩
theorem fli_X1_21 : bb_fl RX1 21 1 2 := ⟨RX1, TX1, 3, rfl, by decide, bb_u1, by decide +kernel⟩
theorem fpi_X1_21 : bb_fp RX1 21 1 2 .int := ⟨RX1, TX1, 3, tyX1, rfl, by decide, bb_u1, by decide +kernel, tyX1_ok, nmX1, rfl, rfl⟩
theorem io_X5_1 : bb_io RX5 1 := by unfold bb_io; decide +kernel
theorem nw_X5_7 : bb_inw RX5 7 3 [.int 0, .null, .null, .null] := ⟨RX3, TX3, 4, tyX3, rfl, bb_u3, tyX3_ok, by decide +kernel, by decide, rfl, fun _ => rfl⟩
theorem ic_X5_9 : bb_ic RX5 9 yX3_init cX3_init 1 := by unfold bb_ic; decide +kernel
theorem fli_X5_10 : bb_fl RX5 10 5 0 := ⟨RX5, TX5, 3, rfl, by decide, bb_u5, by decide +kernel⟩
theorem ff_X5_10 : bb_fF RX5 10 5 0 := ⟨RX5, TX5, 3, tyX5, rfl, by decide, bb_u5, by decide +kernel, tyX5_ok, nmX5, rfl, rfl, fun _ => ⟨rfl, rfl⟩⟩
theorem nw_X5_16 : bb_inw RX5 16 0 [.null, .null, .int 0, .int 0, .int 0] := ⟨RX0, TX0, 5, tyX0, rfl, bb_u0, tyX0_ok, by decide +kernel, by decide, rfl, fun _ => rfl⟩
theorem ic_X5_18 : bb_ic RX5 18 yX0_init cX0_init 1 := by unfold bb_ic; decide +kernel
theorem fli_X5_19 : bb_fl RX5 19 5 1 := ⟨RX5, TX5, 3, rfl, by decide, bb_u5, by decide +kernel⟩
theorem ff_X5_19 : bb_fF RX5 19 5 1 := ⟨RX5, TX5, 3, tyX5, rfl, by decide, bb_u5, by decide +kernel, tyX5_ok, nmX5, rfl, rfl, fun _ => ⟨rfl, rfl⟩⟩
theorem nw_X5_23 : bb_inw RX5 23 1 [.null, .int 0, .int 0] := ⟨RX1, TX1, 3, tyX1, rfl, bb_u1, tyX1_ok, by decide +kernel, by decide, rfl, fun _ => rfl⟩
theorem ic_X5_25 : bb_ic RX5 25 yX1_init cX1_init 2 := by unfold bb_ic; decide +kernel
theorem fli_X5_26 : bb_fl RX5 26 5 2 := ⟨RX5, TX5, 3, rfl, by decide, bb_u5, by decide +kernel⟩
theorem ff_X5_26 : bb_fF RX5 26 5 2 := ⟨RX5, TX5, 3, tyX5, rfl, by decide, bb_u5, by decide +kernel, tyX5_ok, nmX5, rfl, rfl, fun _ => ⟨rfl, rfl⟩⟩
theorem io_X6_3 : bb_io RX6 3 := by unfold bb_io; decide +kernel
theorem aa_char : Cond.arrayClass (newarray.typeOf .char) ∈ bb_good := by decide +kernel
theorem fli_X6_9 : bb_fl RX6 9 6 0 := ⟨RX6, TX6, 6, rfl, by decide, bb_u6, by decide +kernel⟩
theorem ff_X6_9 : bb_fF RX6 9 6 0 := ⟨RX6, TX6, 6, tyX6, rfl, by decide, bb_u6, by decide +kernel, tyX6_ok, nmX6, rfl, rfl, fun _ => ⟨rfl, rfl⟩⟩
theorem fli_X6_15 : bb_fl RX6 15 6 1 := ⟨RX6, TX6, 6, rfl, by decide, bb_u6, by decide +kernel⟩
theorem fpi_X6_15 : bb_fp RX6 15 6 1 .int := ⟨RX6, TX6, 6, tyX6, rfl, by decide, bb_u6, by decide +kernel, tyX6_ok, nmX6, rfl, rfl⟩
theorem nw_X6_19 : bb_inw RX6 19 3 [.int 0, .null, .null, .null] := ⟨RX3, TX3, 4, tyX3, rfl, bb_u3, tyX3_ok, by decide +kernel, by decide, rfl, fun _ => rfl⟩
theorem ic_X6_21 : bb_ic RX6 21 yX3_init cX3_init 1 := by unfold bb_ic; decide +kernel
theorem fli_X6_22 : bb_fl RX6 22 6 2 := ⟨RX6, TX6, 6, rfl, by decide, bb_u6, by decide +kernel⟩
theorem ff_X6_22 : bb_fF RX6 22 6 2 := ⟨RX6, TX6, 6, tyX6, rfl, by decide, bb_u6, by decide +kernel, tyX6_ok, nmX6, rfl, rfl, fun _ => ⟨rfl, rfl⟩⟩
theorem fli_X6_26 : bb_fl RX6 26 6 3 := ⟨RX6, TX6, 6, rfl, by decide, bb_u6, by decide +kernel⟩
theorem ff_X6_26 : bb_fF RX6 26 6 3 := ⟨RX6, TX6, 6, tyX6, rfl, by decide, bb_u6, by decide +kernel, tyX6_ok, nmX6, rfl, rfl, fun _ => ⟨rfl, rfl⟩⟩
theorem fli_X6_30 : bb_fl RX6 30 6 4 := ⟨RX6, TX6, 6, rfl, by decide, bb_u6, by decide +kernel⟩
theorem fpi_X6_30 : bb_fp RX6 30 6 4 .int := ⟨RX6, TX6, 6, tyX6, rfl, by decide, bb_u6, by decide +kernel, tyX6_ok, nmX6, rfl, rfl⟩
theorem fli_X6_33 : bb_fl RX6 33 6 5 := ⟨RX6, TX6, 6, rfl, by decide, bb_u6, by decide +kernel⟩
theorem fpi_X6_33 : bb_fp RX6 33 6 5 .int := ⟨RX6, TX6, 6, tyX6, rfl, by decide, bb_u6, by decide +kernel, tyX6_ok, nmX6, rfl, rfl⟩
theorem fli_X7_32 : bb_fl RX7 32 7 4 := ⟨RX7, TX7, 9, rfl, by decide, bb_u7, by decide +kernel⟩
theorem nw_X7_30 : bb_inw RX7 30 4 [.int 0, .int 0, .int 0, .null] := ⟨RX4, TX4, 4, tyX4, rfl, bb_u4, tyX4_ok, by decide +kernel, by decide, rfl, fun _ => rfl⟩
theorem ic_X7_61 : bb_ic RX7 61 yX4_init cX4_init 1 := by unfold bb_ic; decide +kernel
theorem io_X7_3 : bb_io RX7 3 := by unfold bb_io; decide +kernel
theorem nw_X7_9 : bb_inw RX7 9 5 [.null, .null, .null] := ⟨RX5, TX5, 3, tyX5, rfl, bb_u5, tyX5_ok, by decide +kernel, by decide, rfl, fun _ => rfl⟩
theorem ic_X7_11 : bb_ic RX7 11 yX5_init cX5_init 1 := by unfold bb_ic; decide +kernel
theorem fli_X7_12 : bb_fl RX7 12 7 0 := ⟨RX7, TX7, 9, rfl, by decide, bb_u7, by decide +kernel⟩
theorem ff_X7_12 : bb_fF RX7 12 7 0 := ⟨RX7, TX7, 9, tyX7, rfl, by decide, bb_u7, by decide +kernel, tyX7_ok, nmX7, rfl, rfl, fun _ => ⟨rfl, rfl⟩⟩
theorem fli_X7_16 : bb_fl RX7 16 7 1 := ⟨RX7, TX7, 9, rfl, by decide, bb_u7, by decide +kernel⟩
theorem ff_X7_16 : bb_fF RX7 16 7 1 := ⟨RX7, TX7, 9, tyX7, rfl, by decide, bb_u7, by decide +kernel, tyX7_ok, nmX7, rfl, rfl, fun _ => ⟨rfl, rfl⟩⟩
theorem fli_X7_19 : bb_fl RX7 19 7 2 := ⟨RX7, TX7, 9, rfl, by decide, bb_u7, by decide +kernel⟩
theorem fpi_X7_19 : bb_fp RX7 19 7 2 .boolean := ⟨RX7, TX7, 9, tyX7, rfl, by decide, bb_u7, by decide +kernel, tyX7_ok, nmX7, rfl, rfl⟩
theorem nw_X7_23 : bb_inw RX7 23 6 [.null, .int 0, .null, .null, .int 0, .int 0] := ⟨RX6, TX6, 6, tyX6, rfl, bb_u6, tyX6_ok, by decide +kernel, by decide, rfl, fun _ => rfl⟩
theorem ic_X7_25 : bb_ic RX7 25 yX6_init cX6_init 1 := by unfold bb_ic; decide +kernel
theorem fli_X7_26 : bb_fl RX7 26 7 3 := ⟨RX7, TX7, 9, rfl, by decide, bb_u7, by decide +kernel⟩
theorem ff_X7_26 : bb_fF RX7 26 7 3 := ⟨RX7, TX7, 9, tyX7, rfl, by decide, bb_u7, by decide +kernel, tyX7_ok, nmX7, rfl, rfl, fun _ => ⟨rfl, rfl⟩⟩
theorem cl_X7_30 : Cond.classLink RX7 30 "BattleBench$Sheet" ∈ bb_good := by decide +kernel
theorem ff_X7_32 : bb_fF RX7 32 7 4 := ⟨RX7, TX7, 9, tyX7, rfl, by decide, bb_u7, by decide +kernel, tyX7_ok, nmX7, rfl, rfl, fun _ => ⟨rfl, rfl⟩⟩
theorem nw_X7_36 : bb_inw RX7 36 0 [.null, .null, .int 0, .int 0, .int 0] := ⟨RX0, TX0, 5, tyX0, rfl, bb_u0, tyX0_ok, by decide +kernel, by decide, rfl, fun _ => rfl⟩
theorem ic_X7_38 : bb_ic RX7 38 yX0_init cX0_init 1 := by unfold bb_ic; decide +kernel
theorem fli_X7_39 : bb_fl RX7 39 7 5 := ⟨RX7, TX7, 9, rfl, by decide, bb_u7, by decide +kernel⟩
theorem ff_X7_39 : bb_fF RX7 39 7 5 := ⟨RX7, TX7, 9, tyX7, rfl, by decide, bb_u7, by decide +kernel, tyX7_ok, nmX7, rfl, rfl, fun _ => ⟨rfl, rfl⟩⟩
theorem nw_X7_43 : bb_inw RX7 43 3 [.int 0, .null, .null, .null] := ⟨RX3, TX3, 4, tyX3, rfl, bb_u3, tyX3_ok, by decide +kernel, by decide, rfl, fun _ => rfl⟩
theorem ic_X7_45 : bb_ic RX7 45 yX3_init cX3_init 1 := by unfold bb_ic; decide +kernel
theorem fli_X7_46 : bb_fl RX7 46 7 6 := ⟨RX7, TX7, 9, rfl, by decide, bb_u7, by decide +kernel⟩
theorem ff_X7_46 : bb_fF RX7 46 7 6 := ⟨RX7, TX7, 9, tyX7, rfl, by decide, bb_u7, by decide +kernel, tyX7_ok, nmX7, rfl, rfl, fun _ => ⟨rfl, rfl⟩⟩
theorem nw_X7_50 : bb_inw RX7 50 2 [.null, .null, .int 0] := ⟨RX2, TX2, 3, tyX2, rfl, bb_u2, tyX2_ok, by decide +kernel, by decide, rfl, fun _ => rfl⟩
theorem ic_X7_52 : bb_ic RX7 52 yX2_init cX2_init 1 := by unfold bb_ic; decide +kernel
theorem fli_X7_53 : bb_fl RX7 53 7 7 := ⟨RX7, TX7, 9, rfl, by decide, bb_u7, by decide +kernel⟩
theorem ff_X7_53 : bb_fF RX7 53 7 7 := ⟨RX7, TX7, 9, tyX7, rfl, by decide, bb_u7, by decide +kernel, tyX7_ok, nmX7, rfl, rfl, fun _ => ⟨rfl, rfl⟩⟩
theorem fli_X7_57 : bb_fl RX7 57 7 8 := ⟨RX7, TX7, 9, rfl, by decide, bb_u7, by decide +kernel⟩
theorem ff_X7_57 : bb_fF RX7 57 7 8 := ⟨RX7, TX7, 9, tyX7, rfl, by decide, bb_u7, by decide +kernel, tyX7_ok, nmX7, rfl, rfl, fun _ => ⟨rfl, rfl⟩⟩
theorem fli_X8_29 : bb_fl RX8 29 8 9 := ⟨RX8, TX8, 14, rfl, by decide, bb_u8, by decide +kernel⟩
theorem io_X8_1 : bb_io RX8 1 := by unfold bb_io; decide +kernel
theorem fli_X8_7 : bb_fl RX8 7 8 0 := ⟨RX8, TX8, 14, rfl, by decide, bb_u8, by decide +kernel⟩
theorem ff_X8_7 : bb_fF RX8 7 8 0 := ⟨RX8, TX8, 14, tyX8, rfl, by decide, bb_u8, by decide +kernel, tyX8_ok, nmX8, rfl, rfl, fun _ => ⟨rfl, rfl⟩⟩
theorem fli_X8_13 : bb_fl RX8 13 8 1 := ⟨RX8, TX8, 14, rfl, by decide, bb_u8, by decide +kernel⟩
theorem ff_X8_13 : bb_fF RX8 13 8 1 := ⟨RX8, TX8, 14, tyX8, rfl, by decide, bb_u8, by decide +kernel, tyX8_ok, nmX8, rfl, rfl, fun _ => ⟨rfl, rfl⟩⟩
theorem fli_X8_16 : bb_fl RX8 16 8 3 := ⟨RX8, TX8, 14, rfl, by decide, bb_u8, by decide +kernel⟩
theorem ff_X8_16 : bb_fF RX8 16 8 3 := ⟨RX8, TX8, 14, tyX8, rfl, by decide, bb_u8, by decide +kernel, tyX8_ok, nmX8, rfl, rfl, fun _ => ⟨rfl, rfl⟩⟩
theorem fli_X8_19 : bb_fl RX8 19 8 5 := ⟨RX8, TX8, 14, rfl, by decide, bb_u8, by decide +kernel⟩
theorem ff_X8_19 : bb_fF RX8 19 8 5 := ⟨RX8, TX8, 14, tyX8, rfl, by decide, bb_u8, by decide +kernel, tyX8_ok, nmX8, rfl, rfl, fun _ => ⟨rfl, rfl⟩⟩
theorem fli_X8_22 : bb_fl RX8 22 8 7 := ⟨RX8, TX8, 14, rfl, by decide, bb_u8, by decide +kernel⟩
theorem ff_X8_22 : bb_fF RX8 22 8 7 := ⟨RX8, TX8, 14, tyX8, rfl, by decide, bb_u8, by decide +kernel, tyX8_ok, nmX8, rfl, rfl, fun _ => ⟨rfl, rfl⟩⟩
theorem fli_X8_26 : bb_fl RX8 26 8 8 := ⟨RX8, TX8, 14, rfl, by decide, bb_u8, by decide +kernel⟩
theorem ff_X8_26 : bb_fF RX8 26 8 8 := ⟨RX8, TX8, 14, tyX8, rfl, by decide, bb_u8, by decide +kernel, tyX8_ok, nmX8, rfl, rfl, fun _ => ⟨rfl, rfl⟩⟩
theorem ff_X8_29 : bb_fF RX8 29 8 9 := ⟨RX8, TX8, 14, tyX8, rfl, by decide, bb_u8, by decide +kernel, tyX8_ok, nmX8, rfl, rfl, fun _ => ⟨rfl, rfl⟩⟩
theorem fli_X8_32 : bb_fl RX8 32 8 10 := ⟨RX8, TX8, 14, rfl, by decide, bb_u8, by decide +kernel⟩
theorem ff_X8_32 : bb_fF RX8 32 8 10 := ⟨RX8, TX8, 14, tyX8, rfl, by decide, bb_u8, by decide +kernel, tyX8_ok, nmX8, rfl, rfl, fun _ => ⟨rfl, rfl⟩⟩
theorem fli_X8_35 : bb_fl RX8 35 8 11 := ⟨RX8, TX8, 14, rfl, by decide, bb_u8, by decide +kernel⟩
theorem ff_X8_35 : bb_fF RX8 35 8 11 := ⟨RX8, TX8, 14, tyX8, rfl, by decide, bb_u8, by decide +kernel, tyX8_ok, nmX8, rfl, rfl, fun _ => ⟨rfl, rfl⟩⟩
theorem fli_X8_38 : bb_fl RX8 38 8 12 := ⟨RX8, TX8, 14, rfl, by decide, bb_u8, by decide +kernel⟩
theorem ff_X8_38 : bb_fF RX8 38 8 12 := ⟨RX8, TX8, 14, tyX8, rfl, by decide, bb_u8, by decide +kernel, tyX8_ok, nmX8, rfl, rfl, fun _ => ⟨rfl, rfl⟩⟩
theorem fli_X8_41 : bb_fl RX8 41 8 13 := ⟨RX8, TX8, 14, rfl, by decide, bb_u8, by decide +kernel⟩
theorem ff_X8_41 : bb_fF RX8 41 8 13 := ⟨RX8, TX8, 14, tyX8, rfl, by decide, bb_u8, by decide +kernel, tyX8_ok, nmX8, rfl, rfl, fun _ => ⟨rfl, rfl⟩⟩
set_option maxRecDepth 100000 in
set_option maxHeartbeats 4000000 in
theorem j_X0_init_0 {r : bb_H} (n0 s0 : Nat) : ∀ (x0 : Nat) (h : bb_H), m_X0_init_0 n0 s0 x0 h = some r → bb_N RX0 cX0_init 1 rm_X0_init n0 s0 r 0 [.ref x0] [] h := by
  intro x0 h hf
  unfold m_X0_init_0 at hf
  refine bb_naload_n dX0_init_0 rfl ?_
  refine bb_nobj io_X0_3 (by decide) (by decide) dX0_init_1 ?_
  refine bb_naload_n dX0_init_4 rfl ?_
  refine bb_nbipush (v := 6) dX0_init_5 (by decide) ?_
  obtain ⟨g7, h7, hf⟩ := bb_bind hf
  refine bb_nnewa (ty := .int) (dv := .int 0) (t0 := 0) (N' := 6) (a0 := (6, .inl (fun _ => 0))) aa_int rfl (fun _ => rfl) (fun _ => rfl) (fun ad => bb_zerosI ad 6 .int (Or.inl rfl)) (by decide) (by decide) (by decide) dX0_init_7 h7 ?_
  obtain ⟨g9, h9, hf⟩ := bb_bind hf
  refine bb_nputF ff_X0_9 dX0_init_9 h9 ?_
  refine bb_naload_n dX0_init_12 rfl ?_
  refine bb_nbipush (v := 6) dX0_init_13 (by decide) ?_
  obtain ⟨g15, h15, hf⟩ := bb_bind hf
  refine bb_nnewa (ty := .int) (dv := .int 0) (t0 := 0) (N' := 6) (a0 := (6, .inl (fun _ => 0))) aa_int rfl (fun _ => rfl) (fun _ => rfl) (fun ad => bb_zerosI ad 6 .int (Or.inl rfl)) (by decide) (by decide) (by decide) dX0_init_15 h15 ?_
  obtain ⟨g17, h17, hf⟩ := bb_bind hf
  refine bb_nputF ff_X0_15 dX0_init_17 h17 ?_
  refine bb_naload_n dX0_init_20 rfl ?_
  refine bb_niconst (v := 0) dX0_init_21 (by decide) ?_
  obtain ⟨g22, h22, hf⟩ := bb_bind hf
  refine bb_nputI fpi_X0_18 dX0_init_22 h22 ?_
  refine bb_naload_n dX0_init_25 rfl ?_
  refine bb_niconst (v := 0) dX0_init_26 (by decide) ?_
  obtain ⟨g27, h27, hf⟩ := bb_bind hf
  refine bb_nputI fpi_X0_22 dX0_init_27 h27 ?_
  refine bb_naload_n dX0_init_30 rfl ?_
  refine bb_niconst (v := 1) dX0_init_31 (by decide) ?_
  obtain ⟨g32, h32, hf⟩ := bb_bind hf
  refine bb_nputI fpi_X0_25 dX0_init_32 h32 ?_
  obtain ⟨q1, q2, rfl⟩ := bb_rn_spec hf
  exact bb_nret dX0_init_35 q1 q2 rfl
theorem ok_X0_init {x0 : Nat} {h r : bb_H} (hf : m_X0_init x0 h = some r) : bb_OkA yX0_init cX0_init 1 rm_X0_init [.ref x0] h r := by
  unfold m_X0_init at hf
  split at hf
  · rename_i h1000
    exact bb_okA (L := [.ref x0]) (by decide) rfl (Nat.le_of_ble_eq_true rfl) rfl h1000 (j_X0_init_0 _ _ _ _ hf)
  · cases hf
set_option maxRecDepth 100000 in
set_option maxHeartbeats 4000000 in
theorem j_X2_init_0 {r : bb_H} (n0 s0 : Nat) : ∀ (x0 : Nat) (h : bb_H), m_X2_init_0 n0 s0 x0 h = some r → bb_N RX2 cX2_init 1 rm_X2_init n0 s0 r 0 [.ref x0] [] h := by
  intro x0 h hf
  unfold m_X2_init_0 at hf
  refine bb_naload_n dX2_init_0 rfl ?_
  refine bb_nobj io_X2_3 (by decide) (by decide) dX2_init_1 ?_
  refine bb_naload_n dX2_init_4 rfl ?_
  refine bb_nbipush (v := 6) dX2_init_5 (by decide) ?_
  obtain ⟨g7, h7, hf⟩ := bb_bind hf
  refine bb_nnewa (ty := .int) (dv := .int 0) (t0 := 0) (N' := 6) (a0 := (6, .inl (fun _ => 0))) aa_int rfl (fun _ => rfl) (fun _ => rfl) (fun ad => bb_zerosI ad 6 .int (Or.inl rfl)) (by decide) (by decide) (by decide) dX2_init_7 h7 ?_
  obtain ⟨g9, h9, hf⟩ := bb_bind hf
  refine bb_nputF ff_X2_9 dX2_init_9 h9 ?_
  refine bb_naload_n dX2_init_12 rfl ?_
  refine bb_nbipush (v := 6) dX2_init_13 (by decide) ?_
  obtain ⟨g15, h15, hf⟩ := bb_bind hf
  refine bb_nnewa (ty := .int) (dv := .int 0) (t0 := 0) (N' := 6) (a0 := (6, .inl (fun _ => 0))) aa_int rfl (fun _ => rfl) (fun _ => rfl) (fun ad => bb_zerosI ad 6 .int (Or.inl rfl)) (by decide) (by decide) (by decide) dX2_init_15 h15 ?_
  obtain ⟨g17, h17, hf⟩ := bb_bind hf
  refine bb_nputF ff_X2_15 dX2_init_17 h17 ?_
  refine bb_naload_n dX2_init_20 rfl ?_
  refine bb_niconst (v := 0) dX2_init_21 (by decide) ?_
  obtain ⟨g22, h22, hf⟩ := bb_bind hf
  refine bb_nputI fpi_X2_18 dX2_init_22 h22 ?_
  obtain ⟨q1, q2, rfl⟩ := bb_rn_spec hf
  exact bb_nret dX2_init_25 q1 q2 rfl
theorem ok_X2_init {x0 : Nat} {h r : bb_H} (hf : m_X2_init x0 h = some r) : bb_OkA yX2_init cX2_init 1 rm_X2_init [.ref x0] h r := by
  unfold m_X2_init at hf
  split at hf
  · rename_i h1000
    exact bb_okA (L := [.ref x0]) (by decide) rfl (Nat.le_of_ble_eq_true rfl) rfl h1000 (j_X2_init_0 _ _ _ _ hf)
  · cases hf
set_option maxRecDepth 100000 in
set_option maxHeartbeats 4000000 in
theorem j_X3_init_0 {r : bb_H} (n0 s0 : Nat) : ∀ (x0 : Nat) (h : bb_H), m_X3_init_0 n0 s0 x0 h = some r → bb_N RX3 cX3_init 1 rm_X3_init n0 s0 r 0 [.ref x0] [] h := by
  intro x0 h hf
  unfold m_X3_init_0 at hf
  refine bb_naload_n dX3_init_0 rfl ?_
  refine bb_nobj io_X3_3 (by decide) (by decide) dX3_init_1 ?_
  refine bb_naload_n dX3_init_4 rfl ?_
  refine bb_niconst (v := 0) dX3_init_5 (by decide) ?_
  obtain ⟨g6, h6, hf⟩ := bb_bind hf
  refine bb_nputI fpi_X3_9 dX3_init_6 h6 ?_
  refine bb_naload_n dX3_init_9 rfl ?_
  refine bb_nbipush (v := 6) dX3_init_10 (by decide) ?_
  obtain ⟨g12, h12, hf⟩ := bb_bind hf
  refine bb_nnewa (ty := .int) (dv := .int 0) (t0 := 0) (N' := 6) (a0 := (6, .inl (fun _ => 0))) aa_int rfl (fun _ => rfl) (fun _ => rfl) (fun ad => bb_zerosI ad 6 .int (Or.inl rfl)) (by decide) (by decide) (by decide) dX3_init_12 h12 ?_
  obtain ⟨g14, h14, hf⟩ := bb_bind hf
  refine bb_nputF ff_X3_15 dX3_init_14 h14 ?_
  refine bb_naload_n dX3_init_17 rfl ?_
  refine bb_niconst (v := 3) dX3_init_18 (by decide) ?_
  refine bb_nbipush (v := 6) dX3_init_19 (by decide) ?_
  obtain ⟨g21, h21, hf⟩ := bb_bind hf
  refine bb_nmna cl_X3_19 aa_int dX3_init_21 h21 ?_
  obtain ⟨g25, h25, hf⟩ := bb_bind hf
  refine bb_nputF ff_X3_21 dX3_init_25 h25 ?_
  refine bb_naload_n dX3_init_28 rfl ?_
  refine bb_nbipush (v := 6) dX3_init_29 (by decide) ?_
  obtain ⟨g31, h31, hf⟩ := bb_bind hf
  refine bb_nnewa (ty := .int) (dv := .int 0) (t0 := 0) (N' := 6) (a0 := (6, .inl (fun _ => 0))) aa_int rfl (fun _ => rfl) (fun _ => rfl) (fun ad => bb_zerosI ad 6 .int (Or.inl rfl)) (by decide) (by decide) (by decide) dX3_init_31 h31 ?_
  obtain ⟨g33, h33, hf⟩ := bb_bind hf
  refine bb_nputF ff_X3_24 dX3_init_33 h33 ?_
  obtain ⟨q1, q2, rfl⟩ := bb_rn_spec hf
  exact bb_nret dX3_init_36 q1 q2 rfl
theorem ok_X3_init {x0 : Nat} {h r : bb_H} (hf : m_X3_init x0 h = some r) : bb_OkA yX3_init cX3_init 1 rm_X3_init [.ref x0] h r := by
  unfold m_X3_init at hf
  split at hf
  · rename_i h1000
    exact bb_okA (L := [.ref x0]) (by decide) rfl (Nat.le_of_ble_eq_true rfl) rfl h1000 (j_X3_init_0 _ _ _ _ hf)
  · cases hf
set_option maxRecDepth 100000 in
set_option maxHeartbeats 4000000 in
theorem j_X4_init_0 {r : bb_H} (n0 s0 : Nat) : ∀ (x0 : Nat) (h : bb_H), m_X4_init_0 n0 s0 x0 h = some r → bb_N RX4 cX4_init 1 rm_X4_init n0 s0 r 0 [.ref x0] [] h := by
  intro x0 h hf
  unfold m_X4_init_0 at hf
  refine bb_naload_n dX4_init_0 rfl ?_
  refine bb_nobj io_X4_3 (by decide) (by decide) dX4_init_1 ?_
  refine bb_naload_n dX4_init_4 rfl ?_
  refine bb_niconst (v := 0) dX4_init_5 (by decide) ?_
  obtain ⟨g6, h6, hf⟩ := bb_bind hf
  refine bb_nputZ fpi_X4_9 dX4_init_6 h6 ?_
  refine bb_naload_n dX4_init_9 rfl ?_
  refine bb_niconst (v := 0) dX4_init_10 (by decide) ?_
  obtain ⟨g11, h11, hf⟩ := bb_bind hf
  refine bb_nputI fpi_X4_15 dX4_init_11 h11 ?_
  refine bb_naload_n dX4_init_14 rfl ?_
  refine bb_niconst (v := 0) dX4_init_15 (by decide) ?_
  obtain ⟨g16, h16, hf⟩ := bb_bind hf
  refine bb_nputI fpi_X4_19 dX4_init_16 h16 ?_
  refine bb_naload_n dX4_init_19 rfl ?_
  refine bb_nbipush (v := 24) dX4_init_20 (by decide) ?_
  obtain ⟨g22, h22, hf⟩ := bb_bind hf
  refine bb_nnewa (ty := .long) (dv := .long 0) (t0 := 2) (N' := 24) (a0 := (24, .inr (.inl (fun _ => 0)))) aa_long rfl (fun _ => rfl) (fun _ => rfl) (fun ad => bb_zerosL ad 24) (by decide) (by decide) (by decide) dX4_init_22 h22 ?_
  obtain ⟨g24, h24, hf⟩ := bb_bind hf
  refine bb_nputF ff_X4_22 dX4_init_24 h24 ?_
  obtain ⟨q1, q2, rfl⟩ := bb_rn_spec hf
  exact bb_nret dX4_init_27 q1 q2 rfl
theorem ok_X4_init {x0 : Nat} {h r : bb_H} (hf : m_X4_init x0 h = some r) : bb_OkA yX4_init cX4_init 1 rm_X4_init [.ref x0] h r := by
  unfold m_X4_init at hf
  split at hf
  · rename_i h1000
    exact bb_okA (L := [.ref x0]) (by decide) rfl (Nat.le_of_ble_eq_true rfl) rfl h1000 (j_X4_init_0 _ _ _ _ hf)
  · cases hf
set_option maxRecDepth 100000 in
set_option maxHeartbeats 4000000 in
theorem j_X1_init_25 {r : bb_H} (n0 s0 : Nat) : ∀ (n : Nat) (x0 : Nat) (x1 : Int32) (h : bb_H), m_X1_init_25 n0 s0 n x0 x1 h = some r → bb_N RX1 cX1_init 2 rm_X1_init n0 s0 r 25 [.ref x0, .int x1] [] h := by
  intro n
  induction n with
  | zero =>
    intro x0 x1 h hf
    exact absurd hf (fun z => by cases z)
  | succ n ih =>
    intro x0 x1 h hf
    unfold m_X1_init_25 at hf
    refine bb_niload_n dX1_init_25 rfl ?_
    refine bb_nbipush (v := 8) dX1_init_26 (by decide) ?_
    refine bb_nicmp_ge (tgt := 50) dX1_init_28 (by decide) (fun c28 => ?_) (fun c28 => ?_)
    · rw [if_pos c28] at hf
      obtain ⟨q1, q2, rfl⟩ := bb_rn_spec hf
      exact bb_nret dX1_init_50 q1 q2 rfl
    rw [if_neg c28] at hf
    refine bb_naload_n dX1_init_31 rfl ?_
    obtain ⟨t32, h32, hf⟩ := bb_bind hf
    refine bb_ngetR fli_X1_11 dX1_init_32 h32 ?_
    refine bb_niload_n dX1_init_35 rfl ?_
    obtain ⟨g36, h36, hf⟩ := bb_bind hf
    refine bb_nnew nw_X1_9 dX1_init_36 h36 ?_
    refine bb_ndup dX1_init_39 rfl ?_
    obtain ⟨e40, q40, hf⟩ := bb_bind hf
    obtain ⟨g40, h40, hf⟩ := bb_bind hf
    refine bb_nctor ic_X1_24 (by decide) dX1_init_40 (Nat.le_of_ble_eq_true rfl) (ok_X0_init q40) h40 ?_
    obtain ⟨g43, h43, hf⟩ := bb_bind hf
    obtain ⟨⟨v43, b43⟩, h43⟩ := bb_rcv_spec h43
    refine bb_naastore (t0 := 3) (ci := 0) (fun _ => rfl) rfl dX1_init_43 b43 h43 ?_
    refine bb_niinc (v := x1 + 1) (L' := [.ref x0, .int (x1 + 1)]) dX1_init_44 rfl rfl (by decide) rfl rfl ?_
    refine bb_ngoto (tgt := 25) dX1_init_47 (by decide) ?_
    refine bb_nfewer (L' := [.ref x0, .int (x1 + 1)]) (And.intro rfl (And.intro rfl trivial)) ?_
    exact ih _ _ _ hf
set_option maxRecDepth 100000 in
set_option maxHeartbeats 4000000 in
theorem j_X1_init_0 {r : bb_H} (n0 s0 : Nat) : ∀ (x0 : Nat) (h : bb_H), m_X1_init_0 n0 s0 x0 h = some r → bb_N RX1 cX1_init 2 rm_X1_init n0 s0 r 0 [.ref x0, .null] [] h := by
  intro x0 h hf
  unfold m_X1_init_0 at hf
  refine bb_naload_n dX1_init_0 rfl ?_
  refine bb_nobj io_X1_3 (by decide) (by decide) dX1_init_1 ?_
  refine bb_naload_n dX1_init_4 rfl ?_
  refine bb_nbipush (v := 8) dX1_init_5 (by decide) ?_
  obtain ⟨g7, h7, hf⟩ := bb_bind hf
  refine bb_nnewq (C := "BattleBench$Bench") (t0 := 3) (N' := 8) cl_X1_9 (fun _ q => q.1) (fun _ => rfl) (by decide) (by decide) (by decide) dX1_init_7 h7 ?_
  obtain ⟨g10, h10, hf⟩ := bb_bind hf
  refine bb_nputF ff_X1_11 dX1_init_10 h10 ?_
  refine bb_naload_n dX1_init_13 rfl ?_
  refine bb_niconst (v := 0) dX1_init_14 (by decide) ?_
  obtain ⟨g15, h15, hf⟩ := bb_bind hf
  refine bb_nputI fpi_X1_17 dX1_init_15 h15 ?_
  refine bb_naload_n dX1_init_18 rfl ?_
  refine bb_niconst (v := 0) dX1_init_19 (by decide) ?_
  obtain ⟨g20, h20, hf⟩ := bb_bind hf
  refine bb_nputI fpi_X1_21 dX1_init_20 h20 ?_
  refine bb_niconst (v := 0) dX1_init_23 (by decide) ?_
  refine bb_nistore_n (L' := [.ref x0, .int 0]) dX1_init_24 (by decide) rfl rfl ?_
  refine bb_nfewer (L' := [.ref x0, .int 0]) (And.intro rfl (And.intro rfl trivial)) ?_
  exact j_X1_init_25 _ _ _ _ _ _ hf
theorem ok_X1_init {x0 : Nat} {h r : bb_H} (hf : m_X1_init x0 h = some r) : bb_OkA yX1_init cX1_init 2 rm_X1_init [.ref x0] h r := by
  unfold m_X1_init at hf
  split at hf
  · rename_i h1000
    exact bb_okA (L := [.ref x0, .null]) (by decide) rfl (Nat.le_of_ble_eq_true rfl) rfl h1000 (j_X1_init_0 _ _ _ _ hf)
  · cases hf
set_option maxRecDepth 100000 in
set_option maxHeartbeats 4000000 in
theorem j_X5_init_0 {r : bb_H} (n0 s0 : Nat) : ∀ (x0 : Nat) (h : bb_H), m_X5_init_0 n0 s0 x0 h = some r → bb_N RX5 cX5_init 1 rm_X5_init n0 s0 r 0 [.ref x0] [] h := by
  intro x0 h hf
  unfold m_X5_init_0 at hf
  refine bb_naload_n dX5_init_0 rfl ?_
  refine bb_nobj io_X5_1 (by decide) (by decide) dX5_init_1 ?_
  refine bb_naload_n dX5_init_4 rfl ?_
  obtain ⟨g5, h5, hf⟩ := bb_bind hf
  refine bb_nnew nw_X5_7 dX5_init_5 h5 ?_
  refine bb_ndup dX5_init_8 rfl ?_
  obtain ⟨e9, q9, hf⟩ := bb_bind hf
  obtain ⟨g9, h9, hf⟩ := bb_bind hf
  refine bb_nctor ic_X5_9 (by decide) dX5_init_9 (Nat.le_of_ble_eq_true rfl) (ok_X3_init q9) h9 ?_
  obtain ⟨g12, h12, hf⟩ := bb_bind hf
  refine bb_nputF ff_X5_10 dX5_init_12 h12 ?_
  refine bb_naload_n dX5_init_15 rfl ?_
  obtain ⟨g16, h16, hf⟩ := bb_bind hf
  refine bb_nnew nw_X5_16 dX5_init_16 h16 ?_
  refine bb_ndup dX5_init_19 rfl ?_
  obtain ⟨e20, q20, hf⟩ := bb_bind hf
  obtain ⟨g20, h20, hf⟩ := bb_bind hf
  refine bb_nctor ic_X5_18 (by decide) dX5_init_20 (Nat.le_of_ble_eq_true rfl) (ok_X0_init q20) h20 ?_
  obtain ⟨g23, h23, hf⟩ := bb_bind hf
  refine bb_nputF ff_X5_19 dX5_init_23 h23 ?_
  refine bb_naload_n dX5_init_26 rfl ?_
  obtain ⟨g27, h27, hf⟩ := bb_bind hf
  refine bb_nnew nw_X5_23 dX5_init_27 h27 ?_
  refine bb_ndup dX5_init_30 rfl ?_
  obtain ⟨e31, q31, hf⟩ := bb_bind hf
  obtain ⟨g31, h31, hf⟩ := bb_bind hf
  refine bb_nctor ic_X5_25 (by decide) dX5_init_31 (Nat.le_of_ble_eq_true rfl) (ok_X1_init q31) h31 ?_
  obtain ⟨g34, h34, hf⟩ := bb_bind hf
  refine bb_nputF ff_X5_26 dX5_init_34 h34 ?_
  obtain ⟨q1, q2, rfl⟩ := bb_rn_spec hf
  exact bb_nret dX5_init_37 q1 q2 rfl
theorem ok_X5_init {x0 : Nat} {h r : bb_H} (hf : m_X5_init x0 h = some r) : bb_OkA yX5_init cX5_init 1 rm_X5_init [.ref x0] h r := by
  unfold m_X5_init at hf
  split at hf
  · rename_i h1000
    exact bb_okA (L := [.ref x0]) (by decide) rfl (Nat.le_of_ble_eq_true rfl) rfl h1000 (j_X5_init_0 _ _ _ _ hf)
  · cases hf
set_option maxRecDepth 100000 in
set_option maxHeartbeats 4000000 in
theorem j_X6_init_0 {r : bb_H} (n0 s0 : Nat) : ∀ (x0 : Nat) (h : bb_H), m_X6_init_0 n0 s0 x0 h = some r → bb_N RX6 cX6_init 1 rm_X6_init n0 s0 r 0 [.ref x0] [] h := by
  intro x0 h hf
  unfold m_X6_init_0 at hf
  refine bb_naload_n dX6_init_0 rfl ?_
  refine bb_nobj io_X6_3 (by decide) (by decide) dX6_init_1 ?_
  refine bb_naload_n dX6_init_4 rfl ?_
  refine bb_nbipush (v := 70) dX6_init_5 (by decide) ?_
  obtain ⟨g7, h7, hf⟩ := bb_bind hf
  refine bb_nnewa (ty := .char) (dv := .int 0) (t0 := 1) (N' := 70) (a0 := (70, .inl (fun _ => 0))) aa_char rfl (fun _ => rfl) (fun _ => rfl) (fun ad => bb_zerosI ad 70 .char (Or.inr rfl)) (by decide) (by decide) (by decide) dX6_init_7 h7 ?_
  obtain ⟨g9, h9, hf⟩ := bb_bind hf
  refine bb_nputF ff_X6_9 dX6_init_9 h9 ?_
  refine bb_naload_n dX6_init_12 rfl ?_
  refine bb_niconst (v := 0) dX6_init_13 (by decide) ?_
  obtain ⟨g14, h14, hf⟩ := bb_bind hf
  refine bb_nputI fpi_X6_15 dX6_init_14 h14 ?_
  refine bb_naload_n dX6_init_17 rfl ?_
  obtain ⟨g18, h18, hf⟩ := bb_bind hf
  refine bb_nnew nw_X6_19 dX6_init_18 h18 ?_
  refine bb_ndup dX6_init_21 rfl ?_
  obtain ⟨e22, q22, hf⟩ := bb_bind hf
  obtain ⟨g22, h22, hf⟩ := bb_bind hf
  refine bb_nctor ic_X6_21 (by decide) dX6_init_22 (Nat.le_of_ble_eq_true rfl) (ok_X3_init q22) h22 ?_
  obtain ⟨g25, h25, hf⟩ := bb_bind hf
  refine bb_nputF ff_X6_22 dX6_init_25 h25 ?_
  refine bb_naload_n dX6_init_28 rfl ?_
  refine bb_nbipush (v := 6) dX6_init_29 (by decide) ?_
  obtain ⟨g31, h31, hf⟩ := bb_bind hf
  refine bb_nnewa (ty := .int) (dv := .int 0) (t0 := 0) (N' := 6) (a0 := (6, .inl (fun _ => 0))) aa_int rfl (fun _ => rfl) (fun _ => rfl) (fun ad => bb_zerosI ad 6 .int (Or.inl rfl)) (by decide) (by decide) (by decide) dX6_init_31 h31 ?_
  obtain ⟨g33, h33, hf⟩ := bb_bind hf
  refine bb_nputF ff_X6_26 dX6_init_33 h33 ?_
  refine bb_naload_n dX6_init_36 rfl ?_
  refine bb_niconst (v := 0) dX6_init_37 (by decide) ?_
  obtain ⟨g38, h38, hf⟩ := bb_bind hf
  refine bb_nputI fpi_X6_30 dX6_init_38 h38 ?_
  refine bb_naload_n dX6_init_41 rfl ?_
  refine bb_niconst (v := 0) dX6_init_42 (by decide) ?_
  obtain ⟨g43, h43, hf⟩ := bb_bind hf
  refine bb_nputI fpi_X6_33 dX6_init_43 h43 ?_
  obtain ⟨q1, q2, rfl⟩ := bb_rn_spec hf
  exact bb_nret dX6_init_46 q1 q2 rfl
theorem ok_X6_init {x0 : Nat} {h r : bb_H} (hf : m_X6_init x0 h = some r) : bb_OkA yX6_init cX6_init 1 rm_X6_init [.ref x0] h r := by
  unfold m_X6_init at hf
  split at hf
  · rename_i h1000
    exact bb_okA (L := [.ref x0]) (by decide) rfl (Nat.le_of_ble_eq_true rfl) rfl h1000 (j_X6_init_0 _ _ _ _ hf)
  · cases hf
set_option maxRecDepth 100000 in
set_option maxHeartbeats 4000000 in
theorem j_X7_init_93 {r : bb_H} (n0 s0 : Nat) : ∀ (n : Nat) (x0 : Nat) (x1 : Int32) (h : bb_H), m_X7_init_93 n0 s0 n x0 x1 h = some r → bb_N RX7 cX7_init 2 rm_X7_init n0 s0 r 93 [.ref x0, .int x1] [] h := by
  intro n
  induction n with
  | zero =>
    intro x0 x1 h hf
    exact absurd hf (fun z => by cases z)
  | succ n ih =>
    intro x0 x1 h hf
    unfold m_X7_init_93 at hf
    refine bb_niload_n dX7_init_93 rfl ?_
    refine bb_niconst (v := 4) dX7_init_94 (by decide) ?_
    refine bb_nicmp_ge (tgt := 117) dX7_init_95 (by decide) (fun c95 => ?_) (fun c95 => ?_)
    · rw [if_pos c95] at hf
      obtain ⟨q1, q2, rfl⟩ := bb_rn_spec hf
      exact bb_nret dX7_init_117 q1 q2 rfl
    rw [if_neg c95] at hf
    refine bb_naload_n dX7_init_98 rfl ?_
    obtain ⟨t99, h99, hf⟩ := bb_bind hf
    refine bb_ngetR fli_X7_32 dX7_init_99 h99 ?_
    refine bb_niload_n dX7_init_102 rfl ?_
    obtain ⟨g103, h103, hf⟩ := bb_bind hf
    refine bb_nnew nw_X7_30 dX7_init_103 h103 ?_
    refine bb_ndup dX7_init_106 rfl ?_
    obtain ⟨e107, q107, hf⟩ := bb_bind hf
    obtain ⟨g107, h107, hf⟩ := bb_bind hf
    refine bb_nctor ic_X7_61 (by decide) dX7_init_107 (Nat.le_of_ble_eq_true rfl) (ok_X4_init q107) h107 ?_
    obtain ⟨g110, h110, hf⟩ := bb_bind hf
    obtain ⟨⟨v110, b110⟩, h110⟩ := bb_rcv_spec h110
    refine bb_naastore (t0 := 4) (ci := 4) (fun _ => rfl) rfl dX7_init_110 b110 h110 ?_
    refine bb_niinc (v := x1 + 1) (L' := [.ref x0, .int (x1 + 1)]) dX7_init_111 rfl rfl (by decide) rfl rfl ?_
    refine bb_ngoto (tgt := 93) dX7_init_114 (by decide) ?_
    refine bb_nfewer (L' := [.ref x0, .int (x1 + 1)]) (And.intro rfl (And.intro rfl trivial)) ?_
    exact ih _ _ _ hf
set_option maxRecDepth 100000 in
set_option maxHeartbeats 4000000 in
theorem j_X7_init_0 {r : bb_H} (n0 s0 : Nat) : ∀ (x0 : Nat) (h : bb_H), m_X7_init_0 n0 s0 x0 h = some r → bb_N RX7 cX7_init 2 rm_X7_init n0 s0 r 0 [.ref x0, .null] [] h := by
  intro x0 h hf
  unfold m_X7_init_0 at hf
  refine bb_naload_n dX7_init_0 rfl ?_
  refine bb_nobj io_X7_3 (by decide) (by decide) dX7_init_1 ?_
  refine bb_naload_n dX7_init_4 rfl ?_
  obtain ⟨g5, h5, hf⟩ := bb_bind hf
  refine bb_nnew nw_X7_9 dX7_init_5 h5 ?_
  refine bb_ndup dX7_init_8 rfl ?_
  obtain ⟨e9, q9, hf⟩ := bb_bind hf
  obtain ⟨g9, h9, hf⟩ := bb_bind hf
  refine bb_nctor ic_X7_11 (by decide) dX7_init_9 (Nat.le_of_ble_eq_true rfl) (ok_X5_init q9) h9 ?_
  obtain ⟨g12, h12, hf⟩ := bb_bind hf
  refine bb_nputF ff_X7_12 dX7_init_12 h12 ?_
  refine bb_naload_n dX7_init_15 rfl ?_
  obtain ⟨g16, h16, hf⟩ := bb_bind hf
  refine bb_nnew nw_X7_9 dX7_init_16 h16 ?_
  refine bb_ndup dX7_init_19 rfl ?_
  obtain ⟨e20, q20, hf⟩ := bb_bind hf
  obtain ⟨g20, h20, hf⟩ := bb_bind hf
  refine bb_nctor ic_X7_11 (by decide) dX7_init_20 (Nat.le_of_ble_eq_true rfl) (ok_X5_init q20) h20 ?_
  obtain ⟨g23, h23, hf⟩ := bb_bind hf
  refine bb_nputF ff_X7_16 dX7_init_23 h23 ?_
  refine bb_naload_n dX7_init_26 rfl ?_
  refine bb_niconst (v := 0) dX7_init_27 (by decide) ?_
  obtain ⟨g28, h28, hf⟩ := bb_bind hf
  refine bb_nputZ fpi_X7_19 dX7_init_28 h28 ?_
  refine bb_naload_n dX7_init_31 rfl ?_
  obtain ⟨g32, h32, hf⟩ := bb_bind hf
  refine bb_nnew nw_X7_23 dX7_init_32 h32 ?_
  refine bb_ndup dX7_init_35 rfl ?_
  obtain ⟨e36, q36, hf⟩ := bb_bind hf
  obtain ⟨g36, h36, hf⟩ := bb_bind hf
  refine bb_nctor ic_X7_25 (by decide) dX7_init_36 (Nat.le_of_ble_eq_true rfl) (ok_X6_init q36) h36 ?_
  obtain ⟨g39, h39, hf⟩ := bb_bind hf
  refine bb_nputF ff_X7_26 dX7_init_39 h39 ?_
  refine bb_naload_n dX7_init_42 rfl ?_
  refine bb_niconst (v := 4) dX7_init_43 (by decide) ?_
  obtain ⟨g44, h44, hf⟩ := bb_bind hf
  refine bb_nnewq (C := "BattleBench$Sheet") (t0 := 4) (N' := 4) cl_X7_30 (fun _ q => q.2.1) (fun _ => rfl) (by decide) (by decide) (by decide) dX7_init_44 h44 ?_
  obtain ⟨g47, h47, hf⟩ := bb_bind hf
  refine bb_nputF ff_X7_32 dX7_init_47 h47 ?_
  refine bb_naload_n dX7_init_50 rfl ?_
  obtain ⟨g51, h51, hf⟩ := bb_bind hf
  refine bb_nnew nw_X7_36 dX7_init_51 h51 ?_
  refine bb_ndup dX7_init_54 rfl ?_
  obtain ⟨e55, q55, hf⟩ := bb_bind hf
  obtain ⟨g55, h55, hf⟩ := bb_bind hf
  refine bb_nctor ic_X7_38 (by decide) dX7_init_55 (Nat.le_of_ble_eq_true rfl) (ok_X0_init q55) h55 ?_
  obtain ⟨g58, h58, hf⟩ := bb_bind hf
  refine bb_nputF ff_X7_39 dX7_init_58 h58 ?_
  refine bb_naload_n dX7_init_61 rfl ?_
  obtain ⟨g62, h62, hf⟩ := bb_bind hf
  refine bb_nnew nw_X7_43 dX7_init_62 h62 ?_
  refine bb_ndup dX7_init_65 rfl ?_
  obtain ⟨e66, q66, hf⟩ := bb_bind hf
  obtain ⟨g66, h66, hf⟩ := bb_bind hf
  refine bb_nctor ic_X7_45 (by decide) dX7_init_66 (Nat.le_of_ble_eq_true rfl) (ok_X3_init q66) h66 ?_
  obtain ⟨g69, h69, hf⟩ := bb_bind hf
  refine bb_nputF ff_X7_46 dX7_init_69 h69 ?_
  refine bb_naload_n dX7_init_72 rfl ?_
  obtain ⟨g73, h73, hf⟩ := bb_bind hf
  refine bb_nnew nw_X7_50 dX7_init_73 h73 ?_
  refine bb_ndup dX7_init_76 rfl ?_
  obtain ⟨e77, q77, hf⟩ := bb_bind hf
  obtain ⟨g77, h77, hf⟩ := bb_bind hf
  refine bb_nctor ic_X7_52 (by decide) dX7_init_77 (Nat.le_of_ble_eq_true rfl) (ok_X2_init q77) h77 ?_
  obtain ⟨g80, h80, hf⟩ := bb_bind hf
  refine bb_nputF ff_X7_53 dX7_init_80 h80 ?_
  refine bb_naload_n dX7_init_83 rfl ?_
  refine bb_nbipush (v := 6) dX7_init_84 (by decide) ?_
  obtain ⟨g86, h86, hf⟩ := bb_bind hf
  refine bb_nnewa (ty := .int) (dv := .int 0) (t0 := 0) (N' := 6) (a0 := (6, .inl (fun _ => 0))) aa_int rfl (fun _ => rfl) (fun _ => rfl) (fun ad => bb_zerosI ad 6 .int (Or.inl rfl)) (by decide) (by decide) (by decide) dX7_init_86 h86 ?_
  obtain ⟨g88, h88, hf⟩ := bb_bind hf
  refine bb_nputF ff_X7_57 dX7_init_88 h88 ?_
  refine bb_niconst (v := 0) dX7_init_91 (by decide) ?_
  refine bb_nistore_n (L' := [.ref x0, .int 0]) dX7_init_92 (by decide) rfl rfl ?_
  refine bb_nfewer (L' := [.ref x0, .int 0]) (And.intro rfl (And.intro rfl trivial)) ?_
  exact j_X7_init_93 _ _ _ _ _ _ hf
theorem ok_X7_init {x0 : Nat} {h r : bb_H} (hf : m_X7_init x0 h = some r) : bb_OkA yX7_init cX7_init 2 rm_X7_init [.ref x0] h r := by
  unfold m_X7_init at hf
  split at hf
  · rename_i h1000
    exact bb_okA (L := [.ref x0, .null]) (by decide) rfl (Nat.le_of_ble_eq_true rfl) rfl h1000 (j_X7_init_0 _ _ _ _ hf)
  · cases hf
set_option maxRecDepth 100000 in
set_option maxHeartbeats 4000000 in
theorem j_X8_init_101 {r : bb_H} (n0 s0 : Nat) : ∀ (n : Nat) (x0 : Nat) (x1 : Int32) (h : bb_H), m_X8_init_101 n0 s0 n x0 x1 h = some r → bb_N RX8 cX8_init 2 rm_X8_init n0 s0 r 101 [.ref x0, .int x1] [] h := by
  intro n
  induction n with
  | zero =>
    intro x0 x1 h hf
    exact absurd hf (fun z => by cases z)
  | succ n ih =>
    intro x0 x1 h hf
    unfold m_X8_init_101 at hf
    refine bb_niload_n dX8_init_101 rfl ?_
    refine bb_niconst (v := 4) dX8_init_102 (by decide) ?_
    refine bb_nicmp_ge (tgt := 119) dX8_init_103 (by decide) (fun c103 => ?_) (fun c103 => ?_)
    · rw [if_pos c103] at hf
      obtain ⟨q1, q2, rfl⟩ := bb_rn_spec hf
      exact bb_nret dX8_init_119 q1 q2 rfl
    rw [if_neg c103] at hf
    refine bb_naload_n dX8_init_106 rfl ?_
    obtain ⟨t107, h107, hf⟩ := bb_bind hf
    refine bb_ngetR fli_X8_29 dX8_init_107 h107 ?_
    refine bb_niload_n dX8_init_110 rfl ?_
    refine bb_niconst (v := (-1)) dX8_init_111 (by decide) ?_
    obtain ⟨g112, h112, hf⟩ := bb_bind hf
    refine bb_niastore dX8_init_112 h112 ?_
    refine bb_niinc (v := x1 + 1) (L' := [.ref x0, .int (x1 + 1)]) dX8_init_113 rfl rfl (by decide) rfl rfl ?_
    refine bb_ngoto (tgt := 101) dX8_init_116 (by decide) ?_
    refine bb_nfewer (L' := [.ref x0, .int (x1 + 1)]) (And.intro rfl (And.intro rfl trivial)) ?_
    exact ih _ _ _ hf
set_option maxRecDepth 100000 in
set_option maxHeartbeats 4000000 in
theorem j_X8_init_0 {r : bb_H} (n0 s0 : Nat) : ∀ (x0 : Nat) (h : bb_H), m_X8_init_0 n0 s0 x0 h = some r → bb_N RX8 cX8_init 2 rm_X8_init n0 s0 r 0 [.ref x0, .null] [] h := by
  intro x0 h hf
  unfold m_X8_init_0 at hf
  refine bb_naload_n dX8_init_0 rfl ?_
  refine bb_nobj io_X8_1 (by decide) (by decide) dX8_init_1 ?_
  refine bb_naload_n dX8_init_4 rfl ?_
  refine bb_nsipush (v := 161) dX8_init_5 (by decide) ?_
  obtain ⟨g8, h8, hf⟩ := bb_bind hf
  refine bb_nnewa (ty := .int) (dv := .int 0) (t0 := 0) (N' := 161) (a0 := (161, .inl (fun _ => 0))) aa_int rfl (fun _ => rfl) (fun _ => rfl) (fun ad => bb_zerosI ad 161 .int (Or.inl rfl)) (by decide) (by decide) (by decide) dX8_init_8 h8 ?_
  obtain ⟨g10, h10, hf⟩ := bb_bind hf
  refine bb_nputF ff_X8_7 dX8_init_10 h10 ?_
  refine bb_naload_n dX8_init_13 rfl ?_
  refine bb_nsipush (v := 161) dX8_init_14 (by decide) ?_
  obtain ⟨g17, h17, hf⟩ := bb_bind hf
  refine bb_nnewa (ty := .int) (dv := .int 0) (t0 := 0) (N' := 161) (a0 := (161, .inl (fun _ => 0))) aa_int rfl (fun _ => rfl) (fun _ => rfl) (fun ad => bb_zerosI ad 161 .int (Or.inl rfl)) (by decide) (by decide) (by decide) dX8_init_17 h17 ?_
  obtain ⟨g19, h19, hf⟩ := bb_bind hf
  refine bb_nputF ff_X8_13 dX8_init_19 h19 ?_
  refine bb_naload_n dX8_init_22 rfl ?_
  refine bb_nbipush (v := 70) dX8_init_23 (by decide) ?_
  obtain ⟨g25, h25, hf⟩ := bb_bind hf
  refine bb_nnewa (ty := .int) (dv := .int 0) (t0 := 0) (N' := 70) (a0 := (70, .inl (fun _ => 0))) aa_int rfl (fun _ => rfl) (fun _ => rfl) (fun ad => bb_zerosI ad 70 .int (Or.inl rfl)) (by decide) (by decide) (by decide) dX8_init_25 h25 ?_
  obtain ⟨g27, h27, hf⟩ := bb_bind hf
  refine bb_nputF ff_X8_16 dX8_init_27 h27 ?_
  refine bb_naload_n dX8_init_30 rfl ?_
  refine bb_nbipush (v := 40) dX8_init_31 (by decide) ?_
  obtain ⟨g33, h33, hf⟩ := bb_bind hf
  refine bb_nnewa (ty := .int) (dv := .int 0) (t0 := 0) (N' := 40) (a0 := (40, .inl (fun _ => 0))) aa_int rfl (fun _ => rfl) (fun _ => rfl) (fun ad => bb_zerosI ad 40 .int (Or.inl rfl)) (by decide) (by decide) (by decide) dX8_init_33 h33 ?_
  obtain ⟨g35, h35, hf⟩ := bb_bind hf
  refine bb_nputF ff_X8_19 dX8_init_35 h35 ?_
  refine bb_naload_n dX8_init_38 rfl ?_
  refine bb_nbipush (v := 96) dX8_init_39 (by decide) ?_
  obtain ⟨g41, h41, hf⟩ := bb_bind hf
  refine bb_nnewa (ty := .long) (dv := .long 0) (t0 := 2) (N' := 96) (a0 := (96, .inr (.inl (fun _ => 0)))) aa_long rfl (fun _ => rfl) (fun _ => rfl) (fun ad => bb_zerosL ad 96) (by decide) (by decide) (by decide) dX8_init_41 h41 ?_
  obtain ⟨g43, h43, hf⟩ := bb_bind hf
  refine bb_nputF ff_X8_22 dX8_init_43 h43 ?_
  refine bb_naload_n dX8_init_46 rfl ?_
  refine bb_nbipush (v := 24) dX8_init_47 (by decide) ?_
  obtain ⟨g49, h49, hf⟩ := bb_bind hf
  refine bb_nnewa (ty := .long) (dv := .long 0) (t0 := 2) (N' := 24) (a0 := (24, .inr (.inl (fun _ => 0)))) aa_long rfl (fun _ => rfl) (fun _ => rfl) (fun ad => bb_zerosL ad 24) (by decide) (by decide) (by decide) dX8_init_49 h49 ?_
  obtain ⟨g51, h51, hf⟩ := bb_bind hf
  refine bb_nputF ff_X8_26 dX8_init_51 h51 ?_
  refine bb_naload_n dX8_init_54 rfl ?_
  refine bb_niconst (v := 4) dX8_init_55 (by decide) ?_
  obtain ⟨g56, h56, hf⟩ := bb_bind hf
  refine bb_nnewa (ty := .int) (dv := .int 0) (t0 := 0) (N' := 4) (a0 := (4, .inl (fun _ => 0))) aa_int rfl (fun _ => rfl) (fun _ => rfl) (fun ad => bb_zerosI ad 4 .int (Or.inl rfl)) (by decide) (by decide) (by decide) dX8_init_56 h56 ?_
  obtain ⟨g58, h58, hf⟩ := bb_bind hf
  refine bb_nputF ff_X8_29 dX8_init_58 h58 ?_
  refine bb_naload_n dX8_init_61 rfl ?_
  refine bb_niconst (v := 4) dX8_init_62 (by decide) ?_
  obtain ⟨g63, h63, hf⟩ := bb_bind hf
  refine bb_nnewa (ty := .int) (dv := .int 0) (t0 := 0) (N' := 4) (a0 := (4, .inl (fun _ => 0))) aa_int rfl (fun _ => rfl) (fun _ => rfl) (fun ad => bb_zerosI ad 4 .int (Or.inl rfl)) (by decide) (by decide) (by decide) dX8_init_63 h63 ?_
  obtain ⟨g65, h65, hf⟩ := bb_bind hf
  refine bb_nputF ff_X8_32 dX8_init_65 h65 ?_
  refine bb_naload_n dX8_init_68 rfl ?_
  refine bb_nbipush (v := 6) dX8_init_69 (by decide) ?_
  obtain ⟨g71, h71, hf⟩ := bb_bind hf
  refine bb_nnewa (ty := .int) (dv := .int 0) (t0 := 0) (N' := 6) (a0 := (6, .inl (fun _ => 0))) aa_int rfl (fun _ => rfl) (fun _ => rfl) (fun ad => bb_zerosI ad 6 .int (Or.inl rfl)) (by decide) (by decide) (by decide) dX8_init_71 h71 ?_
  obtain ⟨g73, h73, hf⟩ := bb_bind hf
  refine bb_nputF ff_X8_35 dX8_init_73 h73 ?_
  refine bb_naload_n dX8_init_76 rfl ?_
  refine bb_nbipush (v := 40) dX8_init_77 (by decide) ?_
  obtain ⟨g79, h79, hf⟩ := bb_bind hf
  refine bb_nnewa (ty := .int) (dv := .int 0) (t0 := 0) (N' := 40) (a0 := (40, .inl (fun _ => 0))) aa_int rfl (fun _ => rfl) (fun _ => rfl) (fun ad => bb_zerosI ad 40 .int (Or.inl rfl)) (by decide) (by decide) (by decide) dX8_init_79 h79 ?_
  obtain ⟨g81, h81, hf⟩ := bb_bind hf
  refine bb_nputF ff_X8_38 dX8_init_81 h81 ?_
  refine bb_naload_n dX8_init_84 rfl ?_
  refine bb_nbipush (v := 40) dX8_init_85 (by decide) ?_
  obtain ⟨g87, h87, hf⟩ := bb_bind hf
  refine bb_nnewa (ty := .int) (dv := .int 0) (t0 := 0) (N' := 40) (a0 := (40, .inl (fun _ => 0))) aa_int rfl (fun _ => rfl) (fun _ => rfl) (fun ad => bb_zerosI ad 40 .int (Or.inl rfl)) (by decide) (by decide) (by decide) dX8_init_87 h87 ?_
  obtain ⟨g89, h89, hf⟩ := bb_bind hf
  refine bb_nputF ff_X8_41 dX8_init_89 h89 ?_
  refine bb_naload_n dX8_init_92 rfl ?_
  obtain ⟨t93, h93, hf⟩ := bb_bind hf
  refine bb_ngetR fli_X8_7 dX8_init_93 h93 ?_
  refine bb_niconst (v := 3) dX8_init_96 (by decide) ?_
  refine bb_niconst (v := 1) dX8_init_97 (by decide) ?_
  obtain ⟨g98, h98, hf⟩ := bb_bind hf
  refine bb_niastore dX8_init_98 h98 ?_
  refine bb_niconst (v := 0) dX8_init_99 (by decide) ?_
  refine bb_nistore_n (L' := [.ref x0, .int 0]) dX8_init_100 (by decide) rfl rfl ?_
  refine bb_nfewer (L' := [.ref x0, .int 0]) (And.intro rfl (And.intro rfl trivial)) ?_
  exact j_X8_init_101 _ _ _ _ _ _ hf
theorem ok_X8_init {x0 : Nat} {h r : bb_H} (hf : m_X8_init x0 h = some r) : bb_OkA yX8_init cX8_init 2 rm_X8_init [.ref x0] h r := by
  unfold m_X8_init at hf
  split at hf
  · rename_i h1000
    exact bb_okA (L := [.ref x0, .null]) (by decide) rfl (Nat.le_of_ble_eq_true rfl) rfl h1000 (j_X8_init_0 _ _ _ _ hf)
  · cases hf
