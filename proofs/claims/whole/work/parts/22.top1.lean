/-- BattleBench$Tape.add(C)V -/
def m_X6_add_29 (h : bb_H) : Option bb_H :=
  some h
def m_X6_add (x0 : Nat) (x1 : Int32) (h : bb_H) : Option bb_H :=
  (bb_gI h x0 6 1).bind fun t1 =>
  if 70 ≤ t1 then
    m_X6_add_29 h
  else
  (bb_gR h x0 6 0).bind fun t10 =>
  (bb_gI h x0 6 1).bind fun t14 =>
  (bb_sV h t10 .char t14 (.int (vp_nar .char x1))).bind fun g18 =>
  (bb_gI g18 x0 6 1).bind fun t21 =>
  (bb_pI g18 x0 6 1 (t21 + 1)).bind fun g26 =>
  m_X6_add_29 g26
/-- BattleBench$Tape.here()C -/
def m_X6_here_40 (z0 : Int32) (h : bb_H) : Option (Int32 × bb_H) :=
  bb_rc z0 h
def m_X6_here_39 (h : bb_H) : Option (Int32 × bb_H) :=
  m_X6_here_40 0 h
def m_X6_here (x0 : Nat) (h : bb_H) : Option (Int32 × bb_H) :=
  (bb_gI h x0 6 4).bind fun t1 =>
  if t1 < 0 then
    m_X6_here_39 h
  else
  (bb_gI h x0 6 4).bind fun t8 =>
  (bb_gI h x0 6 1).bind fun t12 =>
  if t12 ≤ t8 then
    m_X6_here_39 h
  else
  (bb_gI h x0 6 4).bind fun t19 =>
  if 70 ≤ t19 then
    m_X6_here_39 h
  else
  (bb_gR h x0 6 0).bind fun t28 =>
  (bb_gI h x0 6 4).bind fun t32 =>
  (bb_aI h t28 .char t32).bind fun t35 =>
  m_X6_here_40 t35 h
/-- BattleBench$Tape.skipBlanks()V -/
def m_X6_skipBlanks_33 (h : bb_H) : Option bb_H :=
  some h
def m_X6_skipBlanks_0 : Nat → Nat → bb_H → Option bb_H
  | 0, _, _ => none
  | n + 1, x0, h =>
    (bb_gI h x0 6 4).bind fun t1 =>
    (bb_gI h x0 6 1).bind fun t5 =>
    if t5 ≤ t1 then
      m_X6_skipBlanks_33 h
    else
    (bb_rcv h x0 6 (m_X6_here x0 h)).bind fun r12 =>
    if r12.1 = 32 then
      (bb_gI r12.2 x0 6 4).bind fun t22 =>
      (bb_pI r12.2 x0 6 4 (t22 + 1)).bind fun g27 =>
      m_X6_skipBlanks_0 n x0 g27
    else
    m_X6_skipBlanks_33 r12.2
def m_X6_skipBlanks (x0 : Nat) (h : bb_H) : Option bb_H := m_X6_skipBlanks_0 1000 x0 h
/-- BattleBench$Tape.faultAt(I)V -/
def m_X6_faultAt (x0 : Nat) (x1 : Int32) (h : bb_H) : Option bb_H :=
  (bb_pI h x0 6 5 ((-20) - x1)).bind fun g5 =>
  some g5
/-- BattleBench$Tape.isDigit()Z -/
def m_X6_isDigit (x0 : Nat) (h : bb_H) : Option (Int32 × bb_H) :=
  (bb_rcv h x0 6 (m_X6_here x0 h)).bind fun r1 =>
  (m_X7_within r1.1 48 57 r1.2).bind fun r8 =>
  bb_rz r8.1 r8.2
/-- BattleBench$Tape.readDigit()I -/
def m_X6_readDigit (x0 : Nat) (h : bb_H) : Option (Int32 × bb_H) :=
  (bb_rcv h x0 6 (m_X6_here x0 h)).bind fun r1 =>
  (bb_gI r1.2 x0 6 4).bind fun t10 =>
  (bb_pI r1.2 x0 6 4 (t10 + 1)).bind fun g15 =>
  some (r1.1 - 48, g15)
/-- BattleBench$Tape.readLife()I -/
def m_X6_readLife_63 (x2 : Int32) (h : bb_H) : Option (Int32 × bb_H) :=
  some (x2, h)
def m_X6_readLife_48 (x0 : Nat) (x1 : Int32) (x2 : Int32) (h : bb_H) : Option (Int32 × bb_H) :=
  (m_X7_within x2 1 60 h).bind fun r52 =>
  if r52.1 = 0 then
    (bb_rcv r52.2 x0 6 (m_X6_faultAt x0 x1 r52.2)).bind fun g60 =>
    m_X6_readLife_63 x2 g60
  else
  m_X6_readLife_63 x2 r52.2
def m_X6_readLife (x0 : Nat) (h : bb_H) : Option (Int32 × bb_H) :=
  (bb_rcv h x0 6 (m_X6_skipBlanks x0 h)).bind fun g1 =>
  (bb_gI g1 x0 6 4).bind fun t5 =>
  (bb_rcv g1 x0 6 (m_X6_isDigit x0 g1)).bind fun r10 =>
  if r10.1 = 0 then
    (bb_gI r10.2 x0 6 4).bind fun t18 =>
    (bb_rcv r10.2 x0 6 (m_X6_faultAt x0 t18 r10.2)).bind fun g21 =>
    some (0, g21)
  else
  (bb_rcv r10.2 x0 6 (m_X6_readDigit x0 r10.2)).bind fun r27 =>
  (bb_rcv r27.2 x0 6 (m_X6_isDigit x0 r27.2)).bind fun r32 =>
  if r32.1 = 0 then
    m_X6_readLife_48 x0 t5 r27.1 r32.2
  else
  (bb_rcv r32.2 x0 6 (m_X6_readDigit x0 r32.2)).bind fun r43 =>
  m_X6_readLife_48 x0 t5 ((10 * r27.1) + r43.1) r43.2
/-- BattleBench$Tape.readPlaces()V -/
def m_X6_readPlaces_36 (x0 : Nat) (h : bb_H) : Option bb_H :=
  (bb_gI h x0 6 4).bind fun t38 =>
  (bb_rcv h x0 6 (m_X6_faultAt x0 t38 h)).bind fun g41 =>
  some g41
def m_X6_readPlaces_2 : Nat → Nat → Int32 → bb_H → Option bb_H
  | 0, _, _, _ => none
  | n + 1, x0, x1, h =>
    if 3 ≤ x1 then
      some h
    else
    (bb_rcv h x0 6 (m_X6_skipBlanks x0 h)).bind fun g8 =>
    (bb_rcv g8 x0 6 (m_X6_isDigit x0 g8)).bind fun r12 =>
    if r12.1 = 0 then
      m_X6_readPlaces_36 x0 r12.2
    else
    (bb_gR r12.2 x0 6 2).bind fun t19 =>
    (bb_rcv r12.2 x0 6 (m_X6_here x0 r12.2)).bind fun r24 =>
    (bb_rcv r24.2 t19 3 (m_X3_isTaken t19 x1 (r24.1 - 48) r24.2)).bind fun r30 =>
    if r30.1 = 0 then
      (bb_gR r30.2 x0 6 2).bind fun t46 =>
      (bb_rcv r30.2 x0 6 (m_X6_readDigit x0 r30.2)).bind fun r51 =>
      (bb_rcv r51.2 t46 3 (m_X3_placeNext t46 x1 r51.1 r51.2)).bind fun g54 =>
      m_X6_readPlaces_2 n x0 (x1 + 1) g54
    else
    m_X6_readPlaces_36 x0 r30.2
def m_X6_readPlaces (x0 : Nat) (h : bb_H) : Option bb_H :=
  m_X6_readPlaces_2 1000 x0 0 h
/-- BattleBench$Tape.readMan()V -/
def m_X6_readMan_157 (h : bb_H) : Option bb_H :=
  some h
def m_X6_readMan_117 (x0 : Nat) (x2 : Int32) (x3 : Int32) (h : bb_H) : Option bb_H :=
  (bb_gI h x0 6 5).bind fun t118 =>
  if t118 = 0 then
    (bb_gR h x0 6 2).bind fun t125 =>
    (bb_gI h t125 3 0).bind fun t128 =>
    if 6 ≤ t128 then
      m_X6_readMan_157 h
    else
    (bb_gR h x0 6 3).bind fun t137 =>
    (bb_gR h x0 6 2).bind fun t141 =>
    (bb_gI h t141 3 0).bind fun t144 =>
    (bb_sV h t137 .int t144 (.int x3)).bind fun g148 =>
    (bb_gR g148 x0 6 2).bind fun t150 =>
    (bb_rcv g148 t150 3 (m_X3_adm t150 x2 g148)).bind fun g154 =>
    m_X6_readMan_157 g154
  else
  m_X6_readMan_157 h
def m_X6_readMan (x0 : Nat) (h : bb_H) : Option bb_H :=
  (bb_rcv h x0 6 (m_X6_skipBlanks x0 h)).bind fun g1 =>
  (bb_gI g1 x0 6 4).bind fun t5 =>
  (bb_rcv g1 x0 6 (m_X6_here x0 g1)).bind fun r12 =>
  if 0 ≤ (bb_kix r12.1) then
    (bb_gI r12.2 x0 6 4).bind fun t34 =>
    (bb_pI r12.2 x0 6 4 (t34 + 1)).bind fun g39 =>
    (bb_rcv g39 x0 6 (m_X6_readLife x0 g39)).bind fun r43 =>
    (bb_gI r43.2 x0 6 5).bind fun t48 =>
    if t48 = 0 then
      (bb_rcv r43.2 x0 6 (m_X6_skipBlanks x0 r43.2)).bind fun g56 =>
      (bb_rcv g56 x0 6 (m_X6_here x0 g56)).bind fun r60 =>
      if r60.1 = 46 then
        (bb_gI r60.2 x0 6 4).bind fun t70 =>
        (bb_pI r60.2 x0 6 4 (t70 + 1)).bind fun g75 =>
        (bb_rcv g75 x0 6 (m_X6_readPlaces x0 g75)).bind fun g79 =>
        m_X6_readMan_117 x0 (bb_kix r12.1) r43.1 g79
      else
      (bb_gR r60.2 x0 6 2).bind fun t86 =>
      (bb_gR r60.2 x0 6 2).bind fun t90 =>
      (bb_gI r60.2 t90 3 0).bind fun t93 =>
      (bb_rcv r60.2 t86 3 (m_X3_isTakenAtAnyHour t86 t93 r60.2)).bind fun r96 =>
      if r96.1 = 0 then
        (bb_gR r96.2 x0 6 2).bind fun t111 =>
        (bb_rcv r96.2 t111 3 (m_X3_placeNextByNumber t111 r96.2)).bind fun g114 =>
        m_X6_readMan_117 x0 (bb_kix r12.1) r43.1 g114
      else
      (bb_rcv r96.2 x0 6 (m_X6_faultAt x0 t5 r96.2)).bind fun g104 =>
      m_X6_readMan_117 x0 (bb_kix r12.1) r43.1 g104
    else
    some r43.2
  else
  (bb_gI r12.2 x0 6 4).bind fun t25 =>
  (bb_rcv r12.2 x0 6 (m_X6_faultAt x0 t25 r12.2)).bind fun g28 =>
  some g28
/-- BattleBench$Tape.readComma()Z -/
def m_X6_readComma_38 (x0 : Nat) (h : bb_H) : Option (Int32 × bb_H) :=
  (bb_gI h x0 6 4).bind fun t40 =>
  (bb_rcv h x0 6 (m_X6_faultAt x0 t40 h)).bind fun g43 =>
  some (0, g43)
def m_X6_readComma (x0 : Nat) (h : bb_H) : Option (Int32 × bb_H) :=
  (bb_rcv h x0 6 (m_X6_skipBlanks x0 h)).bind fun g1 =>
  (bb_gI g1 x0 6 4).bind fun t5 =>
  (bb_gI g1 x0 6 1).bind fun t9 =>
  if t5 < t9 then
    (bb_rcv g1 x0 6 (m_X6_here x0 g1)).bind fun r18 =>
    if r18.1 = 44 then
      (bb_gR r18.2 x0 6 2).bind fun t27 =>
      (bb_gI r18.2 t27 3 0).bind fun t30 =>
      if t30 < 6 then
        (bb_gI r18.2 x0 6 4).bind fun t50 =>
        (bb_pI r18.2 x0 6 4 (t50 + 1)).bind fun g55 =>
        some (1, g55)
      else
      m_X6_readComma_38 x0 r18.2
    else
    m_X6_readComma_38 x0 r18.2
  else
  some (0, g1)
/-- BattleBench$Tape.readBench()I -/
def m_X6_readBench_53 (x0 : Nat) (h : bb_H) : Option (Int32 × bb_H) :=
  (bb_gI h x0 6 5).bind fun t54 =>
  some (t54, h)
def m_X6_readBench_20 : Nat → Nat → Int32 → bb_H → Option (Int32 × bb_H)
  | 0, _, _, _ => none
  | n + 1, x0, x1, h =>
    if 6 ≤ x1 then
      m_X6_readBench_53 x0 h
    else
    (bb_rcv h x0 6 (m_X6_readMan x0 h)).bind fun g27 =>
    (bb_gI g27 x0 6 5).bind fun t31 =>
    if t31 = 0 then
      (bb_rcv g27 x0 6 (m_X6_readComma x0 g27)).bind fun r38 =>
      if r38.1 = 0 then
        m_X6_readBench_53 x0 r38.2
      else
      m_X6_readBench_20 n x0 (x1 + 1) r38.2
    else
    m_X6_readBench_53 x0 g27
def m_X6_readBench (x0 : Nat) (h : bb_H) : Option (Int32 × bb_H) :=
  (bb_pI h x0 6 4 0).bind fun g2 =>
  (bb_pI g2 x0 6 5 0).bind fun g7 =>
  (bb_gR g7 x0 6 2).bind fun t11 =>
  (bb_pI g7 t11 3 0 0).bind fun g15 =>
  m_X6_readBench_20 1000 x0 0 g15
/-- BattleBench.man(II)I -/
def m_X7_man_19 (h : bb_H) : Option (Int32 × bb_H) :=
  some ((-1), h)
def m_X7_man (x0 : Nat) (x1 : Int32) (x2 : Int32) (h : bb_H) : Option (Int32 × bb_H) :=
  (m_X7_within x1 0 4 h).bind fun r3 =>
  if r3.1 = 0 then
    m_X7_man_19 r3.2
  else
  (m_X7_within x2 1 60 r3.2).bind fun r13 =>
  if r13.1 = 0 then
    m_X7_man_19 r13.2
  else
  (bb_gR r13.2 x0 7 0).bind fun t22 =>
  (bb_gR r13.2 t22 5 0).bind fun t25 =>
  (bb_gI r13.2 t25 3 0).bind fun t30 =>
  if t30 < 6 then
    (bb_rcv r13.2 t25 3 (m_X3_isTakenAtAnyHour t25 t30 r13.2)).bind fun r48 =>
    if r48.1 = 0 then
      (bb_rcv r48.2 t25 3 (m_X3_placeNextByNumber t25 r48.2)).bind fun g58 =>
      (bb_rcv g58 t25 3 (m_X3_adm t25 x1 g58)).bind fun g63 =>
      (bb_rcv g63 t25 3 (m_X3_findWhoStoodBy t25 g63)).bind fun g67 =>
      (bb_gR g67 x0 7 0).bind fun t71 =>
      (bb_gR g67 t71 5 1).bind fun t74 =>
      (bb_rcv g67 t74 0 (m_X0_seatLast t74 t30 x2 g67)).bind fun g80 =>
      (bb_gR g80 x0 7 0).bind fun t84 =>
      (bb_gR g80 t84 5 2).bind fun t87 =>
      (bb_rcv g80 t87 1 (m_X1_forget t87 g80)).bind fun g90 =>
      some (t30, g90)
    else
    some ((-2), r48.2)
  else
  some ((-3), r13.2)
/-- BattleBench.isHour(I)Z -/
def m_X7_isHour (x0 : Int32) (h : bb_H) : Option (Int32 × bb_H) :=
  (m_X7_within x0 0 2 h).bind fun r3 =>
  bb_rz r3.1 r3.2
/-- BattleBench.stood(III)I -/
def m_X7_stood_35 (h : bb_H) : Option (Int32 × bb_H) :=
  some ((-1), h)
def m_X7_stood (x0 : Nat) (x1 : Int32) (x2 : Int32) (x3 : Int32) (h : bb_H) : Option (Int32 × bb_H) :=
  (bb_gR h x0 7 0).bind fun t1 =>
  (bb_gR h t1 5 0).bind fun t4 =>
  (bb_rcv h t4 3 (m_X3_has t4 x1 h)).bind fun r12 =>
  if r12.1 = 0 then
    m_X7_stood_35 r12.2
  else
  (m_X7_isHour x2 r12.2).bind fun r19 =>
  if r19.1 = 0 then
    m_X7_stood_35 r19.2
  else
  (m_X7_within x3 0 9 r19.2).bind fun r29 =>
  if r29.1 = 0 then
    m_X7_stood_35 r29.2
  else
  (bb_rcv r29.2 t4 3 (m_X3_isTaken t4 x2 x3 r29.2)).bind fun r41 =>
  if r41.1 = 0 then
    (bb_gR r41.2 t4 3 2).bind fun t52 =>
    (bb_aR r41.2 t52 (.array .int) x2).bind fun t56 =>
    (bb_aI r41.2 t56 .int x1).bind fun t58 =>
    (bb_gR r41.2 t4 3 2).bind fun t63 =>
    (bb_aR r41.2 t63 (.array .int) x2).bind fun t67 =>
    (bb_sV r41.2 t67 .int x1 (.int x3)).bind fun g70 =>
    (bb_rcv g70 t4 3 (m_X3_findWhoStoodBy t4 g70)).bind fun g73 =>
    some (t58, g73)
  else
  some ((-2), r41.2)
/-- BattleBench.of(II)I -/
def m_X7_of_102 (x1 : Int32) (x2 : Int32) (x3 : Nat) (h : bb_H) : Option (Int32 × bb_H) :=
  (bb_gR h x3 3 2).bind fun t103 =>
  (bb_aR h t103 (.array .int) (x2 - 3)).bind fun t109 =>
  (bb_aI h t109 .int x1).bind fun t111 =>
  some (t111, h)
def m_X7_of (x0 : Nat) (x1 : Int32) (x2 : Int32) (h : bb_H) : Option (Int32 × bb_H) :=
  (bb_gR h x0 7 0).bind fun t1 =>
  (bb_gR h t1 5 0).bind fun t4 =>
  (bb_rcv h t4 3 (m_X3_has t4 x1 h)).bind fun r10 =>
  if r10.1 = 0 then
    some ((-1), r10.2)
  else
  (bb_gR r10.2 x0 7 0).bind fun t19 =>
  (bb_gR r10.2 t19 5 1).bind fun t22 =>
  if x2 = 0 then
    (bb_gR r10.2 t4 3 1).bind fun t81 =>
    (bb_aI r10.2 t81 .int x1).bind fun t85 =>
    some (t85, r10.2)
  else
  if x2 = 1 then
    (bb_gR r10.2 t22 0 0).bind fun t89 =>
    (bb_aI r10.2 t89 .int x1).bind fun t93 =>
    some (t93, r10.2)
  else
  if x2 = 2 then
    (bb_rcv r10.2 t22 0 (m_X0_seatOf t22 x1 r10.2)).bind fun r98 =>
    some (r98.1, r98.2)
  else
  if x2 = 3 then
    m_X7_of_102 x1 x2 t4 r10.2
  else
  if x2 = 4 then
    m_X7_of_102 x1 x2 t4 r10.2
  else
  if x2 = 5 then
    m_X7_of_102 x1 x2 t4 r10.2
  else
  if x2 = 6 then
    (bb_gR r10.2 t4 3 3).bind fun t114 =>
    (bb_aI r10.2 t114 .int x1).bind fun t118 =>
    some (t118, r10.2)
  else
  if x2 = 7 then
    (bb_rcv r10.2 t22 0 (m_X0_whoSitsBy t22 x1 r10.2)).bind fun r123 =>
    some (r123.1, r123.2)
  else
  if x2 = 8 then
    (bb_rcv r10.2 t22 0 (m_X0_lossOf t22 x1 t4 r10.2)).bind fun r131 =>
    some (r131.1, r131.2)
  else
  some ((-1), r10.2)
/-- BattleBench.seat(I)I -/
def m_X7_seat_19 (z0 : Int32) (h : bb_H) : Option (Int32 × bb_H) :=
  some (z0, h)
def m_X7_seat (x0 : Nat) (x1 : Int32) (h : bb_H) : Option (Int32 × bb_H) :=
  if 0 ≤ x1 then
    (bb_gR h x0 7 0).bind fun t9 =>
    (bb_gR h t9 5 1).bind fun t12 =>
    (bb_rcv h t12 0 (m_X0_whoIsOn t12 x1 h)).bind fun r16 =>
    m_X7_seat_19 r16.1 r16.2
  else
  m_X7_seat_19 (-1) h
/-- BattleBench.type(I)I -/
def m_X7_type (x0 : Nat) (x1 : Int32) (h : bb_H) : Option (Int32 × bb_H) :=
  (m_X7_within x1 32 126 h).bind fun r5 =>
  if r5.1 = 0 then
    some ((-1), r5.2)
  else
  (bb_gR r5.2 x0 7 3).bind fun t14 =>
  (bb_gI r5.2 t14 6 1).bind fun t17 =>
  if t17 < 70 then
    (bb_gR r5.2 x0 7 3).bind fun t29 =>
    (bb_rcv r5.2 t29 6 (m_X6_add t29 (((x1 : Int32).toUInt32 % 65536).toInt32) r5.2)).bind fun g34 =>
    (bb_gR g34 x0 7 3).bind fun t38 =>
    (bb_gI g34 t38 6 1).bind fun t41 =>
    some (t41, g34)
  else
  some ((-3), r5.2)
/-- BattleBench.read()I -/
def m_X7_read (x0 : Nat) (h : bb_H) : Option (Int32 × bb_H) :=
  (bb_gR h x0 7 3).bind fun t1 =>
  (bb_rcv h t1 6 (m_X6_readBench t1 h)).bind fun r4 =>
  (bb_gR r4.2 x0 7 3).bind fun t9 =>
  (bb_pI r4.2 t9 6 1 0).bind fun g13 =>
  if r4.1 = 0 then
    (bb_gR g13 x0 7 0).bind fun t23 =>
    (bb_gR g13 t23 5 0).bind fun t26 =>
    (bb_gR g13 x0 7 3).bind fun t30 =>
    (bb_gR g13 t30 6 2).bind fun t33 =>
    (bb_rcv g13 t26 3 (m_X3_takeFrom t26 t33 g13)).bind fun g36 =>
    (bb_gR g36 x0 7 0).bind fun t40 =>
    (bb_gR g36 t40 5 0).bind fun t43 =>
    (bb_rcv g36 t43 3 (m_X3_findWhoStoodBy t43 g36)).bind fun g46 =>
    (bb_gR g46 x0 7 0).bind fun t50 =>
    (bb_gR g46 t50 5 1).bind fun t53 =>
    (bb_gR g46 x0 7 3).bind fun t57 =>
    (bb_gR g46 t57 6 2).bind fun t60 =>
    (bb_gI g46 t60 3 0).bind fun t63 =>
    (bb_gR g46 x0 7 3).bind fun t67 =>
    (bb_gR g46 t67 6 3).bind fun t70 =>
    (bb_rcv g46 t53 0 (m_X0_seatAll t53 t63 t70 g46)).bind fun g73 =>
    (bb_gR g73 x0 7 0).bind fun t77 =>
    (bb_gR g73 t77 5 2).bind fun t80 =>
    (bb_rcv g73 t80 1 (m_X1_forget t80 g73)).bind fun g83 =>
    (bb_gR g83 x0 7 0).bind fun t87 =>
    (bb_gR g83 t87 5 0).bind fun t90 =>
    (bb_gI g83 t90 3 0).bind fun t93 =>
    some (t93, g83)
  else
  some (r4.1, g13)
/-- BattleBench.count(I)I -/
def m_X7_count (x0 : Nat) (x1 : Int32) (h : bb_H) : Option (Int32 × bb_H) :=
  (bb_gR h x0 7 0).bind fun t1 =>
  (bb_gR h t1 5 1).bind fun t4 =>
  if x1 = 0 then
    (bb_gR h x0 7 0).bind fun t53 =>
    (bb_gR h t53 5 0).bind fun t56 =>
    (bb_gI h t56 3 0).bind fun t59 =>
    some (t59, h)
  else
  if x1 = 1 then
    (bb_gI h t4 0 2).bind fun t64 =>
    some (t64, h)
  else
  if x1 = 2 then
    (bb_gI h t4 0 3).bind fun t69 =>
    some (t69, h)
  else
  if x1 = 3 then
    (bb_rcv h t4 0 (m_X0_whoSits t4 h)).bind fun r74 =>
    some (r74.1, r74.2)
  else
  if x1 = 4 then
    (bb_rcv h t4 0 (m_X0_lifeOfAll t4 h)).bind fun r79 =>
    some (r79.1, r79.2)
  else
  if x1 = 5 then
    (bb_gR h x0 7 0).bind fun t84 =>
    (bb_gR h t84 5 0).bind fun t87 =>
    (bb_gR h t4 0 1).bind fun t91 =>
    (bb_gI h t4 0 2).bind fun t95 =>
    (bb_rcv h t87 3 (m_X3_wrongPairs t87 t91 t95 h)).bind fun r98 =>
    some (r98.1, r98.2)
  else
  if x1 = 6 then
    (bb_gR h x0 7 0).bind fun t103 =>
    (bb_gR h t103 5 2).bind fun t106 =>
    (bb_gI h t106 1 1).bind fun t109 =>
    some (t109, h)
  else
  some ((-1), h)
/-- BattleBench.goOn(IZ)I -/
def m_X7_goOn_63 (k38 : Nat → Int32 → Int32 → Nat → Int32 → bb_H → Option (Int32 × bb_H)) (x0 : Nat) (x1 : Int32) (x2 : Int32) (x3 : Nat) (x4 : Int32) (h : bb_H) : Option (Int32 × bb_H) :=
  (bb_gR h x0 7 0).bind fun t65 =>
  (bb_gR h t65 5 0).bind fun t68 =>
  (bb_rcv h x3 0 (m_X0_passYear x3 t68 h)).bind fun g71 =>
  k38 x0 x1 x2 x3 (x4 + 1) g71
def m_X7_goOn_38 : Nat → Nat → Int32 → Int32 → Nat → Int32 → bb_H → Option (Int32 × bb_H)
  | 0, _, _, _, _, _, _ => none
  | n + 1, x0, x1, x2, x3, x4, h =>
    if x1 ≤ x4 then
      (bb_rcv h x3 0 (m_X0_whoSits x3 h)).bind fun r81 =>
      some (r81.1, r81.2)
    else
    (bb_gR h x0 7 0).bind fun t45 =>
    (bb_gR h t45 5 2).bind fun t48 =>
    (bb_rcv h t48 1 (m_X1_keep t48 x3 h)).bind fun g52 =>
    if x2 = 0 then
      m_X7_goOn_63 (m_X7_goOn_38 n) x0 x1 x2 x3 x4 g52
    else
    (bb_rcv g52 x3 0 (m_X0_moveByDraw x3 g52)).bind fun g60 =>
    m_X7_goOn_63 (m_X7_goOn_38 n) x0 x1 x2 x3 x4 g60
def m_X7_goOn (x0 : Nat) (x1 : Int32) (x2 : Int32) (h : bb_H) : Option (Int32 × bb_H) :=
  (m_X7_within x1 1 40 h).bind fun r4 =>
  if r4.1 = 0 then
    some ((-1), r4.2)
  else
  (bb_gR r4.2 x0 7 0).bind fun t13 =>
  (bb_gR r4.2 t13 5 1).bind fun t16 =>
  (bb_gI r4.2 t16 0 3).bind fun t21 =>
  if (t21 + x1) ≤ 9999 then
    m_X7_goOn_38 1000 x0 x1 x2 t16 0 r4.2
  else
  some ((-3), r4.2)
/-- BattleBench.years(I)I -/
def m_X7_years (x0 : Nat) (x1 : Int32) (h : bb_H) : Option (Int32 × bb_H) :=
  (bb_rcv h x0 7 (m_X7_goOn x0 x1 0 h)).bind fun r3 =>
  some (r3.1, r3.2)
/-- BattleBench.move(I)I -/
def m_X7_move (x0 : Nat) (x1 : Int32) (h : bb_H) : Option (Int32 × bb_H) :=
  (bb_gR h x0 7 0).bind fun t1 =>
  (bb_gR h t1 5 1).bind fun t4 =>
  (bb_rcv h t4 0 (m_X0_hasPairAt t4 x1 h)).bind fun r10 =>
  if r10.1 = 0 then
    some ((-1), r10.2)
  else
  (bb_gR r10.2 x0 7 0).bind fun t19 =>
  (bb_gR r10.2 t19 5 2).bind fun t22 =>
  (bb_rcv r10.2 t22 1 (m_X1_keep t22 t4 r10.2)).bind fun g26 =>
  (bb_rcv g26 t4 0 (m_X0_swapAt t4 x1 g26)).bind fun g31 =>
  (bb_rcv g31 t4 0 (m_X0_whoIsOn t4 x1 g31)).bind fun r36 =>
  some (r36.1, r36.2)
/-- BattleBench.nurse(II)I -/
def m_X7_nurse_24 (h : bb_H) : Option (Int32 × bb_H) :=
  some ((-1), h)
def m_X7_nurse (x0 : Nat) (x1 : Int32) (x2 : Int32) (h : bb_H) : Option (Int32 × bb_H) :=
  (bb_gR h x0 7 0).bind fun t1 =>
  (bb_gR h t1 5 0).bind fun t4 =>
  (bb_rcv h t4 3 (m_X3_has t4 x1 h)).bind fun r8 =>
  if r8.1 = 0 then
    m_X7_nurse_24 r8.2
  else
  (m_X7_within x2 1 60 r8.2).bind fun r18 =>
  if r18.1 = 0 then
    m_X7_nurse_24 r18.2
  else
  (bb_gR r18.2 x0 7 0).bind fun t27 =>
  (bb_gR r18.2 t27 5 1).bind fun t30 =>
  (bb_rcv r18.2 t30 0 (m_X0_seatOf t30 x1 r18.2)).bind fun r36 =>
  if r36.1 = (-4) then
    some ((-2), r36.2)
  else
  (bb_gR r36.2 x0 7 0).bind fun t48 =>
  (bb_gR r36.2 t48 5 2).bind fun t51 =>
  (bb_rcv r36.2 t51 1 (m_X1_keep t51 t30 r36.2)).bind fun g55 =>
  (bb_gR g55 t30 0 0).bind fun t59 =>
  (bb_gR g55 t30 0 0).bind fun t66 =>
  (bb_aI g55 t66 .int x1).bind fun t70 =>
  (bb_sV g55 t59 .int x1 (.int (bb_min 60 (t70 + x2)))).bind fun g76 =>
  (bb_gR g76 t30 0 0).bind fun t78 =>
  (bb_aI g76 t78 .int x1).bind fun t82 =>
  some (t82, g76)
/-- BattleBench.drift(I)I -/
def m_X7_drift (x0 : Nat) (x1 : Int32) (h : bb_H) : Option (Int32 × bb_H) :=
  (bb_rcv h x0 7 (m_X7_goOn x0 x1 1 h)).bind fun r3 =>
  some (r3.1, r3.2)
/-- BattleBench.undo()I -/
def m_X7_undo (x0 : Nat) (h : bb_H) : Option (Int32 × bb_H) :=
  (bb_gR h x0 7 0).bind fun t1 =>
  (bb_gR h t1 5 2).bind fun t4 =>
  (bb_gI h t4 1 1).bind fun t7 =>
  if t7 = 0 then
    some ((-4), h)
  else
  (bb_gR h x0 7 0).bind fun t17 =>
  (bb_gR h t17 5 2).bind fun t20 =>
  (bb_gR h x0 7 0).bind fun t24 =>
  (bb_gR h t24 5 1).bind fun t27 =>
  (bb_rcv h t20 1 (m_X1_giveBack t20 t27 h)).bind fun g30 =>
  (bb_gR g30 x0 7 0).bind fun t34 =>
  (bb_gR g30 t34 5 2).bind fun t37 =>
  (bb_gI g30 t37 1 1).bind fun t40 =>
  some (t40, g30)
/-- BattleBench.seed(I)I -/
def m_X7_seed (x0 : Nat) (x1 : Int32) (h : bb_H) : Option (Int32 × bb_H) :=
  if 0 ≤ x1 then
    (bb_gR h x0 7 0).bind fun t7 =>
    (bb_gR h t7 5 1).bind fun t10 =>
    (bb_gI h t10 0 4).bind fun t13 =>
    (bb_gR h x0 7 0).bind fun t18 =>
    (bb_gR h t18 5 1).bind fun t21 =>
    (bb_pI h t21 0 4 x1).bind fun g25 =>
    some (t13, g25)
  else
  some ((-1), h)
/-- BattleBench.foretell(I)V -/
def m_X7_foretell (x0 : Nat) (x1 : Int32) (h : bb_H) : Option bb_H :=
  (bb_gR h x0 7 5).bind fun t1 =>
  (bb_gR h x0 7 0).bind fun t5 =>
  (bb_gR h t5 5 1).bind fun t8 =>
  (bb_rcv h t1 0 (m_X0_takeFrom t1 t8 h)).bind fun g11 =>
  (bb_gR g11 x0 7 5).bind fun t15 =>
  (bb_gR g11 x0 7 0).bind fun t20 =>
  (bb_gR g11 t20 5 0).bind fun t23 =>
  (bb_rcv g11 t15 0 (m_X0_passYears t15 x1 t23 g11)).bind fun g26 =>
  some g26
/-- BattleBench.ahead(II)I -/
def m_X7_ahead_24 (h : bb_H) : Option (Int32 × bb_H) :=
  some ((-1), h)
def m_X7_ahead (x0 : Nat) (x1 : Int32) (x2 : Int32) (h : bb_H) : Option (Int32 × bb_H) :=
  (bb_gR h x0 7 0).bind fun t1 =>
  (bb_gR h t1 5 0).bind fun t4 =>
  (bb_rcv h t4 3 (m_X3_has t4 x1 h)).bind fun r8 =>
  if r8.1 = 0 then
    m_X7_ahead_24 r8.2
  else
  (m_X7_within x2 0 60 r8.2).bind fun r18 =>
  if r18.1 = 0 then
    m_X7_ahead_24 r18.2
  else
  (bb_rcv r18.2 x0 7 (m_X7_foretell x0 x2 r18.2)).bind fun g28 =>
  (bb_gR g28 x0 7 5).bind fun t32 =>
  (bb_gR g28 t32 0 0).bind fun t35 =>
  (bb_aI g28 t35 .int x1).bind fun t39 =>
  some (t39, g28)
/-- BattleBench.then(I)I -/
def m_X7_then (x0 : Nat) (x1 : Int32) (h : bb_H) : Option (Int32 × bb_H) :=
  (m_X7_within x1 0 60 h).bind fun r4 =>
  if r4.1 = 0 then
    some ((-1), r4.2)
  else
  (bb_rcv r4.2 x0 7 (m_X7_foretell x0 x1 r4.2)).bind fun g14 =>
  (bb_gR g14 x0 7 5).bind fun t18 =>
  (bb_rcv g14 t18 0 (m_X0_whoSits t18 g14)).bind fun r21 =>
  some (r21.1, r21.2)
/-- BattleBench.ends(I)I -/
def m_X7_ends_32 : Nat → Nat → Int32 → Int32 → bb_H → Option (Int32 × bb_H)
  | 0, _, _, _, _ => none
  | n + 1, x0, x1, x2, h =>
    if 60 < x2 then
      some ((-4), h)
    else
    (bb_gR h x0 7 5).bind fun t39 =>
    (bb_rcv h t39 0 (m_X0_seatOf t39 x1 h)).bind fun r43 =>
    if r43.1 = (-4) then
      some (x2, r43.2)
    else
    (bb_gR r43.2 x0 7 5).bind fun t54 =>
    (bb_gR r43.2 x0 7 0).bind fun t58 =>
    (bb_gR r43.2 t58 5 0).bind fun t61 =>
    (bb_rcv r43.2 t54 0 (m_X0_passYear t54 t61 r43.2)).bind fun g64 =>
    m_X7_ends_32 n x0 x1 (x2 + 1) g64
def m_X7_ends (x0 : Nat) (x1 : Int32) (h : bb_H) : Option (Int32 × bb_H) :=
  (bb_gR h x0 7 0).bind fun t1 =>
  (bb_gR h t1 5 0).bind fun t4 =>
  (bb_rcv h t4 3 (m_X3_has t4 x1 h)).bind fun r8 =>
  if r8.1 = 0 then
    some ((-1), r8.2)
  else
  (bb_gR r8.2 x0 7 5).bind fun t17 =>
  (bb_gR r8.2 x0 7 0).bind fun t21 =>
  (bb_gR r8.2 t21 5 1).bind fun t24 =>
  (bb_rcv r8.2 t17 0 (m_X0_takeFrom t17 t24 r8.2)).bind fun g27 =>
  m_X7_ends_32 1000 x0 x1 0 g27
/-- BattleBench.lonely()I -/
def m_X7_lonely_16 : Nat → Nat → Int32 → bb_H → Option (Int32 × bb_H)
  | 0, _, _, _ => none
  | n + 1, x0, x1, h =>
    if 60 < x1 then
      some ((-4), h)
    else
    (bb_gR h x0 7 5).bind fun t23 =>
    (bb_gI h t23 0 2).bind fun t26 =>
    if 1 < t26 then
      (bb_gR h x0 7 5).bind fun t36 =>
      (bb_gR h x0 7 0).bind fun t40 =>
      (bb_gR h t40 5 0).bind fun t43 =>
      (bb_rcv h t36 0 (m_X0_passYear t36 t43 h)).bind fun g46 =>
      m_X7_lonely_16 n x0 (x1 + 1) g46
    else
    some (x1, h)
def m_X7_lonely (x0 : Nat) (h : bb_H) : Option (Int32 × bb_H) :=
  (bb_gR h x0 7 5).bind fun t1 =>
  (bb_gR h x0 7 0).bind fun t5 =>
  (bb_gR h t5 5 1).bind fun t8 =>
  (bb_rcv h t1 0 (m_X0_takeFrom t1 t8 h)).bind fun g11 =>
  m_X7_lonely_16 1000 x0 0 g11
/-- BattleBench.close(II)I -/
def m_X7_close_33 (h : bb_H) : Option (Int32 × bb_H) :=
  some ((-1), h)
def m_X7_close_51 : Nat → Nat → Int32 → Int32 → Int32 → bb_H → Option (Int32 × bb_H)
  | 0, _, _, _, _, _ => none
  | n + 1, x0, x1, x2, x3, h =>
    if 60 < x3 then
      some ((-4), h)
    else
    (bb_gR h x0 7 5).bind fun t58 =>
    (bb_rcv h t58 0 (m_X0_whoSitsBy t58 x1 h)).bind fun r62 =>
    (m_X7_holds r62.1 x2 r62.2).bind fun r66 =>
    if r66.1 = 0 then
      (bb_gR r66.2 x0 7 5).bind fun t75 =>
      (bb_gR r66.2 x0 7 0).bind fun t79 =>
      (bb_gR r66.2 t79 5 0).bind fun t82 =>
      (bb_rcv r66.2 t75 0 (m_X0_passYear t75 t82 r66.2)).bind fun g85 =>
      m_X7_close_51 n x0 x1 x2 (x3 + 1) g85
    else
    some (x3, r66.2)
def m_X7_close (x0 : Nat) (x1 : Int32) (x2 : Int32) (h : bb_H) : Option (Int32 × bb_H) :=
  (bb_gR h x0 7 0).bind fun t1 =>
  (bb_gR h t1 5 0).bind fun t4 =>
  (bb_rcv h t4 3 (m_X3_has t4 x1 h)).bind fun r8 =>
  if r8.1 = 0 then
    m_X7_close_33 r8.2
  else
  (bb_gR r8.2 x0 7 0).bind fun t15 =>
  (bb_gR r8.2 t15 5 0).bind fun t18 =>
  (bb_rcv r8.2 t18 3 (m_X3_has t18 x2 r8.2)).bind fun r22 =>
  if r22.1 = 0 then
    m_X7_close_33 r22.2
  else
  if x1 = x2 then
    m_X7_close_33 r22.2
  else
  (bb_gR r22.2 x0 7 5).bind fun t36 =>
  (bb_gR r22.2 x0 7 0).bind fun t40 =>
  (bb_gR r22.2 t40 5 1).bind fun t43 =>
  (bb_rcv r22.2 t36 0 (m_X0_takeFrom t36 t43 r22.2)).bind fun g46 =>
  m_X7_close_51 1000 x0 x1 x2 0 g46
/-- BattleBench.swaps(I)I -/
def m_X7_swaps_84 (k36 : Nat → Nat → Int32 → Int32 → bb_H → Option (Int32 × bb_H)) (k51 : Nat → Nat → Int32 → Int32 → Int32 → bb_H → Option (Int32 × bb_H)) (x2 : Nat) (x3 : Nat) (x4 : Int32) (x5 : Int32) (x6 : Int32) (h : bb_H) : Option (Int32 × bb_H) :=
  k51 x2 x3 x4 x5 (x6 + 1) h
def m_X7_swaps_51 (k36 : Nat → Nat → Int32 → Int32 → bb_H → Option (Int32 × bb_H)) : Nat → Nat → Nat → Int32 → Int32 → Int32 → bb_H → Option (Int32 × bb_H)
  | 0, _, _, _, _, _, _ => none
  | n + 1, x2, x3, x4, x5, x6, h =>
    (bb_gI h x2 0 2).bind fun t54 =>
    if t54 ≤ x6 then
      k36 x2 x3 x4 (x5 + 1) h
    else
    (bb_gR h x2 0 1).bind fun t62 =>
    (bb_aI h t62 .int x5).bind fun t67 =>
    (bb_aI h x3 .int t67).bind fun t68 =>
    (bb_gR h x2 0 1).bind fun t71 =>
    (bb_aI h t71 .int x6).bind fun t76 =>
    (bb_aI h x3 .int t76).bind fun t77 =>
    if t68 ≤ t77 then
      m_X7_swaps_84 k36 (m_X7_swaps_51 k36 n) x2 x3 x4 x5 x6 h
    else
    m_X7_swaps_84 k36 (m_X7_swaps_51 k36 n) x2 x3 (x4 + 1) x5 x6 h
def m_X7_swaps_36 : Nat → Nat → Nat → Int32 → Int32 → bb_H → Option (Int32 × bb_H)
  | 0, _, _, _, _, _ => none
  | n + 1, x2, x3, x4, x5, h =>
    (bb_gI h x2 0 2).bind fun t39 =>
    if t39 ≤ x5 then
      some (x4, h)
    else
    m_X7_swaps_51 (m_X7_swaps_36 n) 1000 x2 x3 x4 x5 (x5 + 1) h
def m_X7_swaps (x0 : Nat) (x1 : Int32) (h : bb_H) : Option (Int32 × bb_H) :=
  (m_X7_isHour x1 h).bind fun r1 =>
  if r1.1 = 0 then
    some ((-1), r1.2)
  else
  (bb_gR r1.2 x0 7 0).bind fun t10 =>
  (bb_gR r1.2 t10 5 1).bind fun t13 =>
  (bb_gR r1.2 x0 7 0).bind fun t18 =>
  (bb_gR r1.2 t18 5 0).bind fun t21 =>
  (bb_gR r1.2 t21 3 2).bind fun t24 =>
  (bb_aR r1.2 t24 (.array .int) x1).bind fun t28 =>
  m_X7_swaps_36 1000 t13 t28 0 0 r1.2
/-- BattleBench.measureChains([I)I -/
def m_X7_measureChains_76 (k18 : Nat → Nat → Nat → Int32 → Int32 → bb_H → Option (Int32 × bb_H)) (k32 : Nat → Nat → Nat → Int32 → Int32 → Int32 → Int32 → bb_H → Option (Int32 × bb_H)) (x0 : Nat) (x1 : Nat) (x2 : Nat) (x3 : Int32) (x4 : Int32) (x5 : Int32) (x6 : Int32) (h : bb_H) : Option (Int32 × bb_H) :=
  k32 x0 x1 x2 x3 x4 x5 (x6 + 1) h
def m_X7_measureChains_32 (k18 : Nat → Nat → Nat → Int32 → Int32 → bb_H → Option (Int32 × bb_H)) : Nat → Nat → Nat → Nat → Int32 → Int32 → Int32 → Int32 → bb_H → Option (Int32 × bb_H)
  | 0, _, _, _, _, _, _, _, _ => none
  | n + 1, x0, x1, x2, x3, x4, x5, x6, h =>
    (bb_gI h x2 0 2).bind fun t35 =>
    if t35 ≤ x6 then
      (bb_gR h x0 7 8).bind fun t83 =>
      (bb_sV h t83 .int x4 (.int (x5 + 1))).bind fun g92 =>
      (bb_gR g92 x0 7 8).bind fun t95 =>
      (bb_aI g92 t95 .int x4).bind fun t100 =>
      k18 x0 x1 x2 (bb_max x3 t100) (x4 + (-1)) g92
    else
    (bb_gR h x2 0 1).bind fun t43 =>
    (bb_aI h t43 .int x6).bind fun t48 =>
    (bb_aI h x1 .int t48).bind fun t49 =>
    (bb_gR h x2 0 1).bind fun t52 =>
    (bb_aI h t52 .int x4).bind fun t57 =>
    (bb_aI h x1 .int t57).bind fun t58 =>
    if t49 ≤ t58 then
      m_X7_measureChains_76 k18 (m_X7_measureChains_32 k18 n) x0 x1 x2 x3 x4 x5 x6 h
    else
    (bb_gR h x0 7 8).bind fun t65 =>
    (bb_aI h t65 .int x6).bind fun t70 =>
    m_X7_measureChains_76 k18 (m_X7_measureChains_32 k18 n) x0 x1 x2 x3 x4 (bb_max x5 t70) x6 h
def m_X7_measureChains_18 : Nat → Nat → Nat → Nat → Int32 → Int32 → bb_H → Option (Int32 × bb_H)
  | 0, _, _, _, _, _, _ => none
  | n + 1, x0, x1, x2, x3, x4, h =>
    if x4 < 0 then
      some (x3, h)
    else
    m_X7_measureChains_32 (m_X7_measureChains_18 n) 1000 x0 x1 x2 x3 x4 0 (x4 + 1) h
def m_X7_measureChains (x0 : Nat) (x1 : Nat) (h : bb_H) : Option (Int32 × bb_H) :=
  (bb_gR h x0 7 0).bind fun t1 =>
  (bb_gR h t1 5 1).bind fun t4 =>
  (bb_gI h t4 0 2).bind fun t11 =>
  m_X7_measureChains_18 1000 x0 x1 t4 0 (t11 - 1) h
/-- BattleBench.whoCouldStay([I)I -/
def m_X7_whoCouldStay_83 (k23 : Nat → Nat → Nat → Int32 → Int32 → Int32 → Int32 → bb_H → Option (Int32 × bb_H)) (x0 : Nat) (x1 : Nat) (x2 : Nat) (x3 : Int32) (x4 : Int32) (x5 : Int32) (x6 : Int32) (h : bb_H) : Option (Int32 × bb_H) :=
  k23 x0 x1 x2 x3 x4 x5 (x6 + 1) h
def m_X7_whoCouldStay_23 : Nat → Nat → Nat → Nat → Int32 → Int32 → Int32 → Int32 → bb_H → Option (Int32 × bb_H)
  | 0, _, _, _, _, _, _, _, _ => none
  | n + 1, x0, x1, x2, x3, x4, x5, x6, h =>
    (bb_gI h x2 0 2).bind fun t26 =>
    if t26 ≤ x6 then
      some (x4, h)
    else
    (bb_gR h x2 0 1).bind fun t33 =>
    (bb_aI h t33 .int x6).bind fun t38 =>
    if x3 ≤ 0 then
      m_X7_whoCouldStay_83 (m_X7_whoCouldStay_23 n) x0 x1 x2 x3 x4 x5 x6 h
    else
    (bb_aI h x1 .int t38).bind fun t48 =>
    if t48 ≤ x5 then
      m_X7_whoCouldStay_83 (m_X7_whoCouldStay_23 n) x0 x1 x2 x3 x4 x5 x6 h
    else
    (bb_gR h x0 7 8).bind fun t55 =>
    (bb_aI h t55 .int x6).bind fun t60 =>
    if t60 = x3 then
      (bb_aI h x1 .int t38).bind fun t77 =>
      m_X7_whoCouldStay_83 (m_X7_whoCouldStay_23 n) x0 x1 x2 (x3 + (-1)) (x4 ||| (1 <<< (t38 &&& 31))) t77 x6 h
    else
    m_X7_whoCouldStay_83 (m_X7_whoCouldStay_23 n) x0 x1 x2 x3 x4 x5 x6 h
def m_X7_whoCouldStay (x0 : Nat) (x1 : Nat) (h : bb_H) : Option (Int32 × bb_H) :=
  (bb_gR h x0 7 0).bind fun t1 =>
  (bb_gR h t1 5 1).bind fun t4 =>
  (bb_rcv h x0 7 (m_X7_measureChains x0 x1 h)).bind fun r10 =>
  m_X7_whoCouldStay_23 1000 x0 x1 t4 r10.1 0 (-1) 0 r10.2
/-- BattleBench.stay(II)I -/
def m_X7_stay_16 (h : bb_H) : Option (Int32 × bb_H) :=
  some ((-1), h)
def m_X7_stay_47 (z0 : Int32) (h : bb_H) : Option (Int32 × bb_H) :=
  some (z0, h)
def m_X7_stay (x0 : Nat) (x1 : Int32) (x2 : Int32) (h : bb_H) : Option (Int32 × bb_H) :=
  (m_X7_isHour x1 h).bind fun r1 =>
  if r1.1 = 0 then
    m_X7_stay_16 r1.2
  else
  (m_X7_within x2 0 1 r1.2).bind fun r10 =>
  if r10.1 = 0 then
    m_X7_stay_16 r10.2
  else
  (bb_gR r10.2 x0 7 0).bind fun t20 =>
  (bb_gR r10.2 t20 5 0).bind fun t23 =>
  (bb_gR r10.2 t23 3 2).bind fun t26 =>
  (bb_aR r10.2 t26 (.array .int) x1).bind fun t30 =>
  (bb_rcv r10.2 x0 7 (m_X7_whoCouldStay x0 t30 r10.2)).bind fun r31 =>
  if x2 = 0 then
    (m_J6_bitCount_0f7a4 r31.1 r31.2).bind fun r40 =>
    m_X7_stay_47 r40.1 r40.2
  else
  m_X7_stay_47 r31.1 r31.2
/-- BattleBench.ways()I -/
def m_X7_ways_74 (x1 : Int32) (h : bb_H) : Option (Int32 × bb_H) :=
  some (x1, h)
def m_X7_ways_55 (k18 : Nat → Int32 → Int32 → bb_H → Option (Int32 × bb_H)) (x0 : Nat) (x1 : Int32) (x2 : Int32) (h : bb_H) : Option (Int32 × bb_H) :=
  (bb_gR h x0 7 7).bind fun t56 =>
  (bb_rcv h t56 2 (m_X2_advance t56 h)).bind fun r59 =>
  if r59.1 = 0 then
    m_X7_ways_74 x1 r59.2
  else
  k18 x0 x1 (x2 + 1) r59.2
def m_X7_ways_18 : Nat → Nat → Int32 → Int32 → bb_H → Option (Int32 × bb_H)
  | 0, _, _, _, _ => none
  | n + 1, x0, x1, x2, h =>
    if 720 ≤ x2 then
      m_X7_ways_74 x1 h
    else
    (bb_gR h x0 7 0).bind fun t26 =>
    (bb_gR h t26 5 0).bind fun t29 =>
    (bb_gR h x0 7 7).bind fun t33 =>
    (bb_gR h t33 2 0).bind fun t36 =>
    (bb_gR h x0 7 7).bind fun t40 =>
    (bb_gI h t40 2 2).bind fun t43 =>
    (bb_rcv h t29 3 (m_X3_wrongPairs t29 t36 t43 h)).bind fun r46 =>
    if r46.1 = 0 then
      m_X7_ways_55 (m_X7_ways_18 n) x0 (x1 + 1) x2 r46.2
    else
    m_X7_ways_55 (m_X7_ways_18 n) x0 x1 x2 r46.2
def m_X7_ways (x0 : Nat) (h : bb_H) : Option (Int32 × bb_H) :=
  (bb_gR h x0 7 7).bind fun t1 =>
  (bb_gR h x0 7 0).bind fun t5 =>
  (bb_gR h t5 5 1).bind fun t8 =>
  (bb_rcv h t1 2 (m_X2_start t1 t8 h)).bind fun g11 =>
  m_X7_ways_18 1000 x0 0 0 g11
/-- BattleBench.findEase()I -/
def m_X7_findEase_93 (x1 : Int32) (h : bb_H) : Option (Int32 × bb_H) :=
  some (x1, h)
def m_X7_findEase_70 (k24 : Nat → Int32 → Int32 → bb_H → Option (Int32 × bb_H)) (x0 : Nat) (x1 : Int32) (x2 : Int32) (h : bb_H) : Option (Int32 × bb_H) :=
  if x1 = 0 then
    m_X7_findEase_93 x1 h
  else
  (bb_gR h x0 7 7).bind fun t75 =>
  (bb_rcv h t75 2 (m_X2_advance t75 h)).bind fun r78 =>
  if r78.1 = 0 then
    m_X7_findEase_93 x1 r78.2
  else
  k24 x0 x1 (x2 + 1) r78.2
def m_X7_findEase_24 : Nat → Nat → Int32 → Int32 → bb_H → Option (Int32 × bb_H)
  | 0, _, _, _, _ => none
  | n + 1, x0, x1, x2, h =>
    if 720 ≤ x2 then
      m_X7_findEase_93 x1 h
    else
    (bb_gR h x0 7 0).bind fun t32 =>
    (bb_gR h t32 5 0).bind fun t35 =>
    (bb_gR h x0 7 7).bind fun t39 =>
    (bb_gR h t39 2 0).bind fun t42 =>
    (bb_gR h x0 7 7).bind fun t46 =>
    (bb_gI h t46 2 2).bind fun t49 =>
    (bb_rcv h t35 3 (m_X3_wrongPairs t35 t42 t49 h)).bind fun r52 =>
    if x1 ≤ r52.1 then
      m_X7_findEase_70 (m_X7_findEase_24 n) x0 x1 x2 r52.2
    else
    (bb_gR r52.2 x0 7 7).bind fun t64 =>
    (bb_rcv r52.2 t64 2 (m_X2_keepAsBest t64 r52.2)).bind fun g67 =>
    m_X7_findEase_70 (m_X7_findEase_24 n) x0 r52.1 x2 g67
def m_X7_findEase (x0 : Nat) (h : bb_H) : Option (Int32 × bb_H) :=
  (bb_gR h x0 7 7).bind fun t1 =>
  (bb_gR h x0 7 0).bind fun t5 =>
  (bb_gR h t5 5 1).bind fun t8 =>
  (bb_rcv h t1 2 (m_X2_start t1 t8 h)).bind fun g11 =>
  (bb_gR g11 x0 7 7).bind fun t15 =>
  (bb_gI g11 t15 2 2).bind fun t18 =>
  m_X7_findEase_24 1000 x0 t18 0 g11
/-- BattleBench.ease(I)I -/
def m_X7_ease_29 (z0 : Int32) (h : bb_H) : Option (Int32 × bb_H) :=
  some (z0, h)
def m_X7_ease (x0 : Nat) (x1 : Int32) (h : bb_H) : Option (Int32 × bb_H) :=
  if (-1) ≤ x1 then
    (bb_rcv h x0 7 (m_X7_findEase x0 h)).bind fun r8 =>
    if x1 = (-1) then
      m_X7_ease_29 r8.1 r8.2
    else
    (bb_gR r8.2 x0 7 7).bind fun t22 =>
    (bb_rcv r8.2 t22 2 (m_X2_bestOn t22 x1 r8.2)).bind fun r26 =>
    m_X7_ease_29 r26.1 r26.2
  else
  some ((-1), h)
/-- BattleBench.foretellFor([II)V -/
def m_X7_foretellFor (x0 : Nat) (x1 : Nat) (x2 : Int32) (h : bb_H) : Option bb_H :=
  (bb_gR h x0 7 5).bind fun t1 =>
  (bb_gR h x0 7 0).bind fun t5 =>
  (bb_gR h t5 5 1).bind fun t8 =>
  (bb_rcv h t1 0 (m_X0_takeFrom t1 t8 h)).bind fun g11 =>
  (bb_gR g11 x0 7 5).bind fun t15 =>
  (bb_rcv g11 t15 0 (m_X0_seatAs t15 x1 g11)).bind fun g19 =>
  (bb_gR g19 x0 7 5).bind fun t23 =>
  (bb_gR g19 x0 7 0).bind fun t28 =>
  (bb_gR g19 t28 5 0).bind fun t31 =>
  (bb_rcv g19 t23 0 (m_X0_passYears t23 x2 t31 g19)).bind fun g34 =>
  some g34
/-- BattleBench.findMostLeft(I)V -/
def m_X7_findMostLeft_125 (h : bb_H) : Option bb_H :=
  some h
def m_X7_findMostLeft_106 (k21 : Nat → Int32 → Int32 → Int32 → Int32 → bb_H → Option bb_H) (x0 : Nat) (x1 : Int32) (x2 : Int32) (x3 : Int32) (x4 : Int32) (h : bb_H) : Option bb_H :=
  (bb_gR h x0 7 7).bind fun t107 =>
  (bb_rcv h t107 2 (m_X2_advance t107 h)).bind fun r110 =>
  if r110.1 = 0 then
    m_X7_findMostLeft_125 r110.2
  else
  k21 x0 x1 x2 x3 (x4 + 1) r110.2
def m_X7_findMostLeft_88 (k21 : Nat → Int32 → Int32 → Int32 → Int32 → bb_H → Option bb_H) (x0 : Nat) (x1 : Int32) (x4 : Int32) (x5 : Int32) (h : bb_H) : Option bb_H :=
  (bb_gR h x0 7 5).bind fun t89 =>
  (bb_gI h t89 0 2).bind fun t92 =>
  (bb_gR h x0 7 7).bind fun t100 =>
  (bb_rcv h t100 2 (m_X2_keepAsBest t100 h)).bind fun g103 =>
  m_X7_findMostLeft_106 k21 x0 x1 t92 x5 x4 g103
def m_X7_findMostLeft_21 : Nat → Nat → Int32 → Int32 → Int32 → Int32 → bb_H → Option bb_H
  | 0, _, _, _, _, _, _ => none
  | n + 1, x0, x1, x2, x3, x4, h =>
    if 720 ≤ x4 then
      m_X7_findMostLeft_125 h
    else
    (bb_gR h x0 7 7).bind fun t30 =>
    (bb_rcv h t30 2 (m_X2_isTurnedRound t30 h)).bind fun r33 =>
    if r33.1 = 0 then
      (bb_gR r33.2 x0 7 7).bind fun t41 =>
      (bb_gR r33.2 t41 2 0).bind fun t44 =>
      (bb_rcv r33.2 x0 7 (m_X7_foretellFor x0 t44 x1 r33.2)).bind fun g48 =>
      (bb_gR g48 x0 7 5).bind fun t52 =>
      (bb_rcv g48 t52 0 (m_X0_lifeOfAll t52 g48)).bind fun r55 =>
      (bb_gR r55.2 x0 7 5).bind fun t61 =>
      (bb_gI r55.2 t61 0 2).bind fun t64 =>
      if x2 < t64 then
        m_X7_findMostLeft_88 (m_X7_findMostLeft_21 n) x0 x1 x4 r55.1 r55.2
      else
      (bb_gR r55.2 x0 7 5).bind fun t72 =>
      (bb_gI r55.2 t72 0 2).bind fun t75 =>
      if t75 = x2 then
        if r55.1 ≤ x3 then
          m_X7_findMostLeft_106 (m_X7_findMostLeft_21 n) x0 x1 x2 x3 x4 r55.2
        else
        m_X7_findMostLeft_88 (m_X7_findMostLeft_21 n) x0 x1 x4 r55.1 r55.2
      else
      m_X7_findMostLeft_106 (m_X7_findMostLeft_21 n) x0 x1 x2 x3 x4 r55.2
    else
    m_X7_findMostLeft_106 (m_X7_findMostLeft_21 n) x0 x1 x2 x3 x4 r33.2
def m_X7_findMostLeft (x0 : Nat) (x1 : Int32) (h : bb_H) : Option bb_H :=
  (bb_gR h x0 7 7).bind fun t1 =>
  (bb_gR h x0 7 0).bind fun t5 =>
  (bb_gR h t5 5 1).bind fun t8 =>
  (bb_rcv h t1 2 (m_X2_start t1 t8 h)).bind fun g11 =>
  m_X7_findMostLeft_21 1000 x0 x1 (-1) (-1) 0 g11
/-- BattleBench.left(II)I -/
def m_X7_left_16 (h : bb_H) : Option (Int32 × bb_H) :=
  some ((-1), h)
def m_X7_left_70 (z0 : Int32) (h : bb_H) : Option (Int32 × bb_H) :=
  some (z0, h)
def m_X7_left (x0 : Nat) (x1 : Int32) (x2 : Int32) (h : bb_H) : Option (Int32 × bb_H) :=
  (m_X7_within x1 0 30 h).bind fun r4 =>
  if r4.1 = 0 then
    m_X7_left_16 r4.2
  else
  if (-2) ≤ x2 then
    (bb_rcv r4.2 x0 7 (m_X7_findMostLeft x0 x1 r4.2)).bind fun g20 =>
    if x2 < 0 then
      (bb_gR g20 x0 7 7).bind fun t38 =>
      (bb_gR g20 t38 2 1).bind fun t41 =>
      (bb_rcv g20 x0 7 (m_X7_foretellFor x0 t41 x1 g20)).bind fun g45 =>
      if x2 = (-1) then
        (bb_gR g45 x0 7 5).bind fun t54 =>
        (bb_gI g45 t54 0 2).bind fun t57 =>
        m_X7_left_70 t57 g45
      else
      (bb_gR g45 x0 7 5).bind fun t64 =>
      (bb_rcv g45 t64 0 (m_X0_lifeOfAll t64 g45)).bind fun r67 =>
      m_X7_left_70 r67.1 r67.2
    else
    (bb_gR g20 x0 7 7).bind fun t28 =>
    (bb_rcv g20 t28 2 (m_X2_bestOn t28 x2 g20)).bind fun r32 =>
    some (r32.1, r32.2)
  else
  m_X7_left_16 r4.2
/-- BattleBench.areAllByTheirOwn(I)Z -/
def m_X7_areAllByTheirOwn_70 (k4 : Nat → Int32 → Int32 → Int32 → bb_H → Option (Int32 × bb_H)) (x0 : Nat) (x1 : Int32) (x2 : Int32) (x3 : Int32) (h : bb_H) : Option (Int32 × bb_H) :=
  k4 x0 x1 x2 (x3 + 1) h
def m_X7_areAllByTheirOwn_67 (k4 : Nat → Int32 → Int32 → Int32 → bb_H → Option (Int32 × bb_H)) (x0 : Nat) (x1 : Int32) (x3 : Int32) (x4 : Int32) (h : bb_H) : Option (Int32 × bb_H) :=
  m_X7_areAllByTheirOwn_70 k4 x0 x1 x4 x3 h
def m_X7_areAllByTheirOwn_4 : Nat → Nat → Int32 → Int32 → Int32 → bb_H → Option (Int32 × bb_H)
  | 0, _, _, _, _, _ => none
  | n + 1, x0, x1, x2, x3, h =>
    (bb_gR h x0 7 0).bind fun t6 =>
    (bb_gR h t6 5 1).bind fun t9 =>
    (bb_gI h t9 0 2).bind fun t12 =>
    if t12 ≤ x3 then
      some (1, h)
    else
    (m_X7_holds x1 x3 h).bind fun r20 =>
    if r20.1 = 0 then
      m_X7_areAllByTheirOwn_70 (m_X7_areAllByTheirOwn_4 n) x0 x1 x2 x3 r20.2
    else
    (bb_gR r20.2 x0 7 0).bind fun t27 =>
    (bb_gR r20.2 t27 5 1).bind fun t30 =>
    (bb_gR r20.2 t30 0 1).bind fun t33 =>
    (bb_aI r20.2 t33 .int x3).bind fun t37 =>
    if x2 = (-1) then
      m_X7_areAllByTheirOwn_67 (m_X7_areAllByTheirOwn_4 n) x0 x1 x3 t37 r20.2
    else
    (bb_gR r20.2 x0 7 0).bind fun t46 =>
    (bb_gR r20.2 t46 5 0).bind fun t49 =>
    (bb_gR r20.2 t49 3 3).bind fun t52 =>
    (bb_aI r20.2 t52 .int x2).bind fun t56 =>
    (m_X7_holds t56 t37 r20.2).bind fun r59 =>
    if r59.1 = 0 then
      some (0, r59.2)
    else
    m_X7_areAllByTheirOwn_67 (m_X7_areAllByTheirOwn_4 n) x0 x1 x3 t37 r59.2
def m_X7_areAllByTheirOwn (x0 : Nat) (x1 : Int32) (h : bb_H) : Option (Int32 × bb_H) :=
  m_X7_areAllByTheirOwn_4 1000 x0 x1 (-1) 0 h
/-- BattleBench.power(II)I -/
def m_X7_power_4 : Nat → Int32 → Int32 → Int32 → Int32 → bb_H → Option (Int32 × bb_H)
  | 0, _, _, _, _, _ => none
  | n + 1, x0, x1, x2, x3, h =>
    if x1 ≤ x3 then
      some (x2, h)
    else
    m_X7_power_4 n x0 x1 (x2 * x0) (x3 + 1) h
def m_X7_power (x0 : Int32) (x1 : Int32) (h : bb_H) : Option (Int32 × bb_H) :=
  m_X7_power_4 1000 x0 x1 1 0 h
/-- BattleBench.weightOfWinters(II)I -/
def m_X7_weightOfWinters_70 (k17 : Nat → Int32 → Int32 → Int32 → Int32 → Int32 → bb_H → Option (Int32 × bb_H)) (x0 : Nat) (x1 : Int32) (x2 : Int32) (x3 : Int32) (x4 : Int32) (x5 : Int32) (h : bb_H) : Option (Int32 × bb_H) :=
  k17 x0 x1 x2 x3 x4 (x5 + 1) h
def m_X7_weightOfWinters_17 : Nat → Nat → Int32 → Int32 → Int32 → Int32 → Int32 → bb_H → Option (Int32 × bb_H)
  | 0, _, _, _, _, _, _, _ => none
  | n + 1, x0, x1, x2, x3, x4, x5, h =>
    if (1 <<< (x3 &&& 31)) ≤ x5 then
      some (x4, h)
    else
    (m_J6_bitCount_0f7a4 x5 h).bind fun r27 =>
    if r27.1 < x1 then
      m_X7_weightOfWinters_70 (m_X7_weightOfWinters_17 n) x0 x1 x2 x3 x4 x5 r27.2
    else
    (bb_rcv r27.2 x0 7 (m_X7_areAllByTheirOwn x0 x5 r27.2)).bind fun r41 =>
    if r41.1 = 0 then
      m_X7_weightOfWinters_70 (m_X7_weightOfWinters_17 n) x0 x1 x2 x3 x4 x5 r41.2
    else
    (m_X7_power (10 - x2) r27.1 r41.2).bind fun r55 =>
    (m_X7_power x2 (x3 - r27.1) r55.2).bind fun r63 =>
    m_X7_weightOfWinters_70 (m_X7_weightOfWinters_17 n) x0 x1 x2 x3 (x4 + (r55.1 * r63.1)) x5 r63.2
def m_X7_weightOfWinters (x0 : Nat) (x1 : Int32) (x2 : Int32) (h : bb_H) : Option (Int32 × bb_H) :=
  (bb_gR h x0 7 0).bind fun t1 =>
  (bb_gR h t1 5 1).bind fun t4 =>
  (bb_gI h t4 0 2).bind fun t7 =>
  m_X7_weightOfWinters_17 1000 x0 x1 x2 t7 0 0 h
/-- BattleBench.commonDivisor(II)I -/
def m_X7_commonDivisor_34 (x2 : Int32) (h : bb_H) : Option (Int32 × bb_H) :=
  some (x2, h)
def m_X7_commonDivisor_7 : Nat → Int32 → Int32 → Int32 → bb_H → Option (Int32 × bb_H)
  | 0, _, _, _, _ => none
  | n + 1, x2, x3, x4, h =>
    if 100 ≤ x4 then
      m_X7_commonDivisor_34 x2 h
    else
    if x3 = 0 then
      m_X7_commonDivisor_34 x2 h
    else
    if x3 = 0 then none else
    m_X7_commonDivisor_7 n x3 (x2 - x2 / x3 * x3) (x4 + 1) h
def m_X7_commonDivisor (x0 : Int32) (x1 : Int32) (h : bb_H) : Option (Int32 × bb_H) :=
  m_X7_commonDivisor_7 1000 x0 x1 0 h
/-- BattleBench.winter(III)I -/
def m_X7_winter_29 (h : bb_H) : Option (Int32 × bb_H) :=
  some ((-1), h)
def m_X7_winter_83 (x6 : Int32) (z0 : Int32) (h : bb_H) : Option (Int32 × bb_H) :=
  if x6 = 0 then none else
  some (z0 / x6, h)
def m_X7_winter (x0 : Nat) (x1 : Int32) (x2 : Int32) (x3 : Int32) (h : bb_H) : Option (Int32 × bb_H) :=
  (m_X7_within x1 0 6 h).bind fun r4 =>
  if r4.1 = 0 then
    m_X7_winter_29 r4.2
  else
  (m_X7_within x2 0 10 r4.2).bind fun r14 =>
  if r14.1 = 0 then
    m_X7_winter_29 r14.2
  else
  (m_X7_within x3 0 1 r14.2).bind fun r23 =>
  if r23.1 = 0 then
    m_X7_winter_29 r23.2
  else
  (bb_rcv r23.2 x0 7 (m_X7_weightOfWinters x0 x1 x2 r23.2)).bind fun r34 =>
  (bb_gR r34.2 x0 7 0).bind fun t42 =>
  (bb_gR r34.2 t42 5 1).bind fun t45 =>
  (bb_gI r34.2 t45 0 2).bind fun t48 =>
  (m_X7_power 10 t48 r34.2).bind fun r51 =>
  (m_X7_commonDivisor r34.1 r51.1 r51.2).bind fun r60 =>
  if 0 < r60.1 then
    if x3 = 0 then
      m_X7_winter_83 r60.1 r34.1 r60.2
    else
    m_X7_winter_83 r60.1 r51.1 r60.2
  else
  some ((-1), r60.2)
/-- BattleBench.image()I -/
def m_X7_image (x0 : Nat) (h : bb_H) : Option (Int32 × bb_H) :=
  (bb_gR h x0 7 1).bind fun t1 =>
  (bb_gR h x0 7 0).bind fun t5 =>
  (bb_rcv h t1 5 (m_X5_takeFrom t1 t5 h)).bind fun g8 =>
  (bb_pZ g8 x0 7 2 1).bind fun g13 =>
  some (1, g13)
/-- BattleBench.restore()I -/
def m_X7_restore (x0 : Nat) (h : bb_H) : Option (Int32 × bb_H) :=
  (bb_gI h x0 7 2).bind fun t1 =>
  if t1 = 0 then
    some ((-4), h)
  else
  (bb_gR h x0 7 0).bind fun t11 =>
  (bb_gR h x0 7 1).bind fun t15 =>
  (bb_rcv h t11 5 (m_X5_takeFrom t11 t15 h)).bind fun g18 =>
  some (1, g18)
/-- BattleBench.isSheet(I)Z -/
def m_X7_isSheet (x0 : Int32) (h : bb_H) : Option (Int32 × bb_H) :=
  (m_X7_within x0 0 3 h).bind fun r3 =>
  bb_rz r3.1 r3.2
/-- BattleBench.isLane(I)Z -/
def m_X7_isLane (x0 : Int32) (h : bb_H) : Option (Int32 × bb_H) :=
  (m_X7_within x0 0 3 h).bind fun r3 =>
  bb_rz r3.1 r3.2
/-- BattleBench.doesFail(ILBattleBench$Sheet;II)Z -/
def m_X7_doesFail_3 : Nat → Nat → Int32 → Nat → Int32 → Int32 → Int32 → bb_H → Option (Int32 × bb_H)
  | 0, _, _, _, _, _, _, _ => none
  | n + 1, x0, x1, x2, x3, x4, x5, h =>
    if x4 ≤ x5 then
      some (1, h)
    else
    (bb_gR h x0 7 5).bind fun t11 =>
    (bb_gR h x0 7 6).bind fun t15 =>
    (bb_rcv h t11 0 (m_X0_passYear t11 t15 h)).bind fun g18 =>
    (bb_gR g18 x2 4 3).bind fun t22 =>
    (bb_aL g18 t22 (x3 + x5)).bind fun t29 =>
    (bb_gR g18 x0 7 5).bind fun t31 =>
    (bb_gR g18 t31 0 0).bind fun t34 =>
    (bb_aI g18 t34 .int x1).bind fun t38 =>
    if (lg_cmp t29 t38.toInt64) = 0 then
      m_X7_doesFail_3 n x0 x1 x2 x3 x4 (x5 + 1) g18
    else
    some (0, g18)
def m_X7_doesFail (x0 : Nat) (x1 : Int32) (x2 : Nat) (x3 : Int32) (x4 : Int32) (h : bb_H) : Option (Int32 × bb_H) :=
  m_X7_doesFail_3 1000 x0 x1 x2 x3 x4 0 h
/-- BattleBench.kindsThatFit(ILBattleBench$Sheet;II)I -/
def m_X7_kindsThatFit_72 (k6 : Nat → Int32 → Nat → Int32 → Int32 → Int32 → Int32 → bb_H → Option (Int32 × bb_H)) (x0 : Nat) (x1 : Int32) (x2 : Nat) (x3 : Int32) (x4 : Int32) (x5 : Int32) (x6 : Int32) (h : bb_H) : Option (Int32 × bb_H) :=
  k6 x0 x1 x2 x3 x4 x5 (x6 + 1) h
def m_X7_kindsThatFit_6 : Nat → Nat → Int32 → Nat → Int32 → Int32 → Int32 → Int32 → bb_H → Option (Int32 × bb_H)
  | 0, _, _, _, _, _, _, _, _ => none
  | n + 1, x0, x1, x2, x3, x4, x5, x6, h =>
    if 5 ≤ x6 then
      some (x5, h)
    else
    (bb_gR h x0 7 6).bind fun t13 =>
    (bb_gR h x0 7 0).bind fun t17 =>
    (bb_gR h t17 5 0).bind fun t20 =>
    (bb_rcv h t13 3 (m_X3_takeFrom t13 t20 h)).bind fun g23 =>
    (bb_gR g23 x0 7 6).bind fun t27 =>
    (bb_gR g23 t27 3 1).bind fun t30 =>
    (bb_sV g23 t30 .int x1 (.int x6)).bind fun g36 =>
    (bb_gR g36 x0 7 5).bind fun t38 =>
    (bb_gR g36 x0 7 0).bind fun t42 =>
    (bb_gR g36 t42 5 1).bind fun t45 =>
    (bb_rcv g36 t38 0 (m_X0_takeFrom t38 t45 g36)).bind fun g48 =>
    (bb_rcv g48 x0 7 (m_X7_doesFail x0 x1 x2 x3 x4 g48)).bind fun r57 =>
    if r57.1 = 0 then
      m_X7_kindsThatFit_72 (m_X7_kindsThatFit_6 n) x0 x1 x2 x3 x4 x5 x6 r57.2
    else
    m_X7_kindsThatFit_72 (m_X7_kindsThatFit_6 n) x0 x1 x2 x3 x4 (x5 ||| (1 <<< (x6 &&& 31))) x6 r57.2
def m_X7_kindsThatFit (x0 : Nat) (x1 : Int32) (x2 : Nat) (x3 : Int32) (x4 : Int32) (h : bb_H) : Option (Int32 × bb_H) :=
  m_X7_kindsThatFit_6 1000 x0 x1 x2 x3 x4 0 0 h
/-- BattleBench.doesLifeFit(IILBattleBench$Sheet;II)Z -/
def m_X7_doesLifeFit (x0 : Nat) (x1 : Int32) (x2 : Int32) (x3 : Nat) (x4 : Int32) (x5 : Int32) (h : bb_H) : Option (Int32 × bb_H) :=
  (bb_gR h x0 7 6).bind fun t1 =>
  (bb_gR h x0 7 0).bind fun t5 =>
  (bb_gR h t5 5 0).bind fun t8 =>
  (bb_rcv h t1 3 (m_X3_takeFrom t1 t8 h)).bind fun g11 =>
  (bb_gR g11 x0 7 5).bind fun t15 =>
  (bb_gR g11 x0 7 0).bind fun t19 =>
  (bb_gR g11 t19 5 1).bind fun t22 =>
  (bb_rcv g11 t15 0 (m_X0_takeFrom t15 t22 g11)).bind fun g25 =>
  (bb_gR g25 x0 7 5).bind fun t29 =>
  (bb_gR g25 t29 0 0).bind fun t32 =>
  (bb_sV g25 t32 .int x1 (.int x2)).bind fun g37 =>
  (bb_rcv g37 x0 7 (m_X7_doesFail x0 x1 x3 x4 x5 g37)).bind fun r45 =>
  bb_rz r45.1 r45.2
/-- BattleBench.howManyLivesFit(ILBattleBench$Sheet;II)I -/
def m_X7_howManyLivesFit_30 (k6 : Nat → Int32 → Nat → Int32 → Int32 → Int32 → Int32 → bb_H → Option (Int32 × bb_H)) (x0 : Nat) (x1 : Int32) (x2 : Nat) (x3 : Int32) (x4 : Int32) (x5 : Int32) (x6 : Int32) (h : bb_H) : Option (Int32 × bb_H) :=
  k6 x0 x1 x2 x3 x4 x5 (x6 + 1) h
def m_X7_howManyLivesFit_6 : Nat → Nat → Int32 → Nat → Int32 → Int32 → Int32 → Int32 → bb_H → Option (Int32 × bb_H)
  | 0, _, _, _, _, _, _, _, _ => none
  | n + 1, x0, x1, x2, x3, x4, x5, x6, h =>
    if 60 < x6 then
      some (x5, h)
    else
    (bb_rcv h x0 7 (m_X7_doesLifeFit x0 x1 x6 x2 x3 x4 h)).bind fun r21 =>
    if r21.1 = 0 then
      m_X7_howManyLivesFit_30 (m_X7_howManyLivesFit_6 n) x0 x1 x2 x3 x4 x5 x6 r21.2
    else
    m_X7_howManyLivesFit_30 (m_X7_howManyLivesFit_6 n) x0 x1 x2 x3 x4 (x5 + 1) x6 r21.2
def m_X7_howManyLivesFit (x0 : Nat) (x1 : Int32) (x2 : Nat) (x3 : Int32) (x4 : Int32) (h : bb_H) : Option (Int32 × bb_H) :=
  m_X7_howManyLivesFit_6 1000 x0 x1 x2 x3 x4 0 1 h
/-- BattleBench.leastLifeThatFits(ILBattleBench$Sheet;II)I -/
def m_X7_leastLifeThatFits_3 : Nat → Nat → Int32 → Nat → Int32 → Int32 → Int32 → bb_H → Option (Int32 × bb_H)
  | 0, _, _, _, _, _, _, _ => none
  | n + 1, x0, x1, x2, x3, x4, x5, h =>
    if 60 < x5 then
      some ((-4), h)
    else
    (bb_rcv h x0 7 (m_X7_doesLifeFit x0 x1 x5 x2 x3 x4 h)).bind fun r18 =>
    if r18.1 = 0 then
      m_X7_leastLifeThatFits_3 n x0 x1 x2 x3 x4 (x5 + 1) r18.2
    else
    some (x5, r18.2)
def m_X7_leastLifeThatFits (x0 : Nat) (x1 : Int32) (x2 : Nat) (x3 : Int32) (x4 : Int32) (h : bb_H) : Option (Int32 × bb_H) :=
  m_X7_leastLifeThatFits_3 1000 x0 x1 x2 x3 x4 1 h
/-- BattleBench.failed(IIIIII)I -/
def m_X7_failed_49 (h : bb_H) : Option (Int32 × bb_H) :=
  some ((-1), h)
def m_X7_failed (x0 : Nat) (x1 : Int32) (x2 : Int32) (x3 : Int32) (x4 : Int32) (x5 : Int32) (x6 : Int32) (h : bb_H) : Option (Int32 × bb_H) :=
  (bb_gR h x0 7 0).bind fun t1 =>
  (bb_gR h t1 5 0).bind fun t4 =>
  (bb_rcv h t4 3 (m_X3_has t4 x1 h)).bind fun r8 =>
  if r8.1 = 0 then
    m_X7_failed_49 r8.2
  else
  (m_X7_isSheet x2 r8.2).bind fun r15 =>
  if r15.1 = 0 then
    m_X7_failed_49 r15.2
  else
  (m_X7_isLane x3 r15.2).bind fun r22 =>
  if r22.1 = 0 then
    m_X7_failed_49 r22.2
  else
  (m_X7_within x5 1 8 r22.2).bind fun r33 =>
  if r33.1 = 0 then
    m_X7_failed_49 r33.2
  else
  (m_X7_within x6 0 2 r33.2).bind fun r43 =>
  if r43.1 = 0 then
    m_X7_failed_49 r43.2
  else
  (bb_gR r43.2 x0 7 4).bind fun t52 =>
  (bb_aR r43.2 t52 (.object "BattleBench$Sheet") x2).bind fun t56 =>
  (bb_rcv r43.2 t56 4 (m_X4_refusalOf t56 x3 x4 x5 r43.2)).bind fun r66 =>
  if r66.1 = 0 then
    (bb_gR r66.2 x0 7 0).bind fun t80 =>
    (bb_gR r66.2 t80 5 1).bind fun t83 =>
    (bb_rcv r66.2 t83 0 (m_X0_seatOf t83 x1 r66.2)).bind fun r87 =>
    if r87.1 = (-4) then
      some ((-2), r87.2)
    else
    if x6 = 0 then
      (bb_rcv r87.2 x0 7 (m_X7_kindsThatFit x0 x1 t56 x4 x5 r87.2)).bind fun r136 =>
      some (r136.1, r136.2)
    else
    if x6 = 1 then
      (bb_rcv r87.2 x0 7 (m_X7_howManyLivesFit x0 x1 t56 x4 x5 r87.2)).bind fun r148 =>
      some (r148.1, r148.2)
    else
    (bb_rcv r87.2 x0 7 (m_X7_leastLifeThatFits x0 x1 t56 x4 x5 r87.2)).bind fun r160 =>
    some (r160.1, r160.2)
  else
  some (r66.1, r66.2)
/-- BattleBench.film(IIIII)I -/
def m_X7_film_39 (h : bb_H) : Option (Int32 × bb_H) :=
  some ((-1), h)
def m_X7_film_86 : Nat → Nat → Int32 → Int32 → Int32 → Nat → Int32 → bb_H → Option (Int32 × bb_H)
  | 0, _, _, _, _, _, _, _ => none
  | n + 1, x0, x1, x2, x5, x6, x8, h =>
    if x2 ≤ x8 then
      some (x2, h)
    else
    (bb_gR h x0 7 5).bind fun t93 =>
    (bb_gR h x0 7 0).bind fun t97 =>
    (bb_gR h t97 5 0).bind fun t100 =>
    (bb_rcv h t93 0 (m_X0_passYear t93 t100 h)).bind fun g103 =>
    (bb_gR g103 x0 7 5).bind fun t114 =>
    (bb_gR g103 t114 0 0).bind fun t117 =>
    (bb_aI g103 t117 .int x1).bind fun t121 =>
    (bb_rcv g103 x6 4 (m_X4_put x6 (x5 + x8) t121.toInt64 g103)).bind fun g123 =>
    m_X7_film_86 n x0 x1 x2 x5 x6 (x8 + 1) g123
def m_X7_film (x0 : Nat) (x1 : Int32) (x2 : Int32) (x3 : Int32) (x4 : Int32) (x5 : Int32) (h : bb_H) : Option (Int32 × bb_H) :=
  (bb_gR h x0 7 0).bind fun t1 =>
  (bb_gR h t1 5 0).bind fun t4 =>
  (bb_rcv h t4 3 (m_X3_has t4 x1 h)).bind fun r8 =>
  if r8.1 = 0 then
    m_X7_film_39 r8.2
  else
  (m_X7_within x2 1 24 r8.2).bind fun r18 =>
  if r18.1 = 0 then
    m_X7_film_39 r18.2
  else
  (m_X7_isSheet x3 r18.2).bind fun r25 =>
  if r25.1 = 0 then
    m_X7_film_39 r25.2
  else
  (m_X7_isLane x4 r25.2).bind fun r33 =>
  if r33.1 = 0 then
    m_X7_film_39 r33.2
  else
  (bb_gR r33.2 x0 7 4).bind fun t42 =>
  (bb_aR r33.2 t42 (.object "BattleBench$Sheet") x3).bind fun t46 =>
  (bb_rcv r33.2 t46 4 (m_X4_refusalOf t46 x4 x5 x2 r33.2)).bind fun r56 =>
  if r56.1 = 0 then
    (bb_gR r56.2 x0 7 5).bind fun t70 =>
    (bb_gR r56.2 x0 7 0).bind fun t74 =>
    (bb_gR r56.2 t74 5 1).bind fun t77 =>
    (bb_rcv r56.2 t70 0 (m_X0_takeFrom t70 t77 r56.2)).bind fun g80 =>
    m_X7_film_86 1000 x0 x1 x2 x5 t46 0 g80
  else
  some (r56.1, r56.2)
/-- BattleBench.sheet(III)I -/
def m_X7_sheet_20 (h : bb_H) : Option (Int32 × bb_H) :=
  some ((-1), h)
def m_X7_sheet (x0 : Nat) (x1 : Int32) (x2 : Int32) (x3 : Int32) (h : bb_H) : Option (Int32 × bb_H) :=
  (m_X7_isSheet x1 h).bind fun r1 =>
  if r1.1 = 0 then
    m_X7_sheet_20 r1.2
  else
  (m_X7_isLane x2 r1.2).bind fun r8 =>
  if r8.1 = 0 then
    m_X7_sheet_20 r8.2
  else
  if x3 ≤ 24 then
    if 0 ≤ x3 then
      (bb_gR r8.2 x0 7 4).bind fun t30 =>
      (bb_aR r8.2 t30 (.object "BattleBench$Sheet") x1).bind fun t34 =>
      (bb_rcv r8.2 t34 4 (m_X4_renew t34 x2 x3 r8.2)).bind fun g37 =>
      some (x3, g37)
    else
    some ((-14), r8.2)
  else
  m_X7_sheet_20 r8.2
/-- BattleBench.drop(I)I -/
def m_X7_drop (x0 : Nat) (x1 : Int32) (h : bb_H) : Option (Int32 × bb_H) :=
  (m_X7_isSheet x1 h).bind fun r1 =>
  if r1.1 = 0 then
    some ((-1), r1.2)
  else
  (bb_gR r1.2 x0 7 4).bind fun t10 =>
  (bb_aR r1.2 t10 (.object "BattleBench$Sheet") x1).bind fun t14 =>
  (bb_gI r1.2 t14 4 0).bind fun t17 =>
  if t17 = 0 then
    some ((-11), r1.2)
  else
  (bb_pZ r1.2 t14 4 0 0).bind fun g28 =>
  (bb_gI g28 t14 4 2).bind fun t32 =>
  some (t32, g28)
/-- BattleBench.item(IIIJ)I -/
def m_X7_item_14 (h : bb_H) : Option (Int32 × bb_H) :=
  some ((-1), h)
def m_X7_item (x0 : Nat) (x1 : Int32) (x2 : Int32) (x3 : Int32) (x4 : Int64) (h : bb_H) : Option (Int32 × bb_H) :=
  (m_X7_isSheet x1 h).bind fun r1 =>
  if r1.1 = 0 then
    m_X7_item_14 r1.2
  else
  (m_X7_isLane x2 r1.2).bind fun r8 =>
  if r8.1 = 0 then
    m_X7_item_14 r8.2
  else
  (bb_gR r8.2 x0 7 4).bind fun t17 =>
  (bb_aR r8.2 t17 (.object "BattleBench$Sheet") x1).bind fun t21 =>
  (bb_rcv r8.2 t21 4 (m_X4_refusalOf t21 x2 x3 1 r8.2)).bind fun r25 =>
  if r25.1 = 0 then
    (bb_gR r25.2 x0 7 4).bind fun t39 =>
    (bb_aR r25.2 t39 (.object "BattleBench$Sheet") x1).bind fun t43 =>
    (bb_rcv r25.2 t43 4 (m_X4_put t43 x3 x4 r25.2)).bind fun g47 =>
    some (1, g47)
  else
  some (r25.1, r25.2)
/-- BattleBench.copy(IIIII)I -/
def m_X7_copy_14 (h : bb_H) : Option (Int32 × bb_H) :=
  some ((-1), h)
def m_X7_copy_48 (h : bb_H) : Option (Int32 × bb_H) :=
  some ((-11), h)
def m_X7_copy_90 (h : bb_H) : Option (Int32 × bb_H) :=
  some ((-13), h)
def m_X7_copy (x0 : Nat) (x1 : Int32) (x2 : Int32) (x3 : Int32) (x4 : Int32) (x5 : Int32) (h : bb_H) : Option (Int32 × bb_H) :=
  (m_X7_isSheet x1 h).bind fun r1 =>
  if r1.1 = 0 then
    m_X7_copy_14 r1.2
  else
  (m_X7_isSheet x3 r1.2).bind fun r8 =>
  if r8.1 = 0 then
    m_X7_copy_14 r8.2
  else
  (bb_gR r8.2 x0 7 4).bind fun t17 =>
  (bb_aR r8.2 t17 (.object "BattleBench$Sheet") x1).bind fun t21 =>
  (bb_gR r8.2 x0 7 4).bind fun t25 =>
  (bb_aR r8.2 t25 (.object "BattleBench$Sheet") x3).bind fun t29 =>
  (bb_gI r8.2 t21 4 0).bind fun t34 =>
  if t34 = 0 then
    m_X7_copy_48 r8.2
  else
  (bb_gI r8.2 t29 4 0).bind fun t42 =>
  if t42 = 0 then
    m_X7_copy_48 r8.2
  else
  (bb_gI r8.2 t21 4 1).bind fun t53 =>
  (bb_gI r8.2 t29 4 1).bind fun t58 =>
  if t53 = t58 then
    (bb_rcv r8.2 t21 4 (m_X4_spans t21 x2 x5 r8.2)).bind fun r72 =>
    if r72.1 = 0 then
      m_X7_copy_90 r72.2
    else
    (bb_rcv r72.2 t29 4 (m_X4_spans t29 x4 x5 r72.2)).bind fun r84 =>
    if r84.1 = 0 then
      m_X7_copy_90 r84.2
    else
    (bb_gR r84.2 t21 4 3).bind fun t95 =>
    (bb_gR r84.2 t29 4 3).bind fun t101 =>
    (bb_cpy r84.2 t95 x2 t101 x4 x5).bind fun g108 =>
    some (x5, g108)
  else
  some ((-12), r8.2)
