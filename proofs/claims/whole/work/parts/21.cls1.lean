/-- BattleBench$Bench.takeFrom(LBattleBench$Bench;)V -/
def m_X0_takeFrom_2 : Nat → Nat → Nat → Int32 → bb_H → Option bb_H
  | 0, _, _, _, _ => none
  | n + 1, x0, x1, x2, h =>
    if 6 ≤ x2 then
      (bb_gI h x1 0 2).bind fun t40 =>
      (bb_pI h x0 0 2 t40).bind fun g43 =>
      (bb_gI g43 x1 0 3).bind fun t48 =>
      (bb_pI g43 x0 0 3 t48).bind fun g51 =>
      (bb_gI g51 x1 0 4).bind fun t56 =>
      (bb_pI g51 x0 0 4 t56).bind fun g59 =>
      some g59
    else
    (bb_gR h x0 0 0).bind fun t9 =>
    (bb_gR h x1 0 0).bind fun t14 =>
    (bb_aI h t14 .int x2).bind fun t18 =>
    (bb_sV h t9 .int x2 (.int t18)).bind fun g19 =>
    (bb_gR g19 x0 0 1).bind fun t21 =>
    (bb_gR g19 x1 0 1).bind fun t26 =>
    (bb_aI g19 t26 .int x2).bind fun t30 =>
    (bb_sV g19 t21 .int x2 (.int t30)).bind fun g31 =>
    m_X0_takeFrom_2 n x0 x1 (x2 + 1) g31
def m_X0_takeFrom (x0 : Nat) (x1 : Nat) (h : bb_H) : Option bb_H :=
  m_X0_takeFrom_2 1000 x0 x1 0 h
/-- BattleBench$Bench.seatLast(II)V -/
def m_X0_seatLast_36 (h : bb_H) : Option bb_H :=
  some h
def m_X0_seatLast (x0 : Nat) (x1 : Int32) (x2 : Int32) (h : bb_H) : Option bb_H :=
  (bb_gI h x0 0 2).bind fun t1 =>
  if 6 ≤ t1 then
    m_X0_seatLast_36 h
  else
  (bb_gR h x0 0 0).bind fun t10 =>
  (bb_sV h t10 .int x1 (.int x2)).bind fun g15 =>
  (bb_gR g15 x0 0 1).bind fun t17 =>
  (bb_gI g15 x0 0 2).bind fun t21 =>
  (bb_sV g15 t17 .int t21 (.int x1)).bind fun g25 =>
  (bb_gI g25 x0 0 2).bind fun t28 =>
  (bb_pI g25 x0 0 2 (t28 + 1)).bind fun g33 =>
  m_X0_seatLast_36 g33
/-- BattleBench$Bench.seatAll(I[I)V -/
def m_X0_seatAll_12 : Nat → Nat → Int32 → Nat → Int32 → bb_H → Option bb_H
  | 0, _, _, _, _, _ => none
  | n + 1, x0, x1, x2, x3, h =>
    if x1 ≤ x3 then
      some h
    else
    (bb_aI h x2 .int x3).bind fun t21 =>
    (bb_rcv h x0 0 (m_X0_seatLast x0 x3 t21 h)).bind fun g22 =>
    m_X0_seatAll_12 n x0 x1 x2 (x3 + 1) g22
def m_X0_seatAll (x0 : Nat) (x1 : Int32) (x2 : Nat) (h : bb_H) : Option bb_H :=
  (bb_pI h x0 0 2 0).bind fun g2 =>
  (bb_pI g2 x0 0 3 0).bind fun g7 =>
  m_X0_seatAll_12 1000 x0 x1 x2 0 g7
/-- BattleBench$Bench.seatAs([I)V -/
def m_X0_seatAs_2 : Nat → Nat → Nat → Int32 → bb_H → Option bb_H
  | 0, _, _, _, _ => none
  | n + 1, x0, x1, x2, h =>
    (bb_gI h x0 0 2).bind fun t4 =>
    if t4 ≤ x2 then
      some h
    else
    (bb_gR h x0 0 1).bind fun t11 =>
    (bb_aI h x1 .int x2).bind fun t17 =>
    (bb_sV h t11 .int x2 (.int t17)).bind fun g18 =>
    m_X0_seatAs_2 n x0 x1 (x2 + 1) g18
def m_X0_seatAs (x0 : Nat) (x1 : Nat) (h : bb_H) : Option bb_H :=
  m_X0_seatAs_2 1000 x0 x1 0 h
/-- BattleBench.within(III)Z -/
def m_X7_within_15 (z0 : Int32) (h : bb_H) : Option (Int32 × bb_H) :=
  bb_rz z0 h
def m_X7_within_14 (h : bb_H) : Option (Int32 × bb_H) :=
  m_X7_within_15 0 h
def m_X7_within (x0 : Int32) (x1 : Int32) (x2 : Int32) (h : bb_H) : Option (Int32 × bb_H) :=
  if x0 < x1 then
    m_X7_within_14 h
  else
  if x2 < x0 then
    m_X7_within_14 h
  else
  m_X7_within_15 1 h
/-- BattleBench$Bench.whoIsOn(I)I -/
def m_X0_whoIsOn_25 (z0 : Int32) (h : bb_H) : Option (Int32 × bb_H) :=
  some (z0, h)
def m_X0_whoIsOn (x0 : Nat) (x1 : Int32) (h : bb_H) : Option (Int32 × bb_H) :=
  (bb_gI h x0 0 2).bind fun t3 =>
  (m_X7_within x1 0 (t3 - 1) h).bind fun r8 =>
  if r8.1 = 0 then
    m_X0_whoIsOn_25 (-4) r8.2
  else
  (bb_gR r8.2 x0 0 1).bind fun t15 =>
  (bb_aI r8.2 t15 .int x1).bind fun t19 =>
  m_X0_whoIsOn_25 t19 r8.2
/-- BattleBench$Bench.seatOf(I)I -/
def m_X0_seatOf_2 : Nat → Nat → Int32 → Int32 → bb_H → Option (Int32 × bb_H)
  | 0, _, _, _, _ => none
  | n + 1, x0, x1, x2, h =>
    (bb_gI h x0 0 2).bind fun t4 =>
    if t4 ≤ x2 then
      some ((-4), h)
    else
    (bb_gR h x0 0 1).bind fun t11 =>
    (bb_aI h t11 .int x2).bind fun t15 =>
    if t15 = x1 then
      some (x2, h)
    else
    m_X0_seatOf_2 n x0 x1 (x2 + 1) h
def m_X0_seatOf (x0 : Nat) (x1 : Int32) (h : bb_H) : Option (Int32 × bb_H) :=
  m_X0_seatOf_2 1000 x0 x1 0 h
/-- BattleBench$Bench.whoSits()I -/
def m_X0_whoSits_4 : Nat → Nat → Int32 → Int32 → bb_H → Option (Int32 × bb_H)
  | 0, _, _, _, _ => none
  | n + 1, x0, x1, x2, h =>
    (bb_gI h x0 0 2).bind fun t6 =>
    if t6 ≤ x2 then
      some (x1, h)
    else
    (bb_gR h x0 0 1).bind fun t15 =>
    (bb_aI h t15 .int x2).bind fun t19 =>
    m_X0_whoSits_4 n x0 (x1 ||| (1 <<< (t19 &&& 31))) (x2 + 1) h
def m_X0_whoSits (x0 : Nat) (h : bb_H) : Option (Int32 × bb_H) :=
  m_X0_whoSits_4 1000 x0 0 0 h
/-- BattleBench$Bench.setOn(I)I -/
def m_X0_setOn_26 (z0 : Int32) (h : bb_H) : Option (Int32 × bb_H) :=
  some (z0, h)
def m_X0_setOn (x0 : Nat) (x1 : Int32) (h : bb_H) : Option (Int32 × bb_H) :=
  (bb_gI h x0 0 2).bind fun t3 =>
  (m_X7_within x1 0 (t3 - 1) h).bind fun r8 =>
  if r8.1 = 0 then
    m_X0_setOn_26 0 r8.2
  else
  (bb_gR r8.2 x0 0 1).bind fun t16 =>
  (bb_aI r8.2 t16 .int x1).bind fun t20 =>
  m_X0_setOn_26 (1 <<< (t20 &&& 31)) r8.2
/-- BattleBench$Bench.whoSitsBy(I)I -/
def m_X0_whoSitsBy (x0 : Nat) (x1 : Int32) (h : bb_H) : Option (Int32 × bb_H) :=
  (bb_rcv h x0 0 (m_X0_seatOf x0 x1 h)).bind fun r2 =>
  if r2.1 = (-4) then
    some (0, r2.2)
  else
  (bb_rcv r2.2 x0 0 (m_X0_setOn x0 (r2.1 - 1) r2.2)).bind fun r18 =>
  (bb_rcv r18.2 x0 0 (m_X0_setOn x0 (r2.1 + 1) r18.2)).bind fun r25 =>
  some (r18.1 ||| r25.1, r25.2)
/-- BattleBench$Bench.lifeOfAll()I -/
def m_X0_lifeOfAll_4 : Nat → Nat → Int32 → Int32 → bb_H → Option (Int32 × bb_H)
  | 0, _, _, _, _ => none
  | n + 1, x0, x1, x2, h =>
    (bb_gI h x0 0 2).bind fun t6 =>
    if t6 ≤ x2 then
      some (x1, h)
    else
    (bb_gR h x0 0 0).bind fun t14 =>
    (bb_gR h x0 0 1).bind fun t18 =>
    (bb_aI h t18 .int x2).bind fun t22 =>
    (bb_aI h t14 .int t22).bind fun t23 =>
    m_X0_lifeOfAll_4 n x0 (x1 + t23) (x2 + 1) h
def m_X0_lifeOfAll (x0 : Nat) (h : bb_H) : Option (Int32 × bb_H) :=
  m_X0_lifeOfAll_4 1000 x0 0 0 h
/-- BattleBench$Roll.lossOfHale(I)I -/
def m_X3_lossOfHale_11 (z0 : Int32) (h : bb_H) : Option (Int32 × bb_H) :=
  some (z0, h)
def m_X3_lossOfHale_0 (x1 : Int32) (h : bb_H) : Option (Int32 × bb_H) :=
  if (x1 - x1 / 2 * 2) = 0 then
    m_X3_lossOfHale_11 2 h
  else
  m_X3_lossOfHale_11 0 h
def m_X3_lossOfHale (x0 : Nat) (x1 : Int32) (h : bb_H) : Option (Int32 × bb_H) := m_X3_lossOfHale_0 x1 h
/-- java/lang/Integer.bitCount(I)I -/
def m_J6_bitCount_0f7a4 (x0 : Int32) (h : bb_H) : Option (Int32 × bb_H) :=
  (some (((x0 - (((x0.toUInt32 >>> ((1 : Int32).toUInt32 &&& Int32.toUInt32 31)).toInt32) &&& 1431655765)) &&& 858993459) + ((((x0 - (((x0.toUInt32 >>> ((1 : Int32).toUInt32 &&& Int32.toUInt32 31)).toInt32) &&& 1431655765)).toUInt32 >>> ((2 : Int32).toUInt32 &&& Int32.toUInt32 31)).toInt32) &&& 858993459))).bind fun y23 =>
  (some (((y23 + ((y23.toUInt32 >>> ((4 : Int32).toUInt32 &&& Int32.toUInt32 31)).toInt32)) &&& 252645135) + ((((y23 + ((y23.toUInt32 >>> ((4 : Int32).toUInt32 &&& Int32.toUInt32 31)).toInt32)) &&& 252645135).toUInt32 >>> ((8 : Int32).toUInt32 &&& Int32.toUInt32 31)).toInt32))).bind fun y40 =>
  some ((y40 + ((y40.toUInt32 >>> ((16 : Int32).toUInt32 &&& Int32.toUInt32 31)).toInt32)) &&& 63, h)
/-- BattleBench$Roll.lossOf(IIII)I -/
def m_X3_lossOf_67 (z0 : Int32) (z1 : Int32) (h : bb_H) : Option (Int32 × bb_H) :=
  some (z0 + z1, h)
def m_X3_lossOf_62 (z0 : Int32) (h : bb_H) : Option (Int32 × bb_H) :=
  m_X3_lossOf_67 z0 1 h
def m_X3_lossOf_90 (h : bb_H) : Option (Int32 × bb_H) :=
  some (2, h)
def m_X3_lossOf (x0 : Nat) (x1 : Int32) (x2 : Int32) (x3 : Int32) (x4 : Int32) (h : bb_H) : Option (Int32 × bb_H) :=
  (bb_gR h x0 3 1).bind fun t1 =>
  (bb_aI h t1 .int x1).bind fun t5 =>
  if t5 = 0 then
    m_X3_lossOf_90 h
  else
  if t5 = 1 then
    (bb_rcv h x0 3 (m_X3_lossOfHale x0 x2 h)).bind fun r42 =>
    some (r42.1, r42.2)
  else
  if t5 = 2 then
    some (4, h)
  else
  if t5 = 3 then
    (bb_rcv h x0 3 (m_X3_lossOfHale x0 x2 h)).bind fun r50 =>
    if x3 = 0 then
      m_X3_lossOf_62 r50.1 r50.2
    else
    if x4 = 0 then
      m_X3_lossOf_62 r50.1 r50.2
    else
    m_X3_lossOf_67 r50.1 0 r50.2
  else
  if t5 = 4 then
    (bb_gR h x0 3 3).bind fun t72 =>
    (bb_aI h t72 .int x1).bind fun t76 =>
    (m_J6_bitCount_0f7a4 (t76 &&& (x3 ||| x4)) h).bind fun r82 =>
    some (bb_max 0 (4 - r82.1), r82.2)
  else
  m_X3_lossOf_90 h
/-- BattleBench$Bench.lossOf(ILBattleBench$Roll;)I -/
def m_X0_lossOf_39 (z0 : Int32) (h : bb_H) : Option (Int32 × bb_H) :=
  some (z0, h)
def m_X0_lossOf (x0 : Nat) (x1 : Int32) (x2 : Nat) (h : bb_H) : Option (Int32 × bb_H) :=
  (bb_rcv h x0 0 (m_X0_seatOf x0 x1 h)).bind fun r2 =>
  if r2.1 = (-4) then
    m_X0_lossOf_39 0 r2.2
  else
  (bb_gI r2.2 x0 0 3).bind fun t19 =>
  (bb_rcv r2.2 x0 0 (m_X0_setOn x0 (r2.1 - 1) r2.2)).bind fun r26 =>
  (bb_rcv r26.2 x0 0 (m_X0_setOn x0 (r2.1 + 1) r26.2)).bind fun r33 =>
  (bb_rcv r33.2 x2 3 (m_X3_lossOf x2 x1 t19 r26.1 r33.1 r33.2)).bind fun r36 =>
  m_X0_lossOf_39 r36.1 r36.2
/-- BattleBench$Bench.hasPairAt(I)Z -/
def m_X0_hasPairAt (x0 : Nat) (x1 : Int32) (h : bb_H) : Option (Int32 × bb_H) :=
  (bb_gI h x0 0 2).bind fun t3 =>
  (m_X7_within x1 0 (t3 - 2) h).bind fun r8 =>
  bb_rz r8.1 r8.2
/-- BattleBench$Bench.swapAt(I)V -/
def m_X0_swapAt_38 (h : bb_H) : Option bb_H :=
  some h
def m_X0_swapAt (x0 : Nat) (x1 : Int32) (h : bb_H) : Option bb_H :=
  (bb_rcv h x0 0 (m_X0_hasPairAt x0 x1 h)).bind fun r2 =>
  if r2.1 = 0 then
    m_X0_swapAt_38 r2.2
  else
  (bb_gR r2.2 x0 0 1).bind fun t9 =>
  (bb_aI r2.2 t9 .int x1).bind fun t13 =>
  (bb_gR r2.2 x0 0 1).bind fun t16 =>
  (bb_gR r2.2 x0 0 1).bind fun t21 =>
  (bb_aI r2.2 t21 .int (x1 + 1)).bind fun t27 =>
  (bb_sV r2.2 t16 .int x1 (.int t27)).bind fun g28 =>
  (bb_gR g28 x0 0 1).bind fun t30 =>
  (bb_sV g28 t30 .int (x1 + 1) (.int t13)).bind fun g37 =>
  m_X0_swapAt_38 g37
/-- BattleBench$Bench.moveByDraw()V -/
def m_X0_moveByDraw_44 (h : bb_H) : Option bb_H :=
  some h
def m_X0_moveByDraw (x0 : Nat) (h : bb_H) : Option bb_H :=
  (bb_gI h x0 0 4).bind fun t2 =>
  (bb_pI h x0 0 4 (((t2 * 1103515245) + 12345) &&& 2147483647)).bind fun g15 =>
  (bb_gI g15 x0 0 2).bind fun t19 =>
  if t19 < 2 then
    m_X0_moveByDraw_44 g15
  else
  (bb_gI g15 x0 0 4).bind fun t28 =>
  (bb_gI g15 x0 0 2).bind fun t35 =>
  if (t35 - 1) = 0 then none else
  (bb_rcv g15 x0 0 (m_X0_swapAt x0 ((t28 / 65536) - (t28 / 65536) / (t35 - 1) * (t35 - 1)) g15)).bind fun g41 =>
  m_X0_moveByDraw_44 g41
/-- BattleBench$Bench.passYear(LBattleBench$Roll;)V -/
def m_X0_passYear_107 (k15 : Nat → Nat → Int32 → Int32 → Int32 → Int32 → bb_H → Option bb_H) (x0 : Nat) (x1 : Nat) (x2 : Int32) (x3 : Int32) (x5 : Int32) (x6 : Int32) (h : bb_H) : Option bb_H :=
  k15 x0 x1 x2 x3 (1 <<< (x6 &&& 31)) (x5 + 1) h
def m_X0_passYear_51 (k15 : Nat → Nat → Int32 → Int32 → Int32 → Int32 → bb_H → Option bb_H) (x0 : Nat) (x1 : Nat) (x2 : Int32) (x3 : Int32) (x4 : Int32) (x5 : Int32) (x6 : Int32) (z0 : Int32) (h : bb_H) : Option bb_H :=
  (bb_gR h x0 0 0).bind fun t54 =>
  (bb_gR h x0 0 0).bind fun t61 =>
  (bb_aI h t61 .int x6).bind fun t66 =>
  (bb_gI h x0 0 3).bind fun t71 =>
  (bb_rcv h x1 3 (m_X3_lossOf x1 x6 t71 x4 z0 h)).bind fun r78 =>
  (bb_sV r78.2 t54 .int x6 (.int (bb_max 0 (t66 - r78.1)))).bind fun g85 =>
  (bb_gR g85 x0 0 0).bind fun t87 =>
  (bb_aI g85 t87 .int x6).bind fun t92 =>
  if t92 ≤ 0 then
    m_X0_passYear_107 k15 x0 x1 x2 x3 x5 x6 g85
  else
  (bb_gR g85 x0 0 1).bind fun t97 =>
  (bb_sV g85 t97 .int x3 (.int x6)).bind fun g103 =>
  m_X0_passYear_107 k15 x0 x1 x2 (x3 + 1) x5 x6 g103
def m_X0_passYear_15 : Nat → Nat → Nat → Int32 → Int32 → Int32 → Int32 → bb_H → Option bb_H
  | 0, _, _, _, _, _, _, _ => none
  | n + 1, x0, x1, x2, x3, x4, x5, h =>
    if x2 < x5 then
      (bb_pI h x0 0 2 x3).bind fun g121 =>
      (bb_gI g121 x0 0 3).bind fun t126 =>
      (bb_pI g121 x0 0 3 (t126 + 1)).bind fun g131 =>
      some g131
    else
    (bb_gR h x0 0 1).bind fun t22 =>
    (bb_aI h t22 .int x5).bind fun t27 =>
    if x2 ≤ x5 then
      m_X0_passYear_51 (m_X0_passYear_15 n) x0 x1 x2 x3 x4 x5 t27 0 h
    else
    (bb_gR h x0 0 1).bind fun t38 =>
    (bb_aI h t38 .int (x5 + 1)).bind fun t45 =>
    m_X0_passYear_51 (m_X0_passYear_15 n) x0 x1 x2 x3 x4 x5 t27 (1 <<< (t45 &&& 31)) h
def m_X0_passYear (x0 : Nat) (x1 : Nat) (h : bb_H) : Option bb_H :=
  (bb_gI h x0 0 2).bind fun t1 =>
  m_X0_passYear_15 1000 x0 x1 (t1 - 1) 0 0 0 h
/-- BattleBench$Bench.passYears(ILBattleBench$Roll;)V -/
def m_X0_passYears_2 : Nat → Nat → Int32 → Nat → Int32 → bb_H → Option bb_H
  | 0, _, _, _, _, _ => none
  | n + 1, x0, x1, x2, x3, h =>
    if x1 ≤ x3 then
      some h
    else
    (bb_rcv h x0 0 (m_X0_passYear x0 x2 h)).bind fun g9 =>
    m_X0_passYears_2 n x0 x1 x2 (x3 + 1) g9
def m_X0_passYears (x0 : Nat) (x1 : Int32) (x2 : Nat) (h : bb_H) : Option bb_H :=
  m_X0_passYears_2 1000 x0 x1 x2 0 h
/-- BattleBench$Log.takeFrom(LBattleBench$Log;)V -/
def m_X1_takeFrom_2 : Nat → Nat → Nat → Int32 → bb_H → Option bb_H
  | 0, _, _, _, _ => none
  | n + 1, x0, x1, x2, h =>
    if 8 ≤ x2 then
      (bb_gI h x1 1 1).bind fun t31 =>
      (bb_pI h x0 1 1 t31).bind fun g34 =>
      (bb_gI g34 x1 1 2).bind fun t39 =>
      (bb_pI g34 x0 1 2 t39).bind fun g42 =>
      some g42
    else
    (bb_gR h x0 1 0).bind fun t9 =>
    (bb_aR h t9 (.object "BattleBench$Bench") x2).bind fun t13 =>
    (bb_gR h x1 1 0).bind fun t15 =>
    (bb_aR h t15 (.object "BattleBench$Bench") x2).bind fun t19 =>
    (bb_rcv h t13 0 (m_X0_takeFrom t13 t19 h)).bind fun g20 =>
    m_X1_takeFrom_2 n x0 x1 (x2 + 1) g20
def m_X1_takeFrom (x0 : Nat) (x1 : Nat) (h : bb_H) : Option bb_H :=
  m_X1_takeFrom_2 1000 x0 x1 0 h
/-- BattleBench$Log.keep(LBattleBench$Bench;)V -/
def m_X1_keep (x0 : Nat) (x1 : Nat) (h : bb_H) : Option bb_H :=
  (bb_gR h x0 1 0).bind fun t1 =>
  (bb_gI h x0 1 2).bind fun t5 =>
  (bb_aR h t1 (.object "BattleBench$Bench") t5).bind fun t8 =>
  (bb_rcv h t8 0 (m_X0_takeFrom t8 x1 h)).bind fun g10 =>
  (bb_gI g10 x0 1 2).bind fun t15 =>
  (bb_pI g10 x0 1 2 ((t15 + 1) - (t15 + 1) / 8 * 8)).bind fun g23 =>
  (bb_gI g23 x0 1 1).bind fun t30 =>
  (bb_pI g23 x0 1 1 (bb_min 8 (t30 + 1))).bind fun g38 =>
  some g38
/-- BattleBench$Log.giveBack(LBattleBench$Bench;)V -/
def m_X1_giveBack_46 (h : bb_H) : Option bb_H :=
  some h
def m_X1_giveBack (x0 : Nat) (x1 : Nat) (h : bb_H) : Option bb_H :=
  (bb_gI h x0 1 1).bind fun t1 =>
  if t1 ≤ 0 then
    m_X1_giveBack_46 h
  else
  (bb_gI h x0 1 2).bind fun t9 =>
  (bb_pI h x0 1 2 (((t9 + 8) - 1) - ((t9 + 8) - 1) / 8 * 8)).bind fun g20 =>
  (bb_gI g20 x0 1 1).bind fun t25 =>
  (bb_pI g20 x0 1 1 (t25 - 1)).bind fun g30 =>
  (bb_gR g30 x0 1 0).bind fun t35 =>
  (bb_gI g30 x0 1 2).bind fun t39 =>
  (bb_aR g30 t35 (.object "BattleBench$Bench") t39).bind fun t42 =>
  (bb_rcv g30 x1 0 (m_X0_takeFrom x1 t42 g30)).bind fun g43 =>
  m_X1_giveBack_46 g43
/-- BattleBench$Log.forget()V -/
def m_X1_forget (x0 : Nat) (h : bb_H) : Option bb_H :=
  (bb_pI h x0 1 1 0).bind fun g2 =>
  some g2
/-- BattleBench.holds(II)Z -/
def m_X7_holds_14 (z0 : Int32) (h : bb_H) : Option (Int32 × bb_H) :=
  bb_rz z0 h
def m_X7_holds (x0 : Int32) (x1 : Int32) (h : bb_H) : Option (Int32 × bb_H) :=
  if ((x0 >>> (x1 &&& 31)) &&& 1) = 1 then
    m_X7_holds_14 1 h
  else
  m_X7_holds_14 0 h
/-- BattleBench$Order.keepAsBest()V -/
def m_X2_keepAsBest_2 : Nat → Nat → Int32 → bb_H → Option bb_H
  | 0, _, _, _ => none
  | n + 1, x0, x1, h =>
    if 6 ≤ x1 then
      some h
    else
    (bb_gR h x0 2 1).bind fun t9 =>
    (bb_gR h x0 2 0).bind fun t14 =>
    (bb_aI h t14 .int x1).bind fun t18 =>
    (bb_sV h t9 .int x1 (.int t18)).bind fun g19 =>
    m_X2_keepAsBest_2 n x0 (x1 + 1) g19
def m_X2_keepAsBest (x0 : Nat) (h : bb_H) : Option bb_H :=
  m_X2_keepAsBest_2 1000 x0 0 h
/-- BattleBench$Order.start(LBattleBench$Bench;)V -/
def m_X2_start_46 (k12 : Nat → Int32 → Int32 → bb_H → Option bb_H) (x0 : Nat) (x2 : Int32) (x3 : Int32) (h : bb_H) : Option bb_H :=
  k12 x0 x2 (x3 + 1) h
def m_X2_start_12 : Nat → Nat → Int32 → Int32 → bb_H → Option bb_H
  | 0, _, _, _, _ => none
  | n + 1, x0, x2, x3, h =>
    if 6 ≤ x3 then
      (bb_rcv h x0 2 (m_X2_keepAsBest x0 h)).bind fun g53 =>
      some g53
    else
    (m_X7_holds x2 x3 h).bind fun r20 =>
    if r20.1 = 0 then
      m_X2_start_46 (m_X2_start_12 n) x0 x2 x3 r20.2
    else
    (bb_gR r20.2 x0 2 0).bind fun t27 =>
    (bb_gI r20.2 x0 2 2).bind fun t31 =>
    (bb_sV r20.2 t27 .int t31 (.int x3)).bind fun g35 =>
    (bb_gI g35 x0 2 2).bind fun t38 =>
    (bb_pI g35 x0 2 2 (t38 + 1)).bind fun g43 =>
    m_X2_start_46 (m_X2_start_12 n) x0 x2 x3 g43
def m_X2_start (x0 : Nat) (x1 : Nat) (h : bb_H) : Option bb_H :=
  (bb_rcv h x1 0 (m_X0_whoSits x1 h)).bind fun r1 =>
  (bb_pI r1.2 x0 2 2 0).bind fun g7 =>
  m_X2_start_12 1000 x0 r1.1 0 g7
/-- BattleBench$Order.bestOn(I)I -/
def m_X2_bestOn_25 (z0 : Int32) (h : bb_H) : Option (Int32 × bb_H) :=
  some (z0, h)
def m_X2_bestOn (x0 : Nat) (x1 : Int32) (h : bb_H) : Option (Int32 × bb_H) :=
  (bb_gI h x0 2 2).bind fun t3 =>
  (m_X7_within x1 0 (t3 - 1) h).bind fun r8 =>
  if r8.1 = 0 then
    m_X2_bestOn_25 (-4) r8.2
  else
  (bb_gR r8.2 x0 2 1).bind fun t15 =>
  (bb_aI r8.2 t15 .int x1).bind fun t19 =>
  m_X2_bestOn_25 t19 r8.2
/-- BattleBench$Order.isTurnedRound()Z -/
def m_X2_isTurnedRound_33 (z0 : Int32) (h : bb_H) : Option (Int32 × bb_H) :=
  bb_rz z0 h
def m_X2_isTurnedRound_32 (h : bb_H) : Option (Int32 × bb_H) :=
  m_X2_isTurnedRound_33 0 h
def m_X2_isTurnedRound (x0 : Nat) (h : bb_H) : Option (Int32 × bb_H) :=
  (bb_gI h x0 2 2).bind fun t1 =>
  if t1 ≤ 1 then
    m_X2_isTurnedRound_32 h
  else
  (bb_gR h x0 2 0).bind fun t9 =>
  (bb_aI h t9 .int 0).bind fun t13 =>
  (bb_gR h x0 2 0).bind fun t15 =>
  (bb_gI h x0 2 2).bind fun t19 =>
  (bb_aI h t15 .int (t19 - 1)).bind fun t24 =>
  if t13 ≤ t24 then
    m_X2_isTurnedRound_32 h
  else
  m_X2_isTurnedRound_33 1 h
/-- BattleBench$Order.swap(II)V -/
def m_X2_swap (x0 : Nat) (x1 : Int32) (x2 : Int32) (h : bb_H) : Option bb_H :=
  (bb_gR h x0 2 0).bind fun t1 =>
  (bb_aI h t1 .int x1).bind fun t5 =>
  (bb_gR h x0 2 0).bind fun t8 =>
  (bb_gR h x0 2 0).bind fun t13 =>
  (bb_aI h t13 .int x2).bind fun t17 =>
  (bb_sV h t8 .int x1 (.int t17)).bind fun g18 =>
  (bb_gR g18 x0 2 0).bind fun t20 =>
  (bb_sV g18 t20 .int x2 (.int t5)).bind fun g25 =>
  some g25
/-- BattleBench$Order.advance()Z -/
def m_X2_advance_93 : Nat → Nat → Int32 → Int32 → bb_H → Option (Int32 × bb_H)
  | 0, _, _, _, _ => none
  | n + 1, x0, x3, x4, h =>
    if x4 ≤ x3 then
      some (1, h)
    else
    (bb_rcv h x0 2 (m_X2_swap x0 x3 x4 h)).bind fun g103 =>
    m_X2_advance_93 n x0 (x3 + 1) (x4 + (-1)) g103
def m_X2_advance_75 (x0 : Nat) (x1 : Int32) (x2 : Int32) (h : bb_H) : Option (Int32 × bb_H) :=
  (bb_rcv h x0 2 (m_X2_swap x0 x1 x2 h)).bind fun g78 =>
  (bb_gI g78 x0 2 2).bind fun t86 =>
  m_X2_advance_93 1000 x0 (x1 + 1) (t86 - 1) g78
def m_X2_advance_47 : Nat → Nat → Int32 → Int32 → bb_H → Option (Int32 × bb_H)
  | 0, _, _, _, _ => none
  | n + 1, x0, x1, x2, h =>
    if x2 ≤ (x1 + 1) then
      m_X2_advance_75 x0 x1 x2 h
    else
    (bb_gR h x0 2 0).bind fun t55 =>
    (bb_aI h t55 .int x2).bind fun t59 =>
    (bb_gR h x0 2 0).bind fun t61 =>
    (bb_aI h t61 .int x1).bind fun t65 =>
    if t65 ≤ t59 then
      m_X2_advance_75 x0 x1 x2 h
    else
    m_X2_advance_47 n x0 x1 (x2 + (-1)) h
def m_X2_advance_34 (x0 : Nat) (x1 : Int32) (h : bb_H) : Option (Int32 × bb_H) :=
  if 0 ≤ x1 then
    (bb_gI h x0 2 2).bind fun t41 =>
    m_X2_advance_47 1000 x0 x1 (t41 - 1) h
  else
  some (0, h)
def m_X2_advance_7 : Nat → Nat → Int32 → bb_H → Option (Int32 × bb_H)
  | 0, _, _, _ => none
  | n + 1, x0, x1, h =>
    if x1 < 0 then
      m_X2_advance_34 x0 x1 h
    else
    (bb_gR h x0 2 0).bind fun t12 =>
    (bb_aI h t12 .int x1).bind fun t16 =>
    (bb_gR h x0 2 0).bind fun t18 =>
    (bb_aI h t18 .int (x1 + 1)).bind fun t24 =>
    if t16 ≤ t24 then
      m_X2_advance_34 x0 x1 h
    else
    m_X2_advance_7 n x0 (x1 + (-1)) h
def m_X2_advance (x0 : Nat) (h : bb_H) : Option (Int32 × bb_H) :=
  (bb_gI h x0 2 2).bind fun t1 =>
  m_X2_advance_7 1000 x0 (t1 - 2) h
/-- BattleBench$Roll.takeFrom(LBattleBench$Roll;)V -/
def m_X3_takeFrom_42 (k10 : Nat → Nat → Int32 → bb_H → Option bb_H) : Nat → Nat → Nat → Int32 → Int32 → bb_H → Option bb_H
  | 0, _, _, _, _, _ => none
  | n + 1, x0, x1, x2, x3, h =>
    if 3 ≤ x3 then
      k10 x0 x1 (x2 + 1) h
    else
    (bb_gR h x0 3 2).bind fun t48 =>
    (bb_aR h t48 (.array .int) x3).bind fun t52 =>
    (bb_gR h x1 3 2).bind fun t55 =>
    (bb_aR h t55 (.array .int) x3).bind fun t59 =>
    (bb_aI h t59 .int x2).bind fun t61 =>
    (bb_sV h t52 .int x2 (.int t61)).bind fun g62 =>
    m_X3_takeFrom_42 k10 n x0 x1 x2 (x3 + 1) g62
def m_X3_takeFrom_10 : Nat → Nat → Nat → Int32 → bb_H → Option bb_H
  | 0, _, _, _, _ => none
  | n + 1, x0, x1, x2, h =>
    if 6 ≤ x2 then
      some h
    else
    (bb_gR h x0 3 1).bind fun t17 =>
    (bb_gR h x1 3 1).bind fun t22 =>
    (bb_aI h t22 .int x2).bind fun t26 =>
    (bb_sV h t17 .int x2 (.int t26)).bind fun g27 =>
    (bb_gR g27 x0 3 3).bind fun t29 =>
    (bb_gR g27 x1 3 3).bind fun t34 =>
    (bb_aI g27 t34 .int x2).bind fun t38 =>
    (bb_sV g27 t29 .int x2 (.int t38)).bind fun g39 =>
    m_X3_takeFrom_42 (m_X3_takeFrom_10 n) 1000 x0 x1 x2 0 g39
def m_X3_takeFrom (x0 : Nat) (x1 : Nat) (h : bb_H) : Option bb_H :=
  (bb_gI h x1 3 0).bind fun t2 =>
  (bb_pI h x0 3 0 t2).bind fun g5 =>
  m_X3_takeFrom_10 1000 x0 x1 0 g5
/-- BattleBench$Roll.has(I)Z -/
def m_X3_has (x0 : Nat) (x1 : Int32) (h : bb_H) : Option (Int32 × bb_H) :=
  (bb_gI h x0 3 0).bind fun t3 =>
  (m_X7_within x1 0 (t3 - 1) h).bind fun r8 =>
  bb_rz r8.1 r8.2
/-- BattleBench$Roll.isTaken(II)Z -/
def m_X3_isTaken_2 : Nat → Nat → Int32 → Int32 → Int32 → bb_H → Option (Int32 × bb_H)
  | 0, _, _, _, _, _ => none
  | n + 1, x0, x1, x2, x3, h =>
    (bb_gI h x0 3 0).bind fun t4 =>
    if t4 ≤ x3 then
      some (0, h)
    else
    (bb_gR h x0 3 2).bind fun t11 =>
    (bb_aR h t11 (.array .int) x1).bind fun t15 =>
    (bb_aI h t15 .int x3).bind fun t17 =>
    if t17 = x2 then
      some (1, h)
    else
    m_X3_isTaken_2 n x0 x1 x2 (x3 + 1) h
def m_X3_isTaken (x0 : Nat) (x1 : Int32) (x2 : Int32) (h : bb_H) : Option (Int32 × bb_H) :=
  m_X3_isTaken_2 1000 x0 x1 x2 0 h
/-- BattleBench$Roll.isTakenAtAnyHour(I)Z -/
def m_X3_isTakenAtAnyHour_2 : Nat → Nat → Int32 → Int32 → bb_H → Option (Int32 × bb_H)
  | 0, _, _, _, _ => none
  | n + 1, x0, x1, x2, h =>
    if 3 ≤ x2 then
      some (0, h)
    else
    (bb_rcv h x0 3 (m_X3_isTaken x0 x2 x1 h)).bind fun r10 =>
    if r10.1 = 0 then
      m_X3_isTakenAtAnyHour_2 n x0 x1 (x2 + 1) r10.2
    else
    some (1, r10.2)
def m_X3_isTakenAtAnyHour (x0 : Nat) (x1 : Int32) (h : bb_H) : Option (Int32 × bb_H) :=
  m_X3_isTakenAtAnyHour_2 1000 x0 x1 0 h
/-- BattleBench$Roll.placeNext(II)V -/
def m_X3_placeNext_21 (h : bb_H) : Option bb_H :=
  some h
def m_X3_placeNext (x0 : Nat) (x1 : Int32) (x2 : Int32) (h : bb_H) : Option bb_H :=
  (bb_gI h x0 3 0).bind fun t1 =>
  if 6 ≤ t1 then
    m_X3_placeNext_21 h
  else
  (bb_gR h x0 3 2).bind fun t10 =>
  (bb_aR h t10 (.array .int) x1).bind fun t14 =>
  (bb_gI h x0 3 0).bind fun t16 =>
  (bb_sV h t14 .int t16 (.int x2)).bind fun g20 =>
  m_X3_placeNext_21 g20
/-- BattleBench$Roll.placeNextByNumber()V -/
def m_X3_placeNextByNumber_2 : Nat → Nat → Int32 → bb_H → Option bb_H
  | 0, _, _, _ => none
  | n + 1, x0, x1, h =>
    if 3 ≤ x1 then
      some h
    else
    (bb_gI h x0 3 0).bind fun t10 =>
    (bb_rcv h x0 3 (m_X3_placeNext x0 x1 t10 h)).bind fun g13 =>
    m_X3_placeNextByNumber_2 n x0 (x1 + 1) g13
def m_X3_placeNextByNumber (x0 : Nat) (h : bb_H) : Option bb_H :=
  m_X3_placeNextByNumber_2 1000 x0 0 h
/-- BattleBench$Roll, its method 8 (I)V -/
def m_X3_adm_29 (h : bb_H) : Option bb_H :=
  some h
def m_X3_adm (x0 : Nat) (x1 : Int32) (h : bb_H) : Option bb_H :=
  (bb_gI h x0 3 0).bind fun t1 =>
  if 6 ≤ t1 then
    m_X3_adm_29 h
  else
  (bb_gR h x0 3 1).bind fun t10 =>
  (bb_gI h x0 3 0).bind fun t14 =>
  (bb_sV h t10 .int t14 (.int x1)).bind fun g18 =>
  (bb_gI g18 x0 3 0).bind fun t21 =>
  (bb_pI g18 x0 3 0 (t21 + 1)).bind fun g26 =>
  m_X3_adm_29 g26
/-- BattleBench$Roll.isNobodyBetween([III)Z -/
def m_X3_isNobodyBetween_46 (k17 : Nat → Nat → Int32 → Int32 → Int32 → bb_H → Option (Int32 × bb_H)) (x0 : Nat) (x1 : Nat) (x4 : Int32) (x5 : Int32) (x6 : Int32) (h : bb_H) : Option (Int32 × bb_H) :=
  k17 x0 x1 x4 x5 (x6 + 1) h
def m_X3_isNobodyBetween_17 : Nat → Nat → Nat → Int32 → Int32 → Int32 → bb_H → Option (Int32 × bb_H)
  | 0, _, _, _, _, _, _ => none
  | n + 1, x0, x1, x4, x5, x6, h =>
    (bb_gI h x0 3 0).bind fun t20 =>
    if t20 ≤ x6 then
      some (1, h)
    else
    (bb_aI h x1 .int x6).bind fun t29 =>
    if t29 ≤ x4 then
      m_X3_isNobodyBetween_46 (m_X3_isNobodyBetween_17 n) x0 x1 x4 x5 x6 h
    else
    (bb_aI h x1 .int x6).bind fun t38 =>
    if x5 ≤ t38 then
      m_X3_isNobodyBetween_46 (m_X3_isNobodyBetween_17 n) x0 x1 x4 x5 x6 h
    else
    some (0, h)
def m_X3_isNobodyBetween (x0 : Nat) (x1 : Nat) (x2 : Int32) (x3 : Int32) (h : bb_H) : Option (Int32 × bb_H) :=
  m_X3_isNobodyBetween_17 1000 x0 x1 (bb_min x2 x3) (bb_max x2 x3) 0 h
/-- BattleBench$Roll.wereTogether(II)Z -/
def m_X3_wereTogether_2 : Nat → Nat → Int32 → Int32 → Int32 → bb_H → Option (Int32 × bb_H)
  | 0, _, _, _, _, _ => none
  | n + 1, x0, x1, x2, x3, h =>
    if 3 ≤ x3 then
      some (0, h)
    else
    (bb_gR h x0 3 2).bind fun t9 =>
    (bb_aR h t9 (.array .int) x3).bind fun t13 =>
    (bb_gR h x0 3 2).bind fun t15 =>
    (bb_aR h t15 (.array .int) x3).bind fun t19 =>
    (bb_aI h t19 .int x1).bind fun t21 =>
    (bb_gR h x0 3 2).bind fun t23 =>
    (bb_aR h t23 (.array .int) x3).bind fun t27 =>
    (bb_aI h t27 .int x2).bind fun t29 =>
    (bb_rcv h x0 3 (m_X3_isNobodyBetween x0 t13 t21 t29 h)).bind fun r30 =>
    if r30.1 = 0 then
      m_X3_wereTogether_2 n x0 x1 x2 (x3 + 1) r30.2
    else
    some (1, r30.2)
def m_X3_wereTogether (x0 : Nat) (x1 : Int32) (x2 : Int32) (h : bb_H) : Option (Int32 × bb_H) :=
  m_X3_wereTogether_2 1000 x0 x1 x2 0 h
/-- BattleBench$Roll.findWhoStoodBy()V -/
def m_X3_findWhoStoodBy_53 (k2 : Nat → Int32 → bb_H → Option bb_H) (k19 : Nat → Int32 → Int32 → bb_H → Option bb_H) (x0 : Nat) (x1 : Int32) (x2 : Int32) (h : bb_H) : Option bb_H :=
  k19 x0 x1 (x2 + 1) h
def m_X3_findWhoStoodBy_19 (k2 : Nat → Int32 → bb_H → Option bb_H) : Nat → Nat → Int32 → Int32 → bb_H → Option bb_H
  | 0, _, _, _, _ => none
  | n + 1, x0, x1, x2, h =>
    (bb_gI h x0 3 0).bind fun t21 =>
    if t21 ≤ x2 then
      k2 x0 (x1 + 1) h
    else
    if x2 = x1 then
      m_X3_findWhoStoodBy_53 k2 (m_X3_findWhoStoodBy_19 k2 n) x0 x1 x2 h
    else
    (bb_rcv h x0 3 (m_X3_wereTogether x0 x1 x2 h)).bind fun r35 =>
    if r35.1 = 0 then
      m_X3_findWhoStoodBy_53 k2 (m_X3_findWhoStoodBy_19 k2 n) x0 x1 x2 r35.2
    else
    (bb_gR r35.2 x0 3 3).bind fun t42 =>
    (bb_aI r35.2 t42 .int x1).bind fun t47 =>
    (bb_sV r35.2 t42 .int x1 (.int (t47 ||| (1 <<< (x2 &&& 31))))).bind fun g52 =>
    m_X3_findWhoStoodBy_53 k2 (m_X3_findWhoStoodBy_19 k2 n) x0 x1 x2 g52
def m_X3_findWhoStoodBy_2 : Nat → Nat → Int32 → bb_H → Option bb_H
  | 0, _, _, _ => none
  | n + 1, x0, x1, h =>
    (bb_gI h x0 3 0).bind fun t4 =>
    if t4 ≤ x1 then
      some h
    else
    (bb_gR h x0 3 3).bind fun t11 =>
    (bb_sV h t11 .int x1 (.int 0)).bind fun g16 =>
    m_X3_findWhoStoodBy_19 (m_X3_findWhoStoodBy_2 n) 1000 x0 x1 0 g16
def m_X3_findWhoStoodBy (x0 : Nat) (h : bb_H) : Option bb_H :=
  m_X3_findWhoStoodBy_2 1000 x0 0 h
/-- BattleBench$Roll.wrongPairs([II)I -/
def m_X3_wrongPairs_35 (k5 : Nat → Nat → Int32 → Int32 → Int32 → bb_H → Option (Int32 × bb_H)) (x0 : Nat) (x1 : Nat) (x2 : Int32) (x3 : Int32) (x4 : Int32) (h : bb_H) : Option (Int32 × bb_H) :=
  k5 x0 x1 x2 x3 (x4 + 1) h
def m_X3_wrongPairs_5 : Nat → Nat → Nat → Int32 → Int32 → Int32 → bb_H → Option (Int32 × bb_H)
  | 0, _, _, _, _, _, _ => none
  | n + 1, x0, x1, x2, x3, x4, h =>
    if x2 ≤ x4 then
      some (x3, h)
    else
    (bb_gR h x0 3 3).bind fun t12 =>
    (bb_aI h x1 .int (x4 - 1)).bind fun t20 =>
    (bb_aI h t12 .int t20).bind fun t21 =>
    (bb_aI h x1 .int x4).bind fun t25 =>
    (m_X7_holds t21 t25 h).bind fun r26 =>
    if r26.1 = 0 then
      m_X3_wrongPairs_35 (m_X3_wrongPairs_5 n) x0 x1 x2 (x3 + 1) x4 r26.2
    else
    m_X3_wrongPairs_35 (m_X3_wrongPairs_5 n) x0 x1 x2 x3 x4 r26.2
def m_X3_wrongPairs (x0 : Nat) (x1 : Nat) (x2 : Int32) (h : bb_H) : Option (Int32 × bb_H) :=
  m_X3_wrongPairs_5 1000 x0 x1 x2 0 1 h
/-- BattleBench$Sheet.renew(II)V -/
def m_X4_renew_17 : Nat → Nat → Int32 → bb_H → Option bb_H
  | 0, _, _, _ => none
  | n + 1, x0, x3, h =>
    if 24 ≤ x3 then
      some h
    else
    (bb_gR h x0 4 3).bind fun t24 =>
    (bb_sV h t24 .long x3 (.long 0)).bind fun g29 =>
    m_X4_renew_17 n x0 (x3 + 1) g29
def m_X4_renew (x0 : Nat) (x1 : Int32) (x2 : Int32) (h : bb_H) : Option bb_H :=
  (bb_pZ h x0 4 0 1).bind fun g2 =>
  (bb_pI g2 x0 4 1 x1).bind fun g7 =>
  (bb_pI g7 x0 4 2 x2).bind fun g12 =>
  m_X4_renew_17 1000 x0 0 g12
/-- BattleBench$Sheet.spans(II)Z -/
def m_X4_spans_23 (z0 : Int32) (h : bb_H) : Option (Int32 × bb_H) :=
  bb_rz z0 h
def m_X4_spans_22 (h : bb_H) : Option (Int32 × bb_H) :=
  m_X4_spans_23 0 h
def m_X4_spans (x0 : Nat) (x1 : Int32) (x2 : Int32) (h : bb_H) : Option (Int32 × bb_H) :=
  if x1 < 0 then
    m_X4_spans_22 h
  else
  if x2 < 0 then
    m_X4_spans_22 h
  else
  (bb_gI h x0 4 2).bind fun t10 =>
  if (t10 - x2) < x1 then
    m_X4_spans_22 h
  else
  m_X4_spans_23 1 h
/-- BattleBench$Sheet.refusalOf(III)I -/
def m_X4_refusalOf_36 (z0 : Int32) (h : bb_H) : Option (Int32 × bb_H) :=
  some (z0, h)
def m_X4_refusalOf (x0 : Nat) (x1 : Int32) (x2 : Int32) (x3 : Int32) (h : bb_H) : Option (Int32 × bb_H) :=
  (bb_gI h x0 4 0).bind fun t1 =>
  if t1 = 0 then
    some ((-11), h)
  else
  (bb_gI h x0 4 1).bind fun t11 =>
  if t11 = x1 then
    (bb_rcv h x0 4 (m_X4_spans x0 x2 x3 h)).bind fun r24 =>
    if r24.1 = 0 then
      m_X4_refusalOf_36 (-13) r24.2
    else
    m_X4_refusalOf_36 0 r24.2
  else
  some ((-12), h)
/-- BattleBench$Sheet.cut(J)J -/
def m_X4_cut (x0 : Nat) (x1 : Int64) (h : bb_H) : Option (Int64 × bb_H) :=
  (bb_gI h x0 4 1).bind fun t1 =>
  if t1 = 0 then
    some (x1.toInt32.toInt8.toInt32.toInt64, h)
  else
  if t1 = 1 then
    some (x1.toInt32.toInt16.toInt32.toInt64, h)
  else
  if t1 = 2 then
    some (x1.toInt32.toInt64, h)
  else
  some (x1, h)
/-- BattleBench$Sheet.put(IJ)V -/
def m_X4_put_25 (h : bb_H) : Option bb_H :=
  some h
def m_X4_put (x0 : Nat) (x1 : Int32) (x2 : Int64) (h : bb_H) : Option bb_H :=
  (bb_gI h x0 4 2).bind fun t3 =>
  (m_X7_within x1 0 (t3 - 1) h).bind fun r8 =>
  if r8.1 = 0 then
    m_X4_put_25 r8.2
  else
  (bb_gR r8.2 x0 4 3).bind fun t15 =>
  (bb_rcv r8.2 x0 4 (m_X4_cut x0 x2 r8.2)).bind fun r21 =>
  (bb_sV r21.2 t15 .long x1 (.long r21.1)).bind fun g24 =>
  m_X4_put_25 g24
/-- BattleBench$State.takeFrom(LBattleBench$State;)V -/
def m_X5_takeFrom (x0 : Nat) (x1 : Nat) (h : bb_H) : Option bb_H :=
  (bb_gR h x0 5 0).bind fun t1 =>
  (bb_gR h x1 5 0).bind fun t5 =>
  (bb_rcv h t1 3 (m_X3_takeFrom t1 t5 h)).bind fun g8 =>
  (bb_gR g8 x0 5 1).bind fun t12 =>
  (bb_gR g8 x1 5 1).bind fun t16 =>
  (bb_rcv g8 t12 0 (m_X0_takeFrom t12 t16 g8)).bind fun g19 =>
  (bb_gR g19 x0 5 2).bind fun t23 =>
  (bb_gR g19 x1 5 2).bind fun t27 =>
  (bb_rcv g19 t23 1 (m_X1_takeFrom t23 t27 g19)).bind fun g30 =>
  some g30
