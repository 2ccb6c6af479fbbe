/-- BattleBenchModel.in(III)Z -/
def m_X8_in_15 (z0 : Int32) (h : bb_H) : Option (Int32 × bb_H) :=
  bb_rz z0 h
def m_X8_in_14 (h : bb_H) : Option (Int32 × bb_H) :=
  m_X8_in_15 0 h
def m_X8_in (x0 : Int32) (x1 : Int32) (x2 : Int32) (h : bb_H) : Option (Int32 × bb_H) :=
  if x0 < x1 then
    m_X8_in_14 h
  else
  if x2 < x0 then
    m_X8_in_14 h
  else
  m_X8_in_15 1 h
/-- BattleBenchModel.has(II)Z -/
def m_X8_has_14 (z0 : Int32) (h : bb_H) : Option (Int32 × bb_H) :=
  bb_rz z0 h
def m_X8_has (x0 : Int32) (x1 : Int32) (h : bb_H) : Option (Int32 × bb_H) :=
  if ((x0 >>> (x1 &&& 31)) &&& 1) = 1 then
    m_X8_has_14 1 h
  else
  m_X8_has_14 0 h
/-- BattleBenchModel.isMan(I)Z -/
def m_X8_isMan (x0 : Nat) (x1 : Int32) (h : bb_H) : Option (Int32 × bb_H) :=
  (bb_gR h x0 8 0).bind fun t3 =>
  (bb_aI h t3 .int 0).bind fun t7 =>
  (m_X8_in x1 0 (t7 - 1) h).bind fun r10 =>
  bb_rz r10.1 r10.2
/-- BattleBenchModel.seatOf(I)I -/
def m_X8_seatOf_33 (k5 : Nat → Int32 → Int32 → Int32 → bb_H → Option (Int32 × bb_H)) (x0 : Nat) (x1 : Int32) (x3 : Int32) (z0 : Int32) (h : bb_H) : Option (Int32 × bb_H) :=
  k5 x0 x1 z0 (x3 + 1) h
def m_X8_seatOf_5 : Nat → Nat → Int32 → Int32 → Int32 → bb_H → Option (Int32 × bb_H)
  | 0, _, _, _, _, _ => none
  | n + 1, x0, x1, x2, x3, h =>
    (bb_gR h x0 8 0).bind fun t7 =>
    (bb_aI h t7 .int 1).bind fun t11 =>
    if t11 ≤ x3 then
      some (x2, h)
    else
    (bb_gR h x0 8 0).bind fun t16 =>
    (bb_aI h t16 .int (10 + x3)).bind fun t23 =>
    if t23 = x1 then
      m_X8_seatOf_33 (m_X8_seatOf_5 n) x0 x1 x3 x3 h
    else
    m_X8_seatOf_33 (m_X8_seatOf_5 n) x0 x1 x3 x2 h
def m_X8_seatOf (x0 : Nat) (x1 : Int32) (h : bb_H) : Option (Int32 × bb_H) :=
  m_X8_seatOf_5 1000 x0 x1 (-4) 0 h
/-- BattleBenchModel.onSeat(I)I -/
def m_X8_onSeat_30 (z0 : Int32) (h : bb_H) : Option (Int32 × bb_H) :=
  some (z0, h)
def m_X8_onSeat (x0 : Nat) (x1 : Int32) (h : bb_H) : Option (Int32 × bb_H) :=
  (bb_gR h x0 8 0).bind fun t3 =>
  (bb_aI h t3 .int 1).bind fun t7 =>
  (m_X8_in x1 0 (t7 - 1) h).bind fun r10 =>
  if r10.1 = 0 then
    m_X8_onSeat_30 (-4) r10.2
  else
  (bb_gR r10.2 x0 8 0).bind fun t17 =>
  (bb_aI r10.2 t17 .int (10 + x1)).bind fun t24 =>
  m_X8_onSeat_30 t24 r10.2
/-- BattleBenchModel.bench()I -/
def m_X8_bench_4 : Nat → Nat → Int32 → Int32 → bb_H → Option (Int32 × bb_H)
  | 0, _, _, _, _ => none
  | n + 1, x0, x1, x2, h =>
    (bb_gR h x0 8 0).bind fun t6 =>
    (bb_aI h t6 .int 1).bind fun t10 =>
    if t10 ≤ x2 then
      some (x1, h)
    else
    (bb_gR h x0 8 0).bind fun t17 =>
    (bb_aI h t17 .int (10 + x2)).bind fun t24 =>
    m_X8_bench_4 n x0 (x1 ||| (1 <<< (t24 &&& 31))) (x2 + 1) h
def m_X8_bench (x0 : Nat) (h : bb_H) : Option (Int32 × bb_H) :=
  m_X8_bench_4 1000 x0 0 0 h
/-- BattleBenchModel.isTaken(II)Z -/
def m_X8_isTaken_43 (k5 : Nat → Int32 → Int32 → Int32 → Int32 → bb_H → Option (Int32 × bb_H)) (x0 : Nat) (x1 : Int32) (x2 : Int32) (x4 : Int32) (z0 : Int32) (h : bb_H) : Option (Int32 × bb_H) :=
  k5 x0 x1 x2 z0 (x4 + 1) h
def m_X8_isTaken_38 (k5 : Nat → Int32 → Int32 → Int32 → Int32 → bb_H → Option (Int32 × bb_H)) (x0 : Nat) (x1 : Int32) (x2 : Int32) (x4 : Int32) (h : bb_H) : Option (Int32 × bb_H) :=
  m_X8_isTaken_43 k5 x0 x1 x2 x4 1 h
def m_X8_isTaken_5 : Nat → Nat → Int32 → Int32 → Int32 → Int32 → bb_H → Option (Int32 × bb_H)
  | 0, _, _, _, _, _, _ => none
  | n + 1, x0, x1, x2, x3, x4, h =>
    (bb_gR h x0 8 0).bind fun t8 =>
    (bb_aI h t8 .int 0).bind fun t12 =>
    if t12 ≤ x4 then
      bb_rz x3 h
    else
    if x3 = 0 then
      (bb_gR h x0 8 0).bind fun t21 =>
      (bb_aI h t21 .int ((22 + (3 * x4)) + x1)).bind fun t33 =>
      if t33 = x2 then
        m_X8_isTaken_38 (m_X8_isTaken_5 n) x0 x1 x2 x4 h
      else
      m_X8_isTaken_43 (m_X8_isTaken_5 n) x0 x1 x2 x4 0 h
    else
    m_X8_isTaken_38 (m_X8_isTaken_5 n) x0 x1 x2 x4 h
def m_X8_isTaken (x0 : Nat) (x1 : Int32) (x2 : Int32) (h : bb_H) : Option (Int32 × bb_H) :=
  m_X8_isTaken_5 1000 x0 x1 x2 0 0 h
/-- BattleBenchModel.man(II)I -/
def m_X8_man_19 (h : bb_H) : Option (Int32 × bb_H) :=
  some ((-1), h)
def m_X8_man_64 (h : bb_H) : Option (Int32 × bb_H) :=
  some ((-2), h)
def m_X8_man_89 : Nat → Nat → Int32 → Int32 → bb_H → Option (Int32 × bb_H)
  | 0, _, _, _, _ => none
  | n + 1, x0, x3, x4, h =>
    if 3 ≤ x4 then
      (bb_gR h x0 8 0).bind fun t117 =>
      (bb_gR h x0 8 0).bind fun t123 =>
      (bb_aI h t123 .int 1).bind fun t127 =>
      (bb_sV h t117 .int (10 + t127) (.int x3)).bind fun g130 =>
      (bb_gR g130 x0 8 0).bind fun t132 =>
      (bb_aI g130 t132 .int 1).bind fun t137 =>
      (bb_sV g130 t132 .int 1 (.int (t137 + 1))).bind fun g140 =>
      (bb_gR g140 x0 8 0).bind fun t142 =>
      (bb_aI g140 t142 .int 0).bind fun t147 =>
      (bb_sV g140 t142 .int 0 (.int (t147 + 1))).bind fun g150 =>
      (bb_gR g150 x0 8 0).bind fun t152 =>
      (bb_sV g150 t152 .int 40 (.int 0)).bind fun g158 =>
      some (x3, g158)
    else
    (bb_gR h x0 8 0).bind fun t96 =>
    (bb_sV h t96 .int ((22 + (3 * x3)) + x4) (.int x3)).bind fun g109 =>
    m_X8_man_89 n x0 x3 (x4 + 1) g109
def m_X8_man (x0 : Nat) (x1 : Int32) (x2 : Int32) (h : bb_H) : Option (Int32 × bb_H) :=
  (m_X8_in x1 0 4 h).bind fun r3 =>
  if r3.1 = 0 then
    m_X8_man_19 r3.2
  else
  (m_X8_in x2 1 60 r3.2).bind fun r13 =>
  if r13.1 = 0 then
    m_X8_man_19 r13.2
  else
  (bb_gR r13.2 x0 8 0).bind fun t22 =>
  (bb_aI r13.2 t22 .int 0).bind fun t26 =>
  if t26 = 6 then
    some ((-3), r13.2)
  else
  (bb_rcv r13.2 x0 8 (m_X8_isTaken x0 0 t26 r13.2)).bind fun r40 =>
  if r40.1 = 0 then
    (bb_rcv r40.2 x0 8 (m_X8_isTaken x0 1 t26 r40.2)).bind fun r49 =>
    if r49.1 = 0 then
      (bb_rcv r49.2 x0 8 (m_X8_isTaken x0 2 t26 r49.2)).bind fun r58 =>
      if r58.1 = 0 then
        (bb_gR r58.2 x0 8 0).bind fun t68 =>
        (bb_sV r58.2 t68 .int (16 + t26) (.int x1)).bind fun g76 =>
        (bb_gR g76 x0 8 0).bind fun t78 =>
        (bb_sV g76 t78 .int (4 + t26) (.int x2)).bind fun g85 =>
        m_X8_man_89 1000 x0 t26 0 g85
      else
      m_X8_man_64 r58.2
    else
    m_X8_man_64 r49.2
  else
  m_X8_man_64 r40.2
/-- BattleBenchModel.stood(III)I -/
def m_X8_stood_27 (h : bb_H) : Option (Int32 × bb_H) :=
  some ((-1), h)
def m_X8_stood (x0 : Nat) (x1 : Int32) (x2 : Int32) (x3 : Int32) (h : bb_H) : Option (Int32 × bb_H) :=
  (bb_rcv h x0 8 (m_X8_isMan x0 x1 h)).bind fun r2 =>
  if r2.1 = 0 then
    m_X8_stood_27 r2.2
  else
  (m_X8_in x2 0 2 r2.2).bind fun r11 =>
  if r11.1 = 0 then
    m_X8_stood_27 r11.2
  else
  (m_X8_in x3 0 9 r11.2).bind fun r21 =>
  if r21.1 = 0 then
    m_X8_stood_27 r21.2
  else
  (bb_rcv r21.2 x0 8 (m_X8_isTaken x0 x2 x3 r21.2)).bind fun r32 =>
  if r32.1 = 0 then
    (bb_gR r32.2 x0 8 0).bind fun t42 =>
    (bb_aI r32.2 t42 .int ((22 + (3 * x1)) + x2)).bind fun t53 =>
    (bb_gR r32.2 x0 8 0).bind fun t57 =>
    (bb_sV r32.2 t57 .int ((22 + (3 * x1)) + x2) (.int x3)).bind fun g69 =>
    some (t53, g69)
  else
  some ((-2), r32.2)
/-- BattleBenchModel.stoodBy(II)Z -/
def m_X8_stoodBy_115 (k5 : Nat → Int32 → Int32 → Int32 → Int32 → bb_H → Option (Int32 × bb_H)) (k49 : Nat → Int32 → Int32 → Int32 → Int32 → Int32 → Int32 → Int32 → Int32 → bb_H → Option (Int32 × bb_H)) (x0 : Nat) (x1 : Int32) (x2 : Int32) (x3 : Int32) (x4 : Int32) (x5 : Int32) (x6 : Int32) (x8 : Int32) (z0 : Int32) (h : bb_H) : Option (Int32 × bb_H) :=
  k49 x0 x1 x2 x3 x4 x5 x6 z0 (x8 + 1) h
def m_X8_stoodBy_110 (k5 : Nat → Int32 → Int32 → Int32 → Int32 → bb_H → Option (Int32 × bb_H)) (k49 : Nat → Int32 → Int32 → Int32 → Int32 → Int32 → Int32 → Int32 → Int32 → bb_H → Option (Int32 × bb_H)) (x0 : Nat) (x1 : Int32) (x2 : Int32) (x3 : Int32) (x4 : Int32) (x5 : Int32) (x6 : Int32) (x8 : Int32) (h : bb_H) : Option (Int32 × bb_H) :=
  m_X8_stoodBy_115 k5 k49 x0 x1 x2 x3 x4 x5 x6 x8 1 h
def m_X8_stoodBy_114 (k5 : Nat → Int32 → Int32 → Int32 → Int32 → bb_H → Option (Int32 × bb_H)) (k49 : Nat → Int32 → Int32 → Int32 → Int32 → Int32 → Int32 → Int32 → Int32 → bb_H → Option (Int32 × bb_H)) (x0 : Nat) (x1 : Int32) (x2 : Int32) (x3 : Int32) (x4 : Int32) (x5 : Int32) (x6 : Int32) (x8 : Int32) (h : bb_H) : Option (Int32 × bb_H) :=
  m_X8_stoodBy_115 k5 k49 x0 x1 x2 x3 x4 x5 x6 x8 0 h
def m_X8_stoodBy_96 (k5 : Nat → Int32 → Int32 → Int32 → Int32 → bb_H → Option (Int32 × bb_H)) (k49 : Nat → Int32 → Int32 → Int32 → Int32 → Int32 → Int32 → Int32 → Int32 → bb_H → Option (Int32 × bb_H)) (x0 : Nat) (x1 : Int32) (x2 : Int32) (x3 : Int32) (x4 : Int32) (x5 : Int32) (x6 : Int32) (x8 : Int32) (x9 : Int32) (h : bb_H) : Option (Int32 × bb_H) :=
  if x9 ≤ x6 then
    m_X8_stoodBy_110 k5 k49 x0 x1 x2 x3 x4 x5 x6 x8 h
  else
  if x9 < x5 then
    m_X8_stoodBy_114 k5 k49 x0 x1 x2 x3 x4 x5 x6 x8 h
  else
  m_X8_stoodBy_110 k5 k49 x0 x1 x2 x3 x4 x5 x6 x8 h
def m_X8_stoodBy_137 (k5 : Nat → Int32 → Int32 → Int32 → Int32 → bb_H → Option (Int32 × bb_H)) (x0 : Nat) (x1 : Int32) (x2 : Int32) (x4 : Int32) (z0 : Int32) (h : bb_H) : Option (Int32 × bb_H) :=
  k5 x0 x1 x2 z0 (x4 + 1) h
def m_X8_stoodBy_132 (k5 : Nat → Int32 → Int32 → Int32 → Int32 → bb_H → Option (Int32 × bb_H)) (x0 : Nat) (x1 : Int32) (x2 : Int32) (x4 : Int32) (h : bb_H) : Option (Int32 × bb_H) :=
  m_X8_stoodBy_137 k5 x0 x1 x2 x4 1 h
def m_X8_stoodBy_49 (k5 : Nat → Int32 → Int32 → Int32 → Int32 → bb_H → Option (Int32 × bb_H)) : Nat → Nat → Int32 → Int32 → Int32 → Int32 → Int32 → Int32 → Int32 → Int32 → bb_H → Option (Int32 × bb_H)
  | 0, _, _, _, _, _, _, _, _, _, _ => none
  | n + 1, x0, x1, x2, x3, x4, x5, x6, x7, x8, h =>
    (bb_gR h x0 8 0).bind fun t52 =>
    (bb_aI h t52 .int 0).bind fun t56 =>
    if t56 ≤ x8 then
      if x3 = 0 then
        if x7 = 0 then
          m_X8_stoodBy_137 k5 x0 x1 x2 x4 0 h
        else
        m_X8_stoodBy_132 k5 x0 x1 x2 x4 h
      else
      m_X8_stoodBy_132 k5 x0 x1 x2 x4 h
    else
    (bb_gR h x0 8 0).bind fun t61 =>
    (bb_aI h t61 .int ((22 + (3 * x8)) + x4)).bind fun t74 =>
    if x7 = 0 then
      m_X8_stoodBy_114 k5 (m_X8_stoodBy_49 k5 n) x0 x1 x2 x3 x4 x5 x6 x8 h
    else
    if t74 ≤ x5 then
      m_X8_stoodBy_96 k5 (m_X8_stoodBy_49 k5 n) x0 x1 x2 x3 x4 x5 x6 x8 t74 h
    else
    if t74 < x6 then
      m_X8_stoodBy_114 k5 (m_X8_stoodBy_49 k5 n) x0 x1 x2 x3 x4 x5 x6 x8 h
    else
    m_X8_stoodBy_96 k5 (m_X8_stoodBy_49 k5 n) x0 x1 x2 x3 x4 x5 x6 x8 t74 h
def m_X8_stoodBy_5 : Nat → Nat → Int32 → Int32 → Int32 → Int32 → bb_H → Option (Int32 × bb_H)
  | 0, _, _, _, _, _, _ => none
  | n + 1, x0, x1, x2, x3, x4, h =>
    if 3 ≤ x4 then
      bb_rz x3 h
    else
    (bb_gR h x0 8 0).bind fun t12 =>
    (bb_aI h t12 .int ((22 + (3 * x1)) + x4)).bind fun t24 =>
    (bb_gR h x0 8 0).bind fun t28 =>
    (bb_aI h t28 .int ((22 + (3 * x2)) + x4)).bind fun t40 =>
    m_X8_stoodBy_49 (m_X8_stoodBy_5 n) 1000 x0 x1 x2 x3 x4 t24 t40 1 0 h
def m_X8_stoodBy (x0 : Nat) (x1 : Int32) (x2 : Int32) (h : bb_H) : Option (Int32 × bb_H) :=
  m_X8_stoodBy_5 1000 x0 x1 x2 0 0 h
/-- BattleBenchModel.allStoodBy(I)I -/
def m_X8_allStoodBy_36 (k4 : Nat → Int32 → Int32 → Int32 → bb_H → Option (Int32 × bb_H)) (x0 : Nat) (x1 : Int32) (x3 : Int32) (z0 : Int32) (z1 : Int32) (h : bb_H) : Option (Int32 × bb_H) :=
  k4 x0 x1 (z0 ||| z1) (x3 + 1) h
def m_X8_allStoodBy_35 (k4 : Nat → Int32 → Int32 → Int32 → bb_H → Option (Int32 × bb_H)) (x0 : Nat) (x1 : Int32) (x3 : Int32) (z0 : Int32) (h : bb_H) : Option (Int32 × bb_H) :=
  m_X8_allStoodBy_36 k4 x0 x1 x3 z0 0 h
def m_X8_allStoodBy_4 : Nat → Nat → Int32 → Int32 → Int32 → bb_H → Option (Int32 × bb_H)
  | 0, _, _, _, _, _ => none
  | n + 1, x0, x1, x2, x3, h =>
    (bb_gR h x0 8 0).bind fun t6 =>
    (bb_aI h t6 .int 0).bind fun t10 =>
    if t10 ≤ x3 then
      some (x2, h)
    else
    if x3 = x1 then
      m_X8_allStoodBy_35 (m_X8_allStoodBy_4 n) x0 x1 x3 x2 h
    else
    (bb_rcv h x0 8 (m_X8_stoodBy x0 x1 x3 h)).bind fun r23 =>
    if r23.1 = 0 then
      m_X8_allStoodBy_35 (m_X8_allStoodBy_4 n) x0 x1 x3 x2 r23.2
    else
    m_X8_allStoodBy_36 (m_X8_allStoodBy_4 n) x0 x1 x3 x2 (1 <<< (x3 &&& 31)) r23.2
def m_X8_allStoodBy (x0 : Nat) (x1 : Int32) (h : bb_H) : Option (Int32 × bb_H) :=
  m_X8_allStoodBy_4 1000 x0 x1 0 0 h
/-- BattleBenchModel.allSitBy(I)I -/
def m_X8_allSitBy_59 (z0 : Int32) (z1 : Int32) (h : bb_H) : Option (Int32 × bb_H) :=
  some (z0 ||| z1, h)
def m_X8_allSitBy_44 (x4 : Int32) (z0 : Int32) (h : bb_H) : Option (Int32 × bb_H) :=
  if x4 = (-4) then
    m_X8_allSitBy_59 z0 0 h
  else
  m_X8_allSitBy_59 z0 (1 <<< (x4 &&& 31)) h
def m_X8_allSitBy (x0 : Nat) (x1 : Int32) (h : bb_H) : Option (Int32 × bb_H) :=
  (bb_rcv h x0 8 (m_X8_seatOf x0 x1 h)).bind fun r2 =>
  if r2.1 = (-4) then
    some (0, r2.2)
  else
  (bb_rcv r2.2 x0 8 (m_X8_onSeat x0 (r2.1 - 1) r2.2)).bind fun r18 =>
  (bb_rcv r18.2 x0 8 (m_X8_onSeat x0 (r2.1 + 1) r18.2)).bind fun r26 =>
  if r18.1 = (-4) then
    m_X8_allSitBy_44 r26.1 0 r26.2
  else
  m_X8_allSitBy_44 r26.1 (1 <<< (r18.1 &&& 31)) r26.2
/-- BattleBenchModel.ones(I)I -/
def m_X8_ones_4 : Nat → Int32 → Int32 → Int32 → bb_H → Option (Int32 × bb_H)
  | 0, _, _, _, _ => none
  | n + 1, x0, x1, x2, h =>
    if 6 ≤ x2 then
      some (x1, h)
    else
    m_X8_ones_4 n x0 (x1 + ((x0 >>> (x2 &&& 31)) &&& 1)) (x2 + 1) h
def m_X8_ones (x0 : Int32) (h : bb_H) : Option (Int32 × bb_H) :=
  m_X8_ones_4 1000 x0 0 0 h
/-- BattleBenchModel.fails(I)I -/
def m_X8_fails_93 (z0 : Int32) (h : bb_H) : Option (Int32 × bb_H) :=
  some (z0, h)
def m_X8_fails_86 (x2 : Int32) (h : bb_H) : Option (Int32 × bb_H) :=
  m_X8_fails_93 (x2 + 1) h
def m_X8_fails_16 (x0 : Nat) (x1 : Int32) (z0 : Int32) (h : bb_H) : Option (Int32 × bb_H) :=
  (bb_rcv h x0 8 (m_X8_seatOf x0 x1 h)).bind fun r19 =>
  (bb_gR r19.2 x0 8 0).bind fun t24 =>
  (bb_aI r19.2 t24 .int (16 + x1)).bind fun t31 =>
  if t31 = 0 then
    some (2, r19.2)
  else
  if t31 = 1 then
    some (z0, r19.2)
  else
  if t31 = 2 then
    some (4, r19.2)
  else
  if t31 = 3 then
    if r19.1 = 0 then
      m_X8_fails_86 z0 r19.2
    else
    (bb_gR r19.2 x0 8 0).bind fun t76 =>
    (bb_aI r19.2 t76 .int 1).bind fun t80 =>
    if r19.1 = (t80 - 1) then
      m_X8_fails_86 z0 r19.2
    else
    m_X8_fails_93 z0 r19.2
  else
  (bb_rcv r19.2 x0 8 (m_X8_allSitBy x0 x1 r19.2)).bind fun r97 =>
  (bb_rcv r97.2 x0 8 (m_X8_allStoodBy x0 x1 r97.2)).bind fun r102 =>
  (m_X8_ones (r97.1 &&& r102.1) r102.2).bind fun r106 =>
  some (4 - r106.1, r106.2)
def m_X8_fails (x0 : Nat) (x1 : Int32) (h : bb_H) : Option (Int32 × bb_H) :=
  (bb_gR h x0 8 0).bind fun t1 =>
  (bb_aI h t1 .int 2).bind fun t5 =>
  if (t5 - t5 / 2 * 2) = 0 then
    m_X8_fails_16 x0 x1 2 h
  else
  m_X8_fails_16 x0 x1 0 h
/-- BattleBenchModel.passes()V -/
def m_X8_passes_37 (k2 : Nat → Int32 → bb_H → Option bb_H) (x0 : Nat) (x1 : Int32) (z0 : Nat) (z1 : Int32) (z2 : Int32) (h : bb_H) : Option bb_H :=
  (bb_sV h z0 .int z1 (.int z2)).bind fun g37 =>
  k2 x0 (x1 + 1) g37
def m_X8_passes_99 (k46 : Nat → Int32 → bb_H → Option bb_H) (x0 : Nat) (x1 : Int32) (z0 : Nat) (z1 : Int32) (z2 : Int32) (h : bb_H) : Option bb_H :=
  (bb_sV h z0 .int z1 (.int z2)).bind fun g99 =>
  k46 x0 (x1 + 1) g99
def m_X8_passes_157 (k110 : Nat → Int32 → Int32 → bb_H → Option bb_H) (x0 : Nat) (x2 : Int32) (z0 : Int32) (z1 : Int32) (h : bb_H) : Option bb_H :=
  k110 x0 (z0 + z1) (x2 + 1) h
def m_X8_passes_110 : Nat → Nat → Int32 → Int32 → bb_H → Option bb_H
  | 0, _, _, _, _ => none
  | n + 1, x0, x1, x2, h =>
    (bb_gR h x0 8 0).bind fun t112 =>
    (bb_aI h t112 .int 1).bind fun t116 =>
    if t116 ≤ x2 then
      (bb_gR h x0 8 0).bind fun t166 =>
      (bb_sV h t166 .int 1 (.int x1)).bind fun g171 =>
      (bb_gR g171 x0 8 0).bind fun t173 =>
      (bb_aI g171 t173 .int 2).bind fun t178 =>
      (bb_sV g171 t173 .int 2 (.int (t178 + 1))).bind fun g181 =>
      some g181
    else
    (bb_gR h x0 8 0).bind fun t121 =>
    (bb_aI h t121 .int (10 + x2)).bind fun t128 =>
    (bb_gR h x0 8 0).bind fun t131 =>
    (bb_sV h t131 .int (10 + x1) (.int t128)).bind fun g139 =>
    (bb_gR g139 x0 8 0).bind fun t142 =>
    (bb_aI g139 t142 .int (4 + t128)).bind fun t148 =>
    if t148 ≤ 0 then
      m_X8_passes_157 (m_X8_passes_110 n) x0 x2 x1 0 g139
    else
    m_X8_passes_157 (m_X8_passes_110 n) x0 x2 x1 1 g139
def m_X8_passes_46 : Nat → Nat → Int32 → bb_H → Option bb_H
  | 0, _, _, _ => none
  | n + 1, x0, x1, h =>
    (bb_gR h x0 8 0).bind fun t48 =>
    (bb_aI h t48 .int 0).bind fun t52 =>
    if t52 ≤ x1 then
      m_X8_passes_110 1000 x0 0 0 h
    else
    (bb_gR h x0 8 0).bind fun t57 =>
    (bb_gR h x0 8 0).bind fun t64 =>
    (bb_aI h t64 .int (4 + x1)).bind fun t70 =>
    (bb_gR h x0 8 11).bind fun t72 =>
    (bb_aI h t72 .int x1).bind fun t76 =>
    if t70 ≤ t76 then
      m_X8_passes_99 (m_X8_passes_46 n) x0 x1 t57 (4 + x1) 0 h
    else
    (bb_gR h x0 8 0).bind fun t81 =>
    (bb_aI h t81 .int (4 + x1)).bind fun t87 =>
    (bb_gR h x0 8 11).bind fun t89 =>
    (bb_aI h t89 .int x1).bind fun t93 =>
    m_X8_passes_99 (m_X8_passes_46 n) x0 x1 t57 (4 + x1) (t87 - t93) h
def m_X8_passes_2 : Nat → Nat → Int32 → bb_H → Option bb_H
  | 0, _, _, _ => none
  | n + 1, x0, x1, h =>
    (bb_gR h x0 8 0).bind fun t4 =>
    (bb_aI h t4 .int 0).bind fun t8 =>
    if t8 ≤ x1 then
      m_X8_passes_46 1000 x0 0 h
    else
    (bb_gR h x0 8 11).bind fun t13 =>
    (bb_rcv h x0 8 (m_X8_bench x0 h)).bind fun r18 =>
    (m_X8_has r18.1 x1 r18.2).bind fun r22 =>
    if r22.1 = 0 then
      m_X8_passes_37 (m_X8_passes_2 n) x0 x1 t13 x1 0 r22.2
    else
    (bb_rcv r22.2 x0 8 (m_X8_fails x0 x1 r22.2)).bind fun r30 =>
    m_X8_passes_37 (m_X8_passes_2 n) x0 x1 t13 x1 r30.1 r30.2
def m_X8_passes (x0 : Nat) (h : bb_H) : Option bb_H :=
  m_X8_passes_2 1000 x0 0 h
/-- BattleBenchModel.of(II)I -/
def m_X8_of_18 (h : bb_H) : Option (Int32 × bb_H) :=
  some ((-1), h)
def m_X8_of_128 (z0 : Int32) (h : bb_H) : Option (Int32 × bb_H) :=
  some (z0, h)
def m_X8_of_129 (x0 : Nat) (x1 : Int32) (x2 : Int32) (h : bb_H) : Option (Int32 × bb_H) :=
  (bb_gR h x0 8 0).bind fun t130 =>
  (bb_aI h t130 .int (((22 + (3 * x1)) + x2) - 3)).bind fun t143 =>
  some (t143, h)
def m_X8_of (x0 : Nat) (x1 : Int32) (x2 : Int32) (h : bb_H) : Option (Int32 × bb_H) :=
  (bb_rcv h x0 8 (m_X8_isMan x0 x1 h)).bind fun r2 =>
  if r2.1 = 0 then
    m_X8_of_18 r2.2
  else
  (m_X8_in x2 0 8 r2.2).bind fun r12 =>
  if r12.1 = 0 then
    m_X8_of_18 r12.2
  else
  if x2 = 0 then
    (bb_gR r12.2 x0 8 0).bind fun t73 =>
    (bb_aI r12.2 t73 .int (16 + x1)).bind fun t80 =>
    some (t80, r12.2)
  else
  if x2 = 1 then
    (bb_gR r12.2 x0 8 0).bind fun t83 =>
    (bb_aI r12.2 t83 .int (4 + x1)).bind fun t89 =>
    some (t89, r12.2)
  else
  if x2 = 2 then
    (bb_rcv r12.2 x0 8 (m_X8_seatOf x0 x1 r12.2)).bind fun r93 =>
    some (r93.1, r93.2)
  else
  if x2 = 3 then
    m_X8_of_129 x0 x1 x2 r12.2
  else
  if x2 = 4 then
    m_X8_of_129 x0 x1 x2 r12.2
  else
  if x2 = 5 then
    m_X8_of_129 x0 x1 x2 r12.2
  else
  if x2 = 6 then
    (bb_rcv r12.2 x0 8 (m_X8_allStoodBy x0 x1 r12.2)).bind fun r99 =>
    some (r99.1, r99.2)
  else
  if x2 = 7 then
    (bb_rcv r12.2 x0 8 (m_X8_allSitBy x0 x1 r12.2)).bind fun r105 =>
    some (r105.1, r105.2)
  else
  if x2 = 8 then
    (bb_rcv r12.2 x0 8 (m_X8_seatOf x0 x1 r12.2)).bind fun r111 =>
    if r111.1 = (-4) then
      m_X8_of_128 0 r111.2
    else
    (bb_rcv r111.2 x0 8 (m_X8_fails x0 x1 r111.2)).bind fun r125 =>
    m_X8_of_128 r125.1 r125.2
  else
  m_X8_of_129 x0 x1 x2 r12.2
/-- BattleBenchModel.seat(I)I -/
def m_X8_seat_13 (z0 : Int32) (h : bb_H) : Option (Int32 × bb_H) :=
  some (z0, h)
def m_X8_seat (x0 : Nat) (x1 : Int32) (h : bb_H) : Option (Int32 × bb_H) :=
  if 0 ≤ x1 then
    (bb_rcv h x0 8 (m_X8_onSeat x0 x1 h)).bind fun r10 =>
    m_X8_seat_13 r10.1 r10.2
  else
  m_X8_seat_13 (-1) h
/-- BattleBenchModel.type(I)I -/
def m_X8_type (x0 : Nat) (x1 : Int32) (h : bb_H) : Option (Int32 × bb_H) :=
  (m_X8_in x1 32 126 h).bind fun r5 =>
  if r5.1 = 0 then
    some ((-1), r5.2)
  else
  (bb_gI r5.2 x0 8 4).bind fun t14 =>
  if t14 = 70 then
    some ((-3), r5.2)
  else
  (bb_gR r5.2 x0 8 3).bind fun t26 =>
  (bb_gI r5.2 x0 8 4).bind fun t30 =>
  (bb_sV r5.2 t26 .int t30 (.int x1)).bind fun g34 =>
  (bb_gI g34 x0 8 4).bind fun t37 =>
  (bb_pI g34 x0 8 4 (t37 + 1)).bind fun g42 =>
  (bb_gI g42 x0 8 4).bind fun t46 =>
  some (t46, g42)
/-- BattleBenchModel.letterAt(I)I -/
def m_X8_letterAt_18 (z0 : Int32) (h : bb_H) : Option (Int32 × bb_H) :=
  some (z0, h)
def m_X8_letterAt (x0 : Nat) (x1 : Int32) (h : bb_H) : Option (Int32 × bb_H) :=
  (bb_gI h x0 8 4).bind fun t2 =>
  if t2 ≤ x1 then
    m_X8_letterAt_18 (-1) h
  else
  (bb_gR h x0 8 3).bind fun t9 =>
  (bb_aI h t9 .int x1).bind fun t13 =>
  m_X8_letterAt_18 t13 h
/-- BattleBenchModel.isDigit(I)Z -/
def m_X8_isDigit (x0 : Int32) (h : bb_H) : Option (Int32 × bb_H) :=
  (m_X8_in x0 48 57 h).bind fun r5 =>
  bb_rz r5.1 r5.2
/-- BattleBenchModel.skips()I -/
def m_X8_skips_0 : Nat → Nat → bb_H → Option (Int32 × bb_H)
  | 0, _, _ => none
  | n + 1, x0, h =>
    (bb_gI h x0 8 6).bind fun t2 =>
    (bb_rcv h x0 8 (m_X8_letterAt x0 t2 h)).bind fun r5 =>
    if r5.1 = 32 then
      (bb_gI r5.2 x0 8 6).bind fun t15 =>
      (bb_pI r5.2 x0 8 6 (t15 + 1)).bind fun g20 =>
      m_X8_skips_0 n x0 g20
    else
    (bb_gI r5.2 x0 8 6).bind fun t28 =>
    (bb_rcv r5.2 x0 8 (m_X8_letterAt x0 t28 r5.2)).bind fun r31 =>
    some (r31.1, r31.2)
def m_X8_skips (x0 : Nat) (h : bb_H) : Option (Int32 × bb_H) := m_X8_skips_0 1000 x0 h
/-- BattleBenchModel.kindBy(I)I -/
def m_X8_kindBy_52 (z0 : Int32) (h : bb_H) : Option (Int32 × bb_H) :=
  some (z0, h)
def m_X8_kindBy (x0 : Int32) (h : bb_H) : Option (Int32 × bb_H) :=
  if x0 = 112 then
    m_X8_kindBy_52 0 h
  else
  if x0 = 104 then
    m_X8_kindBy_52 1 h
  else
  if x0 = 117 then
    m_X8_kindBy_52 2 h
  else
  if x0 = 100 then
    m_X8_kindBy_52 3 h
  else
  if x0 = 114 then
    m_X8_kindBy_52 4 h
  else
  m_X8_kindBy_52 (-4) h
/-- BattleBenchModel.isTold(III)Z -/
def m_X8_isTold_40 (k6 : Nat → Int32 → Int32 → Int32 → Int32 → Int32 → bb_H → Option (Int32 × bb_H)) (x0 : Nat) (x1 : Int32) (x2 : Int32) (x3 : Int32) (x5 : Int32) (z0 : Int32) (h : bb_H) : Option (Int32 × bb_H) :=
  k6 x0 x1 x2 x3 z0 (x5 + 1) h
def m_X8_isTold_35 (k6 : Nat → Int32 → Int32 → Int32 → Int32 → Int32 → bb_H → Option (Int32 × bb_H)) (x0 : Nat) (x1 : Int32) (x2 : Int32) (x3 : Int32) (x5 : Int32) (h : bb_H) : Option (Int32 × bb_H) :=
  m_X8_isTold_40 k6 x0 x1 x2 x3 x5 1 h
def m_X8_isTold_6 : Nat → Nat → Int32 → Int32 → Int32 → Int32 → Int32 → bb_H → Option (Int32 × bb_H)
  | 0, _, _, _, _, _, _, _ => none
  | n + 1, x0, x1, x2, x3, x4, x5, h =>
    if x1 ≤ x5 then
      bb_rz x4 h
    else
    if x4 = 0 then
      (bb_gR h x0 8 5).bind fun t18 =>
      (bb_aI h t18 .int ((22 + (3 * x5)) + x2)).bind fun t30 =>
      if t30 = x3 then
        m_X8_isTold_35 (m_X8_isTold_6 n) x0 x1 x2 x3 x5 h
      else
      m_X8_isTold_40 (m_X8_isTold_6 n) x0 x1 x2 x3 x5 0 h
    else
    m_X8_isTold_35 (m_X8_isTold_6 n) x0 x1 x2 x3 x5 h
def m_X8_isTold (x0 : Nat) (x1 : Int32) (x2 : Int32) (x3 : Int32) (h : bb_H) : Option (Int32 × bb_H) :=
  m_X8_isTold_6 1000 x0 x1 x2 x3 0 0 h
/-- BattleBenchModel.readsMan(I)Z -/
def m_X8_readsMan_178 : Nat → Nat → Int32 → Int32 → Int32 → bb_H → Option (Int32 × bb_H)
  | 0, _, _, _, _, _ => none
  | n + 1, x0, x1, x3, x6, h =>
    if 3 ≤ x6 then
      some (1, h)
    else
    (bb_rcv h x0 8 (m_X8_isTold x0 x1 x6 x1 h)).bind fun r189 =>
    if r189.1 = 0 then
      (bb_gR r189.2 x0 8 5).bind fun t203 =>
      (bb_sV r189.2 t203 .int ((22 + (3 * x1)) + x6) (.int x1)).bind fun g216 =>
      m_X8_readsMan_178 n x0 x1 x3 (x6 + 1) g216
    else
    (bb_pI r189.2 x0 8 6 x3).bind fun g197 =>
    some (0, g197)
def m_X8_readsMan_273 (h : bb_H) : Option (Int32 × bb_H) :=
  some (0, h)
def m_X8_readsMan_238 : Nat → Nat → Int32 → Int32 → bb_H → Option (Int32 × bb_H)
  | 0, _, _, _, _ => none
  | n + 1, x0, x1, x6, h =>
    if 3 ≤ x6 then
      some (1, h)
    else
    (bb_rcv h x0 8 (m_X8_skips x0 h)).bind fun r245 =>
    (m_X8_isDigit r245.1 r245.2).bind fun r252 =>
    if r252.1 = 0 then
      m_X8_readsMan_273 r252.2
    else
    (bb_rcv r252.2 x0 8 (m_X8_isTold x0 x1 x6 (r245.1 - 48) r252.2)).bind fun r267 =>
    if r267.1 = 0 then
      (bb_gR r267.2 x0 8 5).bind fun t276 =>
      (bb_sV r267.2 t276 .int ((22 + (3 * x1)) + x6) (.int (r245.1 - 48))).bind fun g293 =>
      (bb_gI g293 x0 8 6).bind fun t296 =>
      (bb_pI g293 x0 8 6 (t296 + 1)).bind fun g301 =>
      m_X8_readsMan_238 n x0 x1 (x6 + 1) g301
    else
    m_X8_readsMan_273 r267.2
def m_X8_readsMan_117 (x0 : Nat) (x1 : Int32) (x2 : Int32) (x3 : Int32) (x4 : Int32) (x5 : Int32) (h : bb_H) : Option (Int32 × bb_H) :=
  (m_X8_in x5 1 60 h).bind fun r122 =>
  if r122.1 = 0 then
    (bb_pI r122.2 x0 8 6 x4).bind fun g131 =>
    some (0, g131)
  else
  (bb_gR r122.2 x0 8 5).bind fun t137 =>
  (bb_sV r122.2 t137 .int (16 + x1) (.int x2)).bind fun g145 =>
  (bb_gR g145 x0 8 5).bind fun t147 =>
  (bb_sV g145 t147 .int (4 + x1) (.int x5)).bind fun g155 =>
  (bb_gR g155 x0 8 5).bind fun t157 =>
  (bb_sV g155 t157 .int (10 + x1) (.int x1)).bind fun g165 =>
  (bb_rcv g165 x0 8 (m_X8_skips x0 g165)).bind fun r167 =>
  if r167.1 = 46 then
    (bb_gI r167.2 x0 8 6).bind fun t227 =>
    (bb_pI r167.2 x0 8 6 (t227 + 1)).bind fun g232 =>
    m_X8_readsMan_238 1000 x0 x1 0 g232
  else
  m_X8_readsMan_178 1000 x0 x1 x3 0 r167.2
def m_X8_readsMan (x0 : Nat) (x1 : Int32) (h : bb_H) : Option (Int32 × bb_H) :=
  (bb_rcv h x0 8 (m_X8_skips x0 h)).bind fun r1 =>
  (m_X8_kindBy r1.1 r1.2).bind fun r4 =>
  (bb_gI r4.2 x0 8 6).bind fun t9 =>
  if r4.1 = (-4) then
    some (0, r4.2)
  else
  (bb_gI r4.2 x0 8 6).bind fun t23 =>
  (bb_pI r4.2 x0 8 6 (t23 + 1)).bind fun g28 =>
  (bb_rcv g28 x0 8 (m_X8_skips x0 g28)).bind fun r32 =>
  (m_X8_isDigit r32.1 r32.2).bind fun r35 =>
  if r35.1 = 0 then
    some (0, r35.2)
  else
  (bb_gI r35.2 x0 8 6).bind fun t44 =>
  (bb_gR r35.2 x0 8 3).bind fun t50 =>
  (bb_gI r35.2 x0 8 6).bind fun t54 =>
  (bb_aI r35.2 t50 .int t54).bind fun t57 =>
  (bb_gI r35.2 x0 8 6).bind fun t65 =>
  (bb_pI r35.2 x0 8 6 (t65 + 1)).bind fun g70 =>
  (bb_gI g70 x0 8 6).bind fun t75 =>
  (bb_rcv g70 x0 8 (m_X8_letterAt x0 t75 g70)).bind fun r78 =>
  (m_X8_isDigit r78.1 r78.2).bind fun r81 =>
  if r81.1 = 0 then
    m_X8_readsMan_117 x0 x1 r4.1 t9 t44 (t57 - 48) r81.2
  else
  (bb_gR r81.2 x0 8 3).bind fun t93 =>
  (bb_gI r81.2 x0 8 6).bind fun t97 =>
  (bb_aI r81.2 t93 .int t97).bind fun t100 =>
  (bb_gI r81.2 x0 8 6).bind fun t109 =>
  (bb_pI r81.2 x0 8 6 (t109 + 1)).bind fun g114 =>
  m_X8_readsMan_117 x0 x1 r4.1 t9 t44 (((10 * (t57 - 48)) + t100) - 48) g114
/-- BattleBenchModel.readsAll()I -/
def m_X8_readsAll_49 (h : bb_H) : Option (Int32 × bb_H) :=
  some ((-1), h)
def m_X8_readsAll_7 : Nat → Nat → Int32 → bb_H → Option (Int32 × bb_H)
  | 0, _, _, _ => none
  | n + 1, x0, x1, h =>
    if 6 ≤ x1 then
      some (x1, h)
    else
    (bb_rcv h x0 8 (m_X8_readsMan x0 x1 h)).bind fun r15 =>
    if r15.1 = 0 then
      some ((-1), r15.2)
    else
    (bb_rcv r15.2 x0 8 (m_X8_skips x0 r15.2)).bind fun r27 =>
    if 0 ≤ r27.1 then
      if r27.1 = 44 then
        if (x1 + 1) = 6 then
          m_X8_readsAll_49 r27.2
        else
        (bb_gI r27.2 x0 8 6).bind fun t53 =>
        (bb_pI r27.2 x0 8 6 (t53 + 1)).bind fun g58 =>
        m_X8_readsAll_7 n x0 (x1 + 1) g58
      else
      m_X8_readsAll_49 r27.2
    else
    some (x1 + 1, r27.2)
def m_X8_readsAll (x0 : Nat) (h : bb_H) : Option (Int32 × bb_H) :=
  (bb_pI h x0 8 6 0).bind fun g2 =>
  m_X8_readsAll_7 1000 x0 0 g2
/-- BattleBenchModel.read()I -/
def m_X8_read_52 : Nat → Nat → Int32 → Int32 → Int32 → bb_H → Option (Int32 × bb_H)
  | 0, _, _, _, _, _ => none
  | n + 1, x0, x1, x2, x3, h =>
    if 40 ≤ x3 then
      (bb_gR h x0 8 0).bind fun t77 =>
      (bb_sV h t77 .int 0 (.int x1)).bind fun g82 =>
      (bb_gR g82 x0 8 0).bind fun t84 =>
      (bb_sV g82 t84 .int 1 (.int x1)).bind fun g89 =>
      (bb_gR g89 x0 8 0).bind fun t91 =>
      (bb_sV g89 t91 .int 3 (.int x2)).bind fun g96 =>
      (bb_gR g96 x0 8 0).bind fun t98 =>
      (bb_sV g96 t98 .int 40 (.int 0)).bind fun g104 =>
      some (x1, g104)
    else
    (bb_gR h x0 8 0).bind fun t59 =>
    (bb_gR h x0 8 5).bind fun t64 =>
    (bb_aI h t64 .int x3).bind fun t68 =>
    (bb_sV h t59 .int x3 (.int t68)).bind fun g69 =>
    m_X8_read_52 n x0 x1 x2 (x3 + 1) g69
def m_X8_read_2 : Nat → Nat → Int32 → bb_H → Option (Int32 × bb_H)
  | 0, _, _, _ => none
  | n + 1, x0, x1, h =>
    if 40 ≤ x1 then
      (bb_rcv h x0 8 (m_X8_readsAll x0 h)).bind fun r22 =>
      (bb_pI r22.2 x0 8 4 0).bind fun g28 =>
      if 0 ≤ r22.1 then
        (bb_gR g28 x0 8 0).bind fun t44 =>
        (bb_aI g28 t44 .int 3).bind fun t48 =>
        m_X8_read_52 1000 x0 r22.1 t48 0 g28
      else
      (bb_gI g28 x0 8 6).bind fun t38 =>
      some ((-20) - t38, g28)
    else
    (bb_gR h x0 8 5).bind fun t9 =>
    (bb_sV h t9 .int x1 (.int 0)).bind fun g14 =>
    m_X8_read_2 n x0 (x1 + 1) g14
def m_X8_read (x0 : Nat) (h : bb_H) : Option (Int32 × bb_H) :=
  m_X8_read_2 1000 x0 0 h
/-- BattleBenchModel.lives()I -/
def m_X8_lives_4 : Nat → Nat → Int32 → Int32 → bb_H → Option (Int32 × bb_H)
  | 0, _, _, _, _ => none
  | n + 1, x0, x1, x2, h =>
    (bb_gR h x0 8 0).bind fun t6 =>
    (bb_aI h t6 .int 0).bind fun t10 =>
    if t10 ≤ x2 then
      some (x1, h)
    else
    (bb_gR h x0 8 0).bind fun t16 =>
    (bb_aI h t16 .int (4 + x2)).bind fun t22 =>
    m_X8_lives_4 n x0 (x1 + t22) (x2 + 1) h
def m_X8_lives (x0 : Nat) (h : bb_H) : Option (Int32 × bb_H) :=
  m_X8_lives_4 1000 x0 0 0 h
/-- BattleBenchModel.wrong()I -/
def m_X8_wrong_47 (k4 : Nat → Int32 → Int32 → bb_H → Option (Int32 × bb_H)) (x0 : Nat) (x2 : Int32) (z0 : Int32) (z1 : Int32) (h : bb_H) : Option (Int32 × bb_H) :=
  k4 x0 (z0 + z1) (x2 + 1) h
def m_X8_wrong_4 : Nat → Nat → Int32 → Int32 → bb_H → Option (Int32 × bb_H)
  | 0, _, _, _, _ => none
  | n + 1, x0, x1, x2, h =>
    (bb_gR h x0 8 0).bind fun t6 =>
    (bb_aI h t6 .int 1).bind fun t10 =>
    if t10 ≤ x2 then
      some (x1, h)
    else
    (bb_gR h x0 8 0).bind fun t17 =>
    (bb_aI h t17 .int ((10 + x2) - 1)).bind fun t26 =>
    (bb_gR h x0 8 0).bind fun t28 =>
    (bb_aI h t28 .int (10 + x2)).bind fun t35 =>
    (bb_rcv h x0 8 (m_X8_stoodBy x0 t26 t35 h)).bind fun r36 =>
    if r36.1 = 0 then
      m_X8_wrong_47 (m_X8_wrong_4 n) x0 x2 x1 1 r36.2
    else
    m_X8_wrong_47 (m_X8_wrong_4 n) x0 x2 x1 0 r36.2
def m_X8_wrong (x0 : Nat) (h : bb_H) : Option (Int32 × bb_H) :=
  m_X8_wrong_4 1000 x0 0 1 h
/-- BattleBenchModel.count(I)I -/
def m_X8_count (x0 : Nat) (x1 : Int32) (h : bb_H) : Option (Int32 × bb_H) :=
  if x1 = 0 then
    (bb_gR h x0 8 0).bind fun t45 =>
    (bb_aI h t45 .int 0).bind fun t49 =>
    some (t49, h)
  else
  if x1 = 1 then
    (bb_gR h x0 8 0).bind fun t52 =>
    (bb_aI h t52 .int 1).bind fun t56 =>
    some (t56, h)
  else
  if x1 = 2 then
    (bb_gR h x0 8 0).bind fun t59 =>
    (bb_aI h t59 .int 2).bind fun t63 =>
    some (t63, h)
  else
  if x1 = 3 then
    (bb_rcv h x0 8 (m_X8_bench x0 h)).bind fun r66 =>
    some (r66.1, r66.2)
  else
  if x1 = 4 then
    (bb_rcv h x0 8 (m_X8_lives x0 h)).bind fun r71 =>
    some (r71.1, r71.2)
  else
  if x1 = 5 then
    (bb_rcv h x0 8 (m_X8_wrong x0 h)).bind fun r76 =>
    some (r76.1, r76.2)
  else
  if x1 = 6 then
    (bb_gR h x0 8 0).bind fun t81 =>
    (bb_aI h t81 .int 40).bind fun t86 =>
    some (t86, h)
  else
  some ((-1), h)
/-- BattleBenchModel.keeps()V -/
def m_X8_keeps_56 : Nat → Nat → Int32 → bb_H → Option bb_H
  | 0, _, _, _ => none
  | n + 1, x0, x1, h =>
    if 15 ≤ x1 then
      (bb_gR h x0 8 0).bind fun t97 =>
      (bb_aI h t97 .int 40).bind fun t103 =>
      (bb_sV h t97 .int 40 (.int (t103 + 1))).bind fun g106 =>
      some g106
    else
    (bb_gR h x0 8 0).bind fun t63 =>
    (bb_gR h x0 8 0).bind fun t71 =>
    (bb_aI h t71 .int 40).bind fun t76 =>
    (bb_gR h x0 8 0).bind fun t82 =>
    (bb_aI h t82 .int (1 + x1)).bind fun t88 =>
    (bb_sV h t63 .int ((41 + (15 * t76)) + x1) (.int t88)).bind fun g89 =>
    m_X8_keeps_56 n x0 (x1 + 1) g89
def m_X8_keeps_54 (x0 : Nat) (h : bb_H) : Option bb_H :=
  m_X8_keeps_56 1000 x0 0 h
def m_X8_keeps_15 : Nat → Nat → Int32 → bb_H → Option bb_H
  | 0, _, _, _ => none
  | n + 1, x0, x1, h =>
    if 146 ≤ x1 then
      (bb_gR h x0 8 0).bind fun t44 =>
      (bb_aI h t44 .int 40).bind fun t50 =>
      (bb_sV h t44 .int 40 (.int (t50 - 1))).bind fun g53 =>
      m_X8_keeps_54 x0 g53
    else
    (bb_gR h x0 8 0).bind fun t23 =>
    (bb_gR h x0 8 0).bind fun t28 =>
    (bb_aI h t28 .int (x1 + 15)).bind fun t35 =>
    (bb_sV h t23 .int x1 (.int t35)).bind fun g36 =>
    m_X8_keeps_15 n x0 (x1 + 1) g36
def m_X8_keeps (x0 : Nat) (h : bb_H) : Option bb_H :=
  (bb_gR h x0 8 0).bind fun t1 =>
  (bb_aI h t1 .int 40).bind fun t6 =>
  if t6 = 8 then
    m_X8_keeps_15 1000 x0 41 h
  else
  m_X8_keeps_54 x0 h
/-- BattleBenchModel.years(I)I -/
def m_X8_years_31 : Nat → Nat → Int32 → Int32 → bb_H → Option (Int32 × bb_H)
  | 0, _, _, _, _ => none
  | n + 1, x0, x1, x2, h =>
    if x1 ≤ x2 then
      (bb_rcv h x0 8 (m_X8_bench x0 h)).bind fun r51 =>
      some (r51.1, r51.2)
    else
    (bb_rcv h x0 8 (m_X8_keeps x0 h)).bind fun g37 =>
    (bb_rcv g37 x0 8 (m_X8_passes x0 g37)).bind fun g41 =>
    m_X8_years_31 n x0 x1 (x2 + 1) g41
def m_X8_years (x0 : Nat) (x1 : Int32) (h : bb_H) : Option (Int32 × bb_H) :=
  (m_X8_in x1 1 40 h).bind fun r4 =>
  if r4.1 = 0 then
    some ((-1), r4.2)
  else
  (bb_gR r4.2 x0 8 0).bind fun t13 =>
  (bb_aI r4.2 t13 .int 2).bind fun t17 =>
  if (t17 + x1) ≤ 9999 then
    m_X8_years_31 1000 x0 x1 0 r4.2
  else
  some ((-3), r4.2)
/-- BattleBenchModel.changes(I)V -/
def m_X8_changes (x0 : Nat) (x1 : Int32) (h : bb_H) : Option bb_H :=
  (bb_gR h x0 8 0).bind fun t1 =>
  (bb_aI h t1 .int (10 + x1)).bind fun t8 =>
  (bb_gR h x0 8 0).bind fun t11 =>
  (bb_gR h x0 8 0).bind fun t19 =>
  (bb_aI h t19 .int ((10 + x1) + 1)).bind fun t28 =>
  (bb_sV h t11 .int (10 + x1) (.int t28)).bind fun g29 =>
  (bb_gR g29 x0 8 0).bind fun t31 =>
  (bb_sV g29 t31 .int ((10 + x1) + 1) (.int t8)).bind fun g41 =>
  some g41
/-- BattleBenchModel.move(I)I -/
def m_X8_move (x0 : Nat) (x1 : Int32) (h : bb_H) : Option (Int32 × bb_H) :=
  (bb_gR h x0 8 0).bind fun t3 =>
  (bb_aI h t3 .int 1).bind fun t7 =>
  (m_X8_in x1 0 (t7 - 2) h).bind fun r10 =>
  if r10.1 = 0 then
    some ((-1), r10.2)
  else
  (bb_rcv r10.2 x0 8 (m_X8_keeps x0 r10.2)).bind fun g19 =>
  (bb_rcv g19 x0 8 (m_X8_changes x0 x1 g19)).bind fun g24 =>
  (bb_gR g24 x0 8 0).bind fun t28 =>
  (bb_aI g24 t28 .int (10 + x1)).bind fun t35 =>
  some (t35, g24)
/-- BattleBenchModel.nurse(II)I -/
def m_X8_nurse_18 (h : bb_H) : Option (Int32 × bb_H) :=
  some ((-1), h)
def m_X8_nurse_67 (x0 : Nat) (x1 : Int32) (z0 : Nat) (z1 : Int32) (z2 : Int32) (h : bb_H) : Option (Int32 × bb_H) :=
  (bb_sV h z0 .int z1 (.int z2)).bind fun g67 =>
  (bb_gR g67 x0 8 0).bind fun t69 =>
  (bb_aI g67 t69 .int (4 + x1)).bind fun t75 =>
  some (t75, g67)
def m_X8_nurse (x0 : Nat) (x1 : Int32) (x2 : Int32) (h : bb_H) : Option (Int32 × bb_H) :=
  (bb_rcv h x0 8 (m_X8_isMan x0 x1 h)).bind fun r2 =>
  if r2.1 = 0 then
    m_X8_nurse_18 r2.2
  else
  (m_X8_in x2 1 60 r2.2).bind fun r12 =>
  if r12.1 = 0 then
    m_X8_nurse_18 r12.2
  else
  (bb_rcv r12.2 x0 8 (m_X8_seatOf x0 x1 r12.2)).bind fun r22 =>
  if r22.1 = (-4) then
    some ((-2), r22.2)
  else
  (bb_rcv r22.2 x0 8 (m_X8_keeps x0 r22.2)).bind fun g34 =>
  (bb_gR g34 x0 8 0).bind fun t38 =>
  (bb_aI g34 t38 .int (4 + x1)).bind fun t44 =>
  (bb_gR g34 x0 8 0).bind fun t49 =>
  if (t44 + x2) ≤ 60 then
    m_X8_nurse_67 x0 x1 t49 (4 + x1) (t44 + x2) g34
  else
  m_X8_nurse_67 x0 x1 t49 (4 + x1) 60 g34
/-- BattleBenchModel.drift(I)I -/
def m_X8_drift_94 (k31 : Nat → Int32 → Int32 → bb_H → Option (Int32 × bb_H)) (x0 : Nat) (x1 : Int32) (x2 : Int32) (h : bb_H) : Option (Int32 × bb_H) :=
  (bb_rcv h x0 8 (m_X8_passes x0 h)).bind fun g95 =>
  k31 x0 x1 (x2 + 1) g95
def m_X8_drift_31 : Nat → Nat → Int32 → Int32 → bb_H → Option (Int32 × bb_H)
  | 0, _, _, _, _ => none
  | n + 1, x0, x1, x2, h =>
    if x1 ≤ x2 then
      (bb_rcv h x0 8 (m_X8_bench x0 h)).bind fun r105 =>
      some (r105.1, r105.2)
    else
    (bb_rcv h x0 8 (m_X8_keeps x0 h)).bind fun g37 =>
    (bb_gR g37 x0 8 0).bind fun t41 =>
    (bb_gR g37 x0 8 0).bind fun t46 =>
    (bb_aI g37 t46 .int 3).bind fun t50 =>
    (bb_sV g37 t41 .int 3 (.int (((t50 * 1103515245) + 12345) &&& 2147483647))).bind fun g61 =>
    (bb_gR g61 x0 8 0).bind fun t63 =>
    (bb_aI g61 t63 .int 1).bind fun t67 =>
    if t67 ≤ 1 then
      m_X8_drift_94 (m_X8_drift_31 n) x0 x1 x2 g61
    else
    (bb_gR g61 x0 8 0).bind fun t74 =>
    (bb_aI g61 t74 .int 3).bind fun t78 =>
    (bb_gR g61 x0 8 0).bind fun t83 =>
    (bb_aI g61 t83 .int 1).bind fun t87 =>
    if (t87 - 1) = 0 then none else
    (bb_rcv g61 x0 8 (m_X8_changes x0 ((t78 / 65536) - (t78 / 65536) / (t87 - 1) * (t87 - 1)) g61)).bind fun g91 =>
    m_X8_drift_94 (m_X8_drift_31 n) x0 x1 x2 g91
def m_X8_drift (x0 : Nat) (x1 : Int32) (h : bb_H) : Option (Int32 × bb_H) :=
  (m_X8_in x1 1 40 h).bind fun r4 =>
  if r4.1 = 0 then
    some ((-1), r4.2)
  else
  (bb_gR r4.2 x0 8 0).bind fun t13 =>
  (bb_aI r4.2 t13 .int 2).bind fun t17 =>
  if (t17 + x1) ≤ 9999 then
    m_X8_drift_31 1000 x0 x1 0 r4.2
  else
  some ((-3), r4.2)
/-- BattleBenchModel.undo()I -/
def m_X8_undo_26 : Nat → Nat → Int32 → bb_H → Option (Int32 × bb_H)
  | 0, _, _, _ => none
  | n + 1, x0, x1, h =>
    if 15 ≤ x1 then
      (bb_gR h x0 8 0).bind fun t67 =>
      (bb_aI h t67 .int 40).bind fun t72 =>
      some (t72, h)
    else
    (bb_gR h x0 8 0).bind fun t33 =>
    (bb_gR h x0 8 0).bind fun t40 =>
    (bb_gR h x0 8 0).bind fun t48 =>
    (bb_aI h t48 .int 40).bind fun t53 =>
    (bb_aI h t40 .int ((41 + (15 * t53)) + x1)).bind fun t58 =>
    (bb_sV h t33 .int (1 + x1) (.int t58)).bind fun g59 =>
    m_X8_undo_26 n x0 (x1 + 1) g59
def m_X8_undo (x0 : Nat) (h : bb_H) : Option (Int32 × bb_H) :=
  (bb_gR h x0 8 0).bind fun t1 =>
  (bb_aI h t1 .int 40).bind fun t6 =>
  if t6 = 0 then
    some ((-4), h)
  else
  (bb_gR h x0 8 0).bind fun t14 =>
  (bb_aI h t14 .int 40).bind fun t20 =>
  (bb_sV h t14 .int 40 (.int (t20 - 1))).bind fun g23 =>
  m_X8_undo_26 1000 x0 0 g23
/-- BattleBenchModel.seed(I)I -/
def m_X8_seed (x0 : Nat) (x1 : Int32) (h : bb_H) : Option (Int32 × bb_H) :=
  if 0 ≤ x1 then
    (bb_gR h x0 8 0).bind fun t7 =>
    (bb_aI h t7 .int 3).bind fun t11 =>
    (bb_gR h x0 8 0).bind fun t14 =>
    (bb_sV h t14 .int 3 (.int x1)).bind fun g19 =>
    some (t11, g19)
  else
  some ((-1), h)
/-- BattleBenchModel.holds()V -/
def m_X8_holds_2 : Nat → Nat → Int32 → bb_H → Option bb_H
  | 0, _, _, _ => none
  | n + 1, x0, x1, h =>
    if 40 ≤ x1 then
      some h
    else
    (bb_gR h x0 8 12).bind fun t9 =>
    (bb_gR h x0 8 0).bind fun t14 =>
    (bb_aI h t14 .int x1).bind fun t18 =>
    (bb_sV h t9 .int x1 (.int t18)).bind fun g19 =>
    m_X8_holds_2 n x0 (x1 + 1) g19
def m_X8_holds (x0 : Nat) (h : bb_H) : Option bb_H :=
  m_X8_holds_2 1000 x0 0 h
/-- BattleBenchModel.lets()V -/
def m_X8_lets_2 : Nat → Nat → Int32 → bb_H → Option bb_H
  | 0, _, _, _ => none
  | n + 1, x0, x1, h =>
    if 40 ≤ x1 then
      some h
    else
    (bb_gR h x0 8 0).bind fun t9 =>
    (bb_gR h x0 8 12).bind fun t14 =>
    (bb_aI h t14 .int x1).bind fun t18 =>
    (bb_sV h t9 .int x1 (.int t18)).bind fun g19 =>
    m_X8_lets_2 n x0 (x1 + 1) g19
def m_X8_lets (x0 : Nat) (h : bb_H) : Option bb_H :=
  m_X8_lets_2 1000 x0 0 h
/-- BattleBenchModel.ahead(II)I -/
def m_X8_ahead_18 (h : bb_H) : Option (Int32 × bb_H) :=
  some ((-1), h)
def m_X8_ahead_26 : Nat → Nat → Int32 → Int32 → Int32 → bb_H → Option (Int32 × bb_H)
  | 0, _, _, _, _, _ => none
  | n + 1, x0, x1, x2, x3, h =>
    if x2 ≤ x3 then
      (bb_gR h x0 8 0).bind fun t42 =>
      (bb_aI h t42 .int (4 + x1)).bind fun t48 =>
      (bb_rcv h x0 8 (m_X8_lets x0 h)).bind fun g51 =>
      some (t48, g51)
    else
    (bb_rcv h x0 8 (m_X8_passes x0 h)).bind fun g32 =>
    m_X8_ahead_26 n x0 x1 x2 (x3 + 1) g32
def m_X8_ahead (x0 : Nat) (x1 : Int32) (x2 : Int32) (h : bb_H) : Option (Int32 × bb_H) :=
  (bb_rcv h x0 8 (m_X8_isMan x0 x1 h)).bind fun r2 =>
  if r2.1 = 0 then
    m_X8_ahead_18 r2.2
  else
  (m_X8_in x2 0 60 r2.2).bind fun r12 =>
  if r12.1 = 0 then
    m_X8_ahead_18 r12.2
  else
  (bb_rcv r12.2 x0 8 (m_X8_holds x0 r12.2)).bind fun g21 =>
  m_X8_ahead_26 1000 x0 x1 x2 0 g21
/-- BattleBenchModel.then(I)I -/
def m_X8_then_18 : Nat → Nat → Int32 → Int32 → bb_H → Option (Int32 × bb_H)
  | 0, _, _, _, _ => none
  | n + 1, x0, x1, x2, h =>
    if x1 ≤ x2 then
      (bb_rcv h x0 8 (m_X8_bench x0 h)).bind fun r34 =>
      (bb_rcv r34.2 x0 8 (m_X8_lets x0 r34.2)).bind fun g39 =>
      some (r34.1, g39)
    else
    (bb_rcv h x0 8 (m_X8_passes x0 h)).bind fun g24 =>
    m_X8_then_18 n x0 x1 (x2 + 1) g24
def m_X8_then (x0 : Nat) (x1 : Int32) (h : bb_H) : Option (Int32 × bb_H) :=
  (m_X8_in x1 0 60 h).bind fun r4 =>
  if r4.1 = 0 then
    some ((-1), r4.2)
  else
  (bb_rcv r4.2 x0 8 (m_X8_holds x0 r4.2)).bind fun g13 =>
  m_X8_then_18 1000 x0 x1 0 g13
/-- BattleBenchModel.ends(I)I -/
def m_X8_ends_58 (z0 : Int32) (h : bb_H) : Option (Int32 × bb_H) :=
  some (z0, h)
def m_X8_ends_42 (x0 : Nat) (x2 : Int32) (h : bb_H) : Option (Int32 × bb_H) :=
  (bb_rcv h x0 8 (m_X8_lets x0 h)).bind fun g43 =>
  if x2 ≤ 60 then
    m_X8_ends_58 x2 g43
  else
  m_X8_ends_58 (-4) g43
def m_X8_ends_16 : Nat → Nat → Int32 → Int32 → bb_H → Option (Int32 × bb_H)
  | 0, _, _, _, _ => none
  | n + 1, x0, x1, x2, h =>
    if 60 < x2 then
      m_X8_ends_42 x0 x2 h
    else
    (bb_rcv h x0 8 (m_X8_seatOf x0 x1 h)).bind fun r24 =>
    if r24.1 = (-4) then
      m_X8_ends_42 x0 x2 r24.2
    else
    (bb_rcv r24.2 x0 8 (m_X8_passes x0 r24.2)).bind fun g33 =>
    m_X8_ends_16 n x0 x1 (x2 + 1) g33
def m_X8_ends (x0 : Nat) (x1 : Int32) (h : bb_H) : Option (Int32 × bb_H) :=
  (bb_rcv h x0 8 (m_X8_isMan x0 x1 h)).bind fun r2 =>
  if r2.1 = 0 then
    some ((-1), r2.2)
  else
  (bb_rcv r2.2 x0 8 (m_X8_holds x0 r2.2)).bind fun g11 =>
  m_X8_ends_16 1000 x0 x1 0 g11
/-- BattleBenchModel.lonely()I -/
def m_X8_lonely_48 (z0 : Int32) (h : bb_H) : Option (Int32 × bb_H) :=
  some (z0, h)
def m_X8_lonely_32 (x0 : Nat) (x1 : Int32) (h : bb_H) : Option (Int32 × bb_H) :=
  (bb_rcv h x0 8 (m_X8_lets x0 h)).bind fun g33 =>
  if x1 ≤ 60 then
    m_X8_lonely_48 x1 g33
  else
  m_X8_lonely_48 (-4) g33
def m_X8_lonely_6 : Nat → Nat → Int32 → bb_H → Option (Int32 × bb_H)
  | 0, _, _, _ => none
  | n + 1, x0, x1, h =>
    if 60 < x1 then
      m_X8_lonely_32 x0 x1 h
    else
    (bb_gR h x0 8 0).bind fun t13 =>
    (bb_aI h t13 .int 1).bind fun t17 =>
    if t17 ≤ 1 then
      m_X8_lonely_32 x0 x1 h
    else
    (bb_rcv h x0 8 (m_X8_passes x0 h)).bind fun g23 =>
    m_X8_lonely_6 n x0 (x1 + 1) g23
def m_X8_lonely (x0 : Nat) (h : bb_H) : Option (Int32 × bb_H) :=
  (bb_rcv h x0 8 (m_X8_holds x0 h)).bind fun g1 =>
  m_X8_lonely_6 1000 x0 0 g1
/-- BattleBenchModel.close(II)I -/
def m_X8_close_21 (h : bb_H) : Option (Int32 × bb_H) :=
  some ((-1), h)
def m_X8_close_73 (z0 : Int32) (h : bb_H) : Option (Int32 × bb_H) :=
  some (z0, h)
def m_X8_close_57 (x0 : Nat) (x3 : Int32) (h : bb_H) : Option (Int32 × bb_H) :=
  (bb_rcv h x0 8 (m_X8_lets x0 h)).bind fun g58 =>
  if x3 ≤ 60 then
    m_X8_close_73 x3 g58
  else
  m_X8_close_73 (-4) g58
def m_X8_close_29 : Nat → Nat → Int32 → Int32 → Int32 → bb_H → Option (Int32 × bb_H)
  | 0, _, _, _, _, _ => none
  | n + 1, x0, x1, x2, x3, h =>
    if 60 < x3 then
      m_X8_close_57 x0 x3 h
    else
    (bb_rcv h x0 8 (m_X8_allSitBy x0 x1 h)).bind fun r37 =>
    (m_X8_has r37.1 x2 r37.2).bind fun r41 =>
    if r41.1 = 0 then
      (bb_rcv r41.2 x0 8 (m_X8_passes x0 r41.2)).bind fun g48 =>
      m_X8_close_29 n x0 x1 x2 (x3 + 1) g48
    else
    m_X8_close_57 x0 x3 r41.2
def m_X8_close (x0 : Nat) (x1 : Int32) (x2 : Int32) (h : bb_H) : Option (Int32 × bb_H) :=
  (bb_rcv h x0 8 (m_X8_isMan x0 x1 h)).bind fun r2 =>
  if r2.1 = 0 then
    m_X8_close_21 r2.2
  else
  (bb_rcv r2.2 x0 8 (m_X8_isMan x0 x2 r2.2)).bind fun r10 =>
  if r10.1 = 0 then
    m_X8_close_21 r10.2
  else
  if x1 = x2 then
    m_X8_close_21 r10.2
  else
  (bb_rcv r10.2 x0 8 (m_X8_holds x0 r10.2)).bind fun g24 =>
  m_X8_close_29 1000 x0 x1 x2 0 g24
/-- BattleBenchModel.placeOn(II)I -/
def m_X8_placeOn (x0 : Nat) (x1 : Int32) (x2 : Int32) (h : bb_H) : Option (Int32 × bb_H) :=
  (bb_gR h x0 8 0).bind fun t1 =>
  (bb_gR h x0 8 0).bind fun t8 =>
  (bb_aI h t8 .int (10 + x1)).bind fun t15 =>
  (bb_aI h t1 .int ((22 + (3 * t15)) + x2)).bind fun t20 =>
  some (t20, h)
/-- BattleBenchModel.swaps(I)I -/
def m_X8_swaps_63 (k15 : Nat → Int32 → Int32 → Int32 → bb_H → Option (Int32 × bb_H)) (k30 : Nat → Int32 → Int32 → Int32 → Int32 → bb_H → Option (Int32 × bb_H)) (x0 : Nat) (x1 : Int32) (x3 : Int32) (x4 : Int32) (z0 : Int32) (z1 : Int32) (h : bb_H) : Option (Int32 × bb_H) :=
  k30 x0 x1 (z0 + z1) x3 (x4 + 1) h
def m_X8_swaps_30 (k15 : Nat → Int32 → Int32 → Int32 → bb_H → Option (Int32 × bb_H)) : Nat → Nat → Int32 → Int32 → Int32 → Int32 → bb_H → Option (Int32 × bb_H)
  | 0, _, _, _, _, _, _ => none
  | n + 1, x0, x1, x2, x3, x4, h =>
    (bb_gR h x0 8 0).bind fun t33 =>
    (bb_aI h t33 .int 1).bind fun t37 =>
    if t37 ≤ x4 then
      k15 x0 x1 x2 (x3 + 1) h
    else
    (bb_rcv h x0 8 (m_X8_placeOn x0 x3 x1 h)).bind fun r45 =>
    (bb_rcv r45.2 x0 8 (m_X8_placeOn x0 x4 x1 r45.2)).bind fun r52 =>
    if r45.1 ≤ r52.1 then
      m_X8_swaps_63 k15 (m_X8_swaps_30 k15 n) x0 x1 x3 x4 x2 0 r52.2
    else
    m_X8_swaps_63 k15 (m_X8_swaps_30 k15 n) x0 x1 x3 x4 x2 1 r52.2
def m_X8_swaps_15 : Nat → Nat → Int32 → Int32 → Int32 → bb_H → Option (Int32 × bb_H)
  | 0, _, _, _, _, _ => none
  | n + 1, x0, x1, x2, x3, h =>
    (bb_gR h x0 8 0).bind fun t17 =>
    (bb_aI h t17 .int 1).bind fun t21 =>
    if t21 ≤ x3 then
      some (x2, h)
    else
    m_X8_swaps_30 (m_X8_swaps_15 n) 1000 x0 x1 x2 x3 (x3 + 1) h
def m_X8_swaps (x0 : Nat) (x1 : Int32) (h : bb_H) : Option (Int32 × bb_H) :=
  (m_X8_in x1 0 2 h).bind fun r3 =>
  if r3.1 = 0 then
    some ((-1), r3.2)
  else
  m_X8_swaps_15 1000 x0 x1 0 0 r3.2
/-- BattleBenchModel.isOrder(II)Z -/
def m_X8_isOrder_59 (k8 : Nat → Int32 → Int32 → Int32 → Int32 → Int32 → bb_H → Option (Int32 × bb_H)) (x0 : Nat) (x1 : Int32) (x2 : Int32) (x3 : Int32) (x4 : Int32) (x5 : Int32) (h : bb_H) : Option (Int32 × bb_H) :=
  k8 x0 x1 x2 x3 x4 (x5 + 1) h
def m_X8_isOrder_49 (k8 : Nat → Int32 → Int32 → Int32 → Int32 → Int32 → bb_H → Option (Int32 × bb_H)) (x0 : Nat) (x1 : Int32) (x2 : Int32) (x5 : Int32) (z0 : Int32) (h : bb_H) : Option (Int32 × bb_H) :=
  (bb_rcv h x0 8 (m_X8_placeOn x0 x5 x2 h)).bind fun r54 =>
  m_X8_isOrder_59 k8 x0 x1 x2 z0 r54.1 x5 r54.2
def m_X8_isOrder_48 (k8 : Nat → Int32 → Int32 → Int32 → Int32 → Int32 → bb_H → Option (Int32 × bb_H)) (x0 : Nat) (x1 : Int32) (x2 : Int32) (x5 : Int32) (h : bb_H) : Option (Int32 × bb_H) :=
  m_X8_isOrder_49 k8 x0 x1 x2 x5 0 h
def m_X8_isOrder_8 : Nat → Nat → Int32 → Int32 → Int32 → Int32 → Int32 → bb_H → Option (Int32 × bb_H)
  | 0, _, _, _, _, _, _, _ => none
  | n + 1, x0, x1, x2, x3, x4, x5, h =>
    (bb_gR h x0 8 0).bind fun t11 =>
    (bb_aI h t11 .int 1).bind fun t15 =>
    if t15 ≤ x5 then
      bb_rz x3 h
    else
    (m_X8_has x1 x5 h).bind fun r22 =>
    if r22.1 = 0 then
      m_X8_isOrder_59 (m_X8_isOrder_8 n) x0 x1 x2 x3 x4 x5 r22.2
    else
    if x3 = 0 then
      m_X8_isOrder_48 (m_X8_isOrder_8 n) x0 x1 x2 x5 r22.2
    else
    (bb_rcv r22.2 x0 8 (m_X8_placeOn x0 x5 x2 r22.2)).bind fun r36 =>
    if r36.1 ≤ x4 then
      m_X8_isOrder_48 (m_X8_isOrder_8 n) x0 x1 x2 x5 r36.2
    else
    m_X8_isOrder_49 (m_X8_isOrder_8 n) x0 x1 x2 x5 1 r36.2
def m_X8_isOrder (x0 : Nat) (x1 : Int32) (x2 : Int32) (h : bb_H) : Option (Int32 × bb_H) :=
  m_X8_isOrder_8 1000 x0 x1 x2 1 (-1) 0 h
/-- BattleBenchModel.isAhead(II)Z -/
def m_X8_isAhead_18 (z0 : Int32) (h : bb_H) : Option (Int32 × bb_H) :=
  bb_rz z0 h
def m_X8_isAhead (x0 : Int32) (x1 : Int32) (h : bb_H) : Option (Int32 × bb_H) :=
  if (((x0 ^^^ x1) &&& (-(x0 ^^^ x1))) &&& x0) = 0 then
    m_X8_isAhead_18 0 h
  else
  m_X8_isAhead_18 1 h
/-- BattleBenchModel.stay(II)I -/
def m_X8_stay_18 (h : bb_H) : Option (Int32 × bb_H) :=
  some ((-1), h)
def m_X8_stay_99 (k25 : Nat → Int32 → Int32 → Int32 → Int32 → bb_H → Option (Int32 × bb_H)) (x0 : Nat) (x1 : Int32) (x2 : Int32) (x4 : Int32) (z0 : Int32) (h : bb_H) : Option (Int32 × bb_H) :=
  k25 x0 x1 x2 z0 (x4 + 1) h
def m_X8_stay_98 (k25 : Nat → Int32 → Int32 → Int32 → Int32 → bb_H → Option (Int32 × bb_H)) (x0 : Nat) (x1 : Int32) (x2 : Int32) (x3 : Int32) (x4 : Int32) (h : bb_H) : Option (Int32 × bb_H) :=
  m_X8_stay_99 k25 x0 x1 x2 x4 x3 h
def m_X8_stay_76 (k25 : Nat → Int32 → Int32 → Int32 → Int32 → bb_H → Option (Int32 × bb_H)) (x0 : Nat) (x1 : Int32) (x2 : Int32) (x3 : Int32) (x4 : Int32) (z0 : Int32) (h : bb_H) : Option (Int32 × bb_H) :=
  if z0 = 0 then
    m_X8_stay_98 k25 x0 x1 x2 x3 x4 h
  else
  (bb_rcv h x0 8 (m_X8_isOrder x0 x4 x1 h)).bind fun r87 =>
  if r87.1 = 0 then
    m_X8_stay_98 k25 x0 x1 x2 x3 x4 r87.2
  else
  m_X8_stay_99 k25 x0 x1 x2 x4 x4 r87.2
def m_X8_stay_71 (k25 : Nat → Int32 → Int32 → Int32 → Int32 → bb_H → Option (Int32 × bb_H)) (x0 : Nat) (x1 : Int32) (x2 : Int32) (x3 : Int32) (x4 : Int32) (h : bb_H) : Option (Int32 × bb_H) :=
  m_X8_stay_76 k25 x0 x1 x2 x3 x4 1 h
def m_X8_stay_75 (k25 : Nat → Int32 → Int32 → Int32 → Int32 → bb_H → Option (Int32 × bb_H)) (x0 : Nat) (x1 : Int32) (x2 : Int32) (x3 : Int32) (x4 : Int32) (h : bb_H) : Option (Int32 × bb_H) :=
  m_X8_stay_76 k25 x0 x1 x2 x3 x4 0 h
def m_X8_stay_150 (k112 : Nat → Int32 → Int32 → Int32 → Int32 → bb_H → Option (Int32 × bb_H)) (x0 : Nat) (x2 : Int32) (x3 : Int32) (x5 : Int32) (z0 : Int32) (z1 : Int32) (h : bb_H) : Option (Int32 × bb_H) :=
  k112 x0 x2 x3 (z0 ||| z1) (x5 + 1) h
def m_X8_stay_172 (z0 : Int32) (h : bb_H) : Option (Int32 × bb_H) :=
  some (z0, h)
def m_X8_stay_112 : Nat → Nat → Int32 → Int32 → Int32 → Int32 → bb_H → Option (Int32 × bb_H)
  | 0, _, _, _, _, _, _ => none
  | n + 1, x0, x2, x3, x4, x5, h =>
    (bb_gR h x0 8 0).bind fun t115 =>
    (bb_aI h t115 .int 1).bind fun t119 =>
    if t119 ≤ x5 then
      if x2 = 0 then
        (m_X8_ones x3 h).bind fun r164 =>
        m_X8_stay_172 r164.1 r164.2
      else
      m_X8_stay_172 x4 h
    else
    (m_X8_has x3 x5 h).bind fun r128 =>
    if r128.1 = 0 then
      m_X8_stay_150 (m_X8_stay_112 n) x0 x2 x3 x5 x4 0 r128.2
    else
    (bb_gR r128.2 x0 8 0).bind fun t136 =>
    (bb_aI r128.2 t136 .int (10 + x5)).bind fun t144 =>
    m_X8_stay_150 (m_X8_stay_112 n) x0 x2 x3 x5 x4 (1 <<< (t144 &&& 31)) r128.2
def m_X8_stay_25 : Nat → Nat → Int32 → Int32 → Int32 → Int32 → bb_H → Option (Int32 × bb_H)
  | 0, _, _, _, _, _, _ => none
  | n + 1, x0, x1, x2, x3, x4, h =>
    (bb_gR h x0 8 0).bind fun t29 =>
    (bb_aI h t29 .int 1).bind fun t33 =>
    if (1 <<< (t33 &&& 31)) ≤ x4 then
      m_X8_stay_112 1000 x0 x2 x3 0 0 h
    else
    (m_X8_ones x4 h).bind fun r40 =>
    (m_X8_ones x3 r40.2).bind fun r44 =>
    if r44.1 < r40.1 then
      m_X8_stay_71 (m_X8_stay_25 n) x0 x1 x2 x3 x4 r44.2
    else
    (m_X8_ones x4 r44.2).bind fun r52 =>
    (m_X8_ones x3 r52.2).bind fun r56 =>
    if r52.1 = r56.1 then
      (m_X8_isAhead x4 x3 r56.2).bind fun r65 =>
      if r65.1 = 0 then
        m_X8_stay_75 (m_X8_stay_25 n) x0 x1 x2 x3 x4 r65.2
      else
      m_X8_stay_71 (m_X8_stay_25 n) x0 x1 x2 x3 x4 r65.2
    else
    m_X8_stay_75 (m_X8_stay_25 n) x0 x1 x2 x3 x4 r56.2
def m_X8_stay (x0 : Nat) (x1 : Int32) (x2 : Int32) (h : bb_H) : Option (Int32 × bb_H) :=
  (m_X8_in x1 0 2 h).bind fun r3 =>
  if r3.1 = 0 then
    m_X8_stay_18 r3.2
  else
  (m_X8_in x2 0 1 r3.2).bind fun r12 =>
  if r12.1 = 0 then
    m_X8_stay_18 r12.2
  else
  m_X8_stay_25 1000 x0 x1 x2 0 1 r12.2
/-- BattleBenchModel.firstOrder()V -/
def m_X8_firstOrder_36 (k9 : Nat → Int32 → Int32 → Int32 → bb_H → Option bb_H) (x0 : Nat) (x1 : Int32) (x2 : Int32) (x3 : Int32) (h : bb_H) : Option bb_H :=
  k9 x0 x1 x2 (x3 + 1) h
def m_X8_firstOrder_9 : Nat → Nat → Int32 → Int32 → Int32 → bb_H → Option bb_H
  | 0, _, _, _, _, _ => none
  | n + 1, x0, x1, x2, x3, h =>
    if 6 ≤ x3 then
      some h
    else
    (m_X8_has x1 x3 h).bind fun r17 =>
    if r17.1 = 0 then
      m_X8_firstOrder_36 (m_X8_firstOrder_9 n) x0 x1 x2 x3 r17.2
    else
    (bb_gR r17.2 x0 8 0).bind fun t24 =>
    (bb_sV r17.2 t24 .int (10 + x2) (.int x3)).bind fun g32 =>
    m_X8_firstOrder_36 (m_X8_firstOrder_9 n) x0 x1 (x2 + 1) x3 g32
def m_X8_firstOrder (x0 : Nat) (h : bb_H) : Option bb_H :=
  (bb_rcv h x0 8 (m_X8_bench x0 h)).bind fun r1 =>
  m_X8_firstOrder_9 1000 x0 r1.1 0 0 r1.2
/-- BattleBenchModel.nextOrder()Z -/
def m_X8_nextOrder_137 : Nat → Nat → Int32 → Int32 → bb_H → Option (Int32 × bb_H)
  | 0, _, _, _, _ => none
  | n + 1, x0, x4, x5, h =>
    if x5 ≤ x4 then
      some (1, h)
    else
    (bb_gR h x0 8 0).bind fun t145 =>
    (bb_aI h t145 .int (10 + x4)).bind fun t153 =>
    (bb_gR h x0 8 0).bind fun t156 =>
    (bb_gR h x0 8 0).bind fun t165 =>
    (bb_aI h t165 .int (10 + x5)).bind fun t173 =>
    (bb_sV h t156 .int (10 + x4) (.int t173)).bind fun g174 =>
    (bb_gR g174 x0 8 0).bind fun t176 =>
    (bb_sV g174 t176 .int (10 + x5) (.int t153)).bind fun g185 =>
    m_X8_nextOrder_137 n x0 (x4 + 1) (x5 + (-1)) g185
def m_X8_nextOrder_57 : Nat → Nat → Int32 → Int32 → bb_H → Option (Int32 × bb_H)
  | 0, _, _, _, _ => none
  | n + 1, x0, x1, x2, h =>
    (bb_gR h x0 8 0).bind fun t58 =>
    (bb_aI h t58 .int (10 + x2)).bind fun t65 =>
    (bb_gR h x0 8 0).bind fun t67 =>
    (bb_aI h t67 .int (10 + x1)).bind fun t74 =>
    if t74 ≤ t65 then
      (bb_gR h x0 8 0).bind fun t85 =>
      (bb_aI h t85 .int (10 + x1)).bind fun t92 =>
      (bb_gR h x0 8 0).bind fun t95 =>
      (bb_gR h x0 8 0).bind fun t103 =>
      (bb_aI h t103 .int (10 + x2)).bind fun t110 =>
      (bb_sV h t95 .int (10 + x1) (.int t110)).bind fun g111 =>
      (bb_gR g111 x0 8 0).bind fun t113 =>
      (bb_sV g111 t113 .int (10 + x2) (.int t92)).bind fun g121 =>
      (bb_gR g121 x0 8 0).bind fun t128 =>
      (bb_aI g121 t128 .int 1).bind fun t132 =>
      m_X8_nextOrder_137 1000 x0 (x1 + 1) (t132 - 1) g121
    else
    m_X8_nextOrder_57 n x0 x1 (x2 + (-1)) h
def m_X8_nextOrder_42 (x0 : Nat) (x1 : Int32) (h : bb_H) : Option (Int32 × bb_H) :=
  if 0 ≤ x1 then
    (bb_gR h x0 8 0).bind fun t49 =>
    (bb_aI h t49 .int 1).bind fun t53 =>
    m_X8_nextOrder_57 1000 x0 x1 (t53 - 1) h
  else
  some (0, h)
def m_X8_nextOrder_9 : Nat → Nat → Int32 → bb_H → Option (Int32 × bb_H)
  | 0, _, _, _ => none
  | n + 1, x0, x1, h =>
    if x1 < 0 then
      m_X8_nextOrder_42 x0 x1 h
    else
    (bb_gR h x0 8 0).bind fun t14 =>
    (bb_aI h t14 .int (10 + x1)).bind fun t21 =>
    (bb_gR h x0 8 0).bind fun t23 =>
    (bb_aI h t23 .int ((10 + x1) + 1)).bind fun t32 =>
    if t21 ≤ t32 then
      m_X8_nextOrder_42 x0 x1 h
    else
    m_X8_nextOrder_9 n x0 (x1 + (-1)) h
def m_X8_nextOrder (x0 : Nat) (h : bb_H) : Option (Int32 × bb_H) :=
  (bb_gR h x0 8 0).bind fun t1 =>
  (bb_aI h t1 .int 1).bind fun t5 =>
  m_X8_nextOrder_9 1000 x0 (t5 - 2) h
/-- BattleBenchModel.ways()I -/
def m_X8_ways_29 (k12 : Nat → Int32 → Int32 → bb_H → Option (Int32 × bb_H)) (x0 : Nat) (z0 : Int32) (z1 : Int32) (h : bb_H) : Option (Int32 × bb_H) :=
  (bb_rcv h x0 8 (m_X8_nextOrder x0 h)).bind fun r32 =>
  k12 x0 (z0 + z1) r32.1 r32.2
def m_X8_ways_12 : Nat → Nat → Int32 → Int32 → bb_H → Option (Int32 × bb_H)
  | 0, _, _, _, _ => none
  | n + 1, x0, x1, x2, h =>
    if x2 = 0 then
      (bb_rcv h x0 8 (m_X8_lets x0 h)).bind fun g40 =>
      some (x1, g40)
    else
    (bb_rcv h x0 8 (m_X8_wrong x0 h)).bind fun r18 =>
    if r18.1 = 0 then
      m_X8_ways_29 (m_X8_ways_12 n) x0 x1 1 r18.2
    else
    m_X8_ways_29 (m_X8_ways_12 n) x0 x1 0 r18.2
def m_X8_ways (x0 : Nat) (h : bb_H) : Option (Int32 × bb_H) :=
  (bb_rcv h x0 8 (m_X8_holds x0 h)).bind fun g1 =>
  (bb_rcv g1 x0 8 (m_X8_firstOrder x0 g1)).bind fun g5 =>
  m_X8_ways_12 1000 x0 0 1 g5
/-- BattleBenchModel.ease(I)I -/
def m_X8_ease_63 (k24 : Nat → Int32 → Int32 → Int32 → Int32 → bb_H → Option (Int32 × bb_H)) (x0 : Nat) (x1 : Int32) (x3 : Int32) (z0 : Int32) (h : bb_H) : Option (Int32 × bb_H) :=
  (bb_rcv h x0 8 (m_X8_nextOrder x0 h)).bind fun r65 =>
  k24 x0 x1 z0 x3 r65.1 r65.2
def m_X8_ease_50 (k24 : Nat → Int32 → Int32 → Int32 → Int32 → bb_H → Option (Int32 × bb_H)) (x0 : Nat) (x1 : Int32) (x2 : Int32) (x5 : Int32) (z0 : Int32) (h : bb_H) : Option (Int32 × bb_H) :=
  if x2 ≤ x5 then
    m_X8_ease_63 k24 x0 x1 z0 x2 h
  else
  m_X8_ease_63 k24 x0 x1 z0 x5 h
def m_X8_ease_87 (z0 : Int32) (h : bb_H) : Option (Int32 × bb_H) :=
  some (z0, h)
def m_X8_ease_24 : Nat → Nat → Int32 → Int32 → Int32 → Int32 → bb_H → Option (Int32 × bb_H)
  | 0, _, _, _, _, _, _ => none
  | n + 1, x0, x1, x2, x3, x4, h =>
    if x4 = 0 then
      (bb_rcv h x0 8 (m_X8_lets x0 h)).bind fun g74 =>
      if x1 = (-1) then
        m_X8_ease_87 x2 g74
      else
      m_X8_ease_87 x3 g74
    else
    (bb_rcv h x0 8 (m_X8_wrong x0 h)).bind fun r30 =>
    if x2 ≤ r30.1 then
      m_X8_ease_50 (m_X8_ease_24 n) x0 x1 x2 r30.1 x3 r30.2
    else
    (bb_rcv r30.2 x0 8 (m_X8_onSeat x0 x1 r30.2)).bind fun r43 =>
    m_X8_ease_50 (m_X8_ease_24 n) x0 x1 x2 r30.1 r43.1 r43.2
def m_X8_ease (x0 : Nat) (x1 : Int32) (h : bb_H) : Option (Int32 × bb_H) :=
  if (-1) ≤ x1 then
    (bb_rcv h x0 8 (m_X8_holds x0 h)).bind fun g8 =>
    (bb_rcv g8 x0 8 (m_X8_firstOrder x0 g8)).bind fun g12 =>
    m_X8_ease_24 1000 x0 x1 99 (-4) 1 g12
  else
  some ((-1), h)
/-- BattleBenchModel.left(II)I -/
def m_X8_left_16 (h : bb_H) : Option (Int32 × bb_H) :=
  some ((-1), h)
def m_X8_left_148 (k38 : Nat → Int32 → Int32 → Int32 → Int32 → Int32 → Int32 → bb_H → Option (Int32 × bb_H)) : Nat → Nat → Int32 → Int32 → Int32 → Int32 → Int32 → Int32 → bb_H → Option (Int32 × bb_H)
  | 0, _, _, _, _, _, _, _, _ => none
  | n + 1, x0, x1, x2, x3, x4, x5, x8, h =>
    if 40 ≤ x8 then
      (bb_rcv h x0 8 (m_X8_nextOrder x0 h)).bind fun r176 =>
      k38 x0 x1 x2 x3 x4 x5 r176.1 r176.2
    else
    (bb_gR h x0 8 0).bind fun t156 =>
    (bb_gR h x0 8 13).bind fun t162 =>
    (bb_aI h t162 .int x8).bind fun t167 =>
    (bb_sV h t156 .int x8 (.int t167)).bind fun g168 =>
    m_X8_left_148 k38 n x0 x1 x2 x3 x4 x5 (x8 + 1) g168
def m_X8_left_145 (k38 : Nat → Int32 → Int32 → Int32 → Int32 → Int32 → Int32 → bb_H → Option (Int32 × bb_H)) (x0 : Nat) (x1 : Int32) (x2 : Int32) (x3 : Int32) (x4 : Int32) (x5 : Int32) (h : bb_H) : Option (Int32 × bb_H) :=
  m_X8_left_148 k38 1000 x0 x1 x2 x3 x4 x5 0 h
def m_X8_left_128 (k38 : Nat → Int32 → Int32 → Int32 → Int32 → Int32 → Int32 → bb_H → Option (Int32 × bb_H)) (x0 : Nat) (x1 : Int32) (x2 : Int32) (x7 : Int32) (h : bb_H) : Option (Int32 × bb_H) :=
  (bb_gR h x0 8 0).bind fun t129 =>
  (bb_aI h t129 .int 1).bind fun t133 =>
  (bb_rcv h x0 8 (m_X8_lives x0 h)).bind fun r136 =>
  m_X8_left_145 k38 x0 x1 x2 t133 r136.1 x7 r136.2
def m_X8_left_83 (k38 : Nat → Int32 → Int32 → Int32 → Int32 → Int32 → Int32 → bb_H → Option (Int32 × bb_H)) : Nat → Nat → Int32 → Int32 → Int32 → Int32 → Int32 → Int32 → Int32 → bb_H → Option (Int32 × bb_H)
  | 0, _, _, _, _, _, _, _, _, _ => none
  | n + 1, x0, x1, x2, x3, x4, x5, x7, x8, h =>
    if x1 ≤ x8 then
      (bb_gR h x0 8 0).bind fun t100 =>
      (bb_aI h t100 .int 1).bind fun t104 =>
      if x3 < t104 then
        m_X8_left_128 k38 x0 x1 x2 x7 h
      else
      (bb_gR h x0 8 0).bind fun t110 =>
      (bb_aI h t110 .int 1).bind fun t114 =>
      if t114 = x3 then
        (bb_rcv h x0 8 (m_X8_lives x0 h)).bind fun r120 =>
        if r120.1 ≤ x4 then
          m_X8_left_145 k38 x0 x1 x2 x3 x4 x5 r120.2
        else
        m_X8_left_128 k38 x0 x1 x2 x7 r120.2
      else
      m_X8_left_145 k38 x0 x1 x2 x3 x4 x5 h
    else
    (bb_rcv h x0 8 (m_X8_passes x0 h)).bind fun g90 =>
    m_X8_left_83 k38 n x0 x1 x2 x3 x4 x5 x7 (x8 + 1) g90
def m_X8_left_46 (k38 : Nat → Int32 → Int32 → Int32 → Int32 → Int32 → Int32 → bb_H → Option (Int32 × bb_H)) : Nat → Nat → Int32 → Int32 → Int32 → Int32 → Int32 → Int32 → bb_H → Option (Int32 × bb_H)
  | 0, _, _, _, _, _, _, _, _ => none
  | n + 1, x0, x1, x2, x3, x4, x5, x7, h =>
    if 40 ≤ x7 then
      (bb_rcv h x0 8 (m_X8_onSeat x0 x2 h)).bind fun r75 =>
      m_X8_left_83 k38 1000 x0 x1 x2 x3 x4 x5 r75.1 0 r75.2
    else
    (bb_gR h x0 8 13).bind fun t54 =>
    (bb_gR h x0 8 0).bind fun t60 =>
    (bb_aI h t60 .int x7).bind fun t65 =>
    (bb_sV h t54 .int x7 (.int t65)).bind fun g66 =>
    m_X8_left_46 k38 n x0 x1 x2 x3 x4 x5 (x7 + 1) g66
def m_X8_left_210 (z0 : Int32) (h : bb_H) : Option (Int32 × bb_H) :=
  some (z0, h)
def m_X8_left_38 : Nat → Nat → Int32 → Int32 → Int32 → Int32 → Int32 → Int32 → bb_H → Option (Int32 × bb_H)
  | 0, _, _, _, _, _, _, _, _ => none
  | n + 1, x0, x1, x2, x3, x4, x5, x6, h =>
    if x6 = 0 then
      (bb_rcv h x0 8 (m_X8_lets x0 h)).bind fun g185 =>
      if x2 = (-1) then
        m_X8_left_210 x3 g185
      else
      if x2 = (-2) then
        m_X8_left_210 x4 g185
      else
      m_X8_left_210 x5 g185
    else
    m_X8_left_46 (m_X8_left_38 n) 1000 x0 x1 x2 x3 x4 x5 0 h
def m_X8_left (x0 : Nat) (x1 : Int32) (x2 : Int32) (h : bb_H) : Option (Int32 × bb_H) :=
  (m_X8_in x1 0 30 h).bind fun r4 =>
  if r4.1 = 0 then
    m_X8_left_16 r4.2
  else
  if (-2) ≤ x2 then
    (bb_rcv r4.2 x0 8 (m_X8_holds x0 r4.2)).bind fun g19 =>
    (bb_rcv g19 x0 8 (m_X8_firstOrder x0 g19)).bind fun g23 =>
    m_X8_left_38 1000 x0 x1 x2 (-1) (-1) (-4) 1 g23
  else
  m_X8_left_16 r4.2
/-- BattleBenchModel.winter(III)I -/
def m_X8_winter_29 (h : bb_H) : Option (Int32 × bb_H) :=
  some ((-1), h)
def m_X8_winter_200 (k67 : Nat → Int32 → Int32 → Int32 → Int32 → Int32 → Int32 → bb_H → Option (Int32 × bb_H)) (k106 : Nat → Int32 → Int32 → Int32 → Int32 → Int32 → Int32 → Int32 → Int32 → Int32 → Int32 → bb_H → Option (Int32 × bb_H)) (x0 : Nat) (x1 : Int32) (x2 : Int32) (x3 : Int32) (x4 : Int32) (x5 : Int32) (x6 : Int32) (x7 : Int32) (x8 : Int32) (x9 : Int32) (x10 : Int32) (h : bb_H) : Option (Int32 × bb_H) :=
  k106 x0 x1 x2 x3 x4 x5 x6 x7 x8 x9 (x10 + 1) h
def m_X8_winter_186 (k67 : Nat → Int32 → Int32 → Int32 → Int32 → Int32 → Int32 → bb_H → Option (Int32 × bb_H)) (k106 : Nat → Int32 → Int32 → Int32 → Int32 → Int32 → Int32 → Int32 → Int32 → Int32 → Int32 → bb_H → Option (Int32 × bb_H)) (x0 : Nat) (x1 : Int32) (x2 : Int32) (x3 : Int32) (x4 : Int32) (x5 : Int32) (x6 : Int32) (x7 : Int32) (x10 : Int32) (z0 : Int32) (h : bb_H) : Option (Int32 × bb_H) :=
  (bb_gR h x0 8 0).bind fun t189 =>
  (bb_aI h t189 .int (10 + x10)).bind fun t197 =>
  m_X8_winter_200 k67 k106 x0 x1 x2 x3 x4 x5 x6 x7 t197 z0 x10 h
def m_X8_winter_181 (k67 : Nat → Int32 → Int32 → Int32 → Int32 → Int32 → Int32 → bb_H → Option (Int32 × bb_H)) (k106 : Nat → Int32 → Int32 → Int32 → Int32 → Int32 → Int32 → Int32 → Int32 → Int32 → Int32 → bb_H → Option (Int32 × bb_H)) (x0 : Nat) (x1 : Int32) (x2 : Int32) (x3 : Int32) (x4 : Int32) (x5 : Int32) (x6 : Int32) (x7 : Int32) (x10 : Int32) (h : bb_H) : Option (Int32 × bb_H) :=
  m_X8_winter_186 k67 k106 x0 x1 x2 x3 x4 x5 x6 x7 x10 1 h
def m_X8_winter_185 (k67 : Nat → Int32 → Int32 → Int32 → Int32 → Int32 → Int32 → bb_H → Option (Int32 × bb_H)) (k106 : Nat → Int32 → Int32 → Int32 → Int32 → Int32 → Int32 → Int32 → Int32 → Int32 → Int32 → bb_H → Option (Int32 × bb_H)) (x0 : Nat) (x1 : Int32) (x2 : Int32) (x3 : Int32) (x4 : Int32) (x5 : Int32) (x6 : Int32) (x7 : Int32) (x10 : Int32) (h : bb_H) : Option (Int32 × bb_H) :=
  m_X8_winter_186 k67 k106 x0 x1 x2 x3 x4 x5 x6 x7 x10 0 h
def m_X8_winter_137 (k67 : Nat → Int32 → Int32 → Int32 → Int32 → Int32 → Int32 → bb_H → Option (Int32 × bb_H)) (k106 : Nat → Int32 → Int32 → Int32 → Int32 → Int32 → Int32 → Int32 → Int32 → Int32 → Int32 → bb_H → Option (Int32 × bb_H)) (x0 : Nat) (x1 : Int32) (x2 : Int32) (x3 : Int32) (x4 : Int32) (x5 : Int32) (x6 : Int32) (x8 : Int32) (x9 : Int32) (x10 : Int32) (z0 : Int32) (z1 : Int32) (h : bb_H) : Option (Int32 × bb_H) :=
  (m_X8_has x6 x10 h).bind fun r144 =>
  if r144.1 = 0 then
    m_X8_winter_200 k67 k106 x0 x1 x2 x3 x4 x5 x6 (z0 * z1) x8 x9 x10 r144.2
  else
  if x9 = 0 then
    m_X8_winter_185 k67 k106 x0 x1 x2 x3 x4 x5 x6 (z0 * z1) x10 r144.2
  else
  if x8 = (-4) then
    m_X8_winter_181 k67 k106 x0 x1 x2 x3 x4 x5 x6 (z0 * z1) x10 r144.2
  else
  (bb_gR r144.2 x0 8 0).bind fun t166 =>
  (bb_aI r144.2 t166 .int (10 + x10)).bind fun t174 =>
  (bb_rcv r144.2 x0 8 (m_X8_stoodBy x0 x8 t174 r144.2)).bind fun r175 =>
  if r175.1 = 0 then
    m_X8_winter_185 k67 k106 x0 x1 x2 x3 x4 x5 x6 (z0 * z1) x10 r175.2
  else
  m_X8_winter_181 k67 k106 x0 x1 x2 x3 x4 x5 x6 (z0 * z1) x10 r175.2
def m_X8_winter_219 (k67 : Nat → Int32 → Int32 → Int32 → Int32 → Int32 → Int32 → bb_H → Option (Int32 × bb_H)) (x0 : Nat) (x1 : Int32) (x2 : Int32) (x3 : Int32) (x5 : Int32) (x6 : Int32) (z0 : Int32) (z1 : Int32) (h : bb_H) : Option (Int32 × bb_H) :=
  k67 x0 x1 x2 x3 (z0 + z1) x5 (x6 + 1) h
def m_X8_winter_106 (k67 : Nat → Int32 → Int32 → Int32 → Int32 → Int32 → Int32 → bb_H → Option (Int32 × bb_H)) : Nat → Nat → Int32 → Int32 → Int32 → Int32 → Int32 → Int32 → Int32 → Int32 → Int32 → Int32 → bb_H → Option (Int32 × bb_H)
  | 0, _, _, _, _, _, _, _, _, _, _, _, _ => none
  | n + 1, x0, x1, x2, x3, x4, x5, x6, x7, x8, x9, x10, h =>
    (bb_gR h x0 8 0).bind fun t109 =>
    (bb_aI h t109 .int 1).bind fun t113 =>
    if t113 ≤ x10 then
      if x9 = 0 then
        m_X8_winter_219 k67 x0 x1 x2 x3 x5 x6 x4 0 h
      else
      m_X8_winter_219 k67 x0 x1 x2 x3 x5 x6 x4 x7 h
    else
    (m_X8_has x6 x10 h).bind fun r123 =>
    if r123.1 = 0 then
      m_X8_winter_137 k67 (m_X8_winter_106 k67 n) x0 x1 x2 x3 x4 x5 x6 x8 x9 x10 x7 x2 r123.2
    else
    m_X8_winter_137 k67 (m_X8_winter_106 k67 n) x0 x1 x2 x3 x4 x5 x6 x8 x9 x10 x7 (10 - x2) r123.2
def m_X8_winter_101 (k67 : Nat → Int32 → Int32 → Int32 → Int32 → Int32 → Int32 → bb_H → Option (Int32 × bb_H)) (x0 : Nat) (x1 : Int32) (x2 : Int32) (x3 : Int32) (x4 : Int32) (x5 : Int32) (x6 : Int32) (x7 : Int32) (x8 : Int32) (z0 : Int32) (h : bb_H) : Option (Int32 × bb_H) :=
  m_X8_winter_106 k67 1000 x0 x1 x2 x3 x4 x5 x6 x7 x8 z0 0 h
def m_X8_winter_276 (z0 : Int32) (h : bb_H) : Option (Int32 × bb_H) :=
  some (z0, h)
def m_X8_winter_236 : Nat → Int32 → Int32 → Int32 → Int32 → Int32 → bb_H → Option (Int32 × bb_H)
  | 0, _, _, _, _, _, _ => none
  | n + 1, x3, x4, x5, x6, x7, h =>
    if x7 ≤ 0 then
      if x3 = 0 then
        if x6 = 0 then none else
        m_X8_winter_276 (x4 / x6) h
      else
      if x6 = 0 then none else
      m_X8_winter_276 (x5 / x6) h
    else
    if x7 = 0 then none else
    m_X8_winter_236 n x3 x4 x5 x7 (x6 - x6 / x7 * x7) h
def m_X8_winter_67 : Nat → Nat → Int32 → Int32 → Int32 → Int32 → Int32 → Int32 → bb_H → Option (Int32 × bb_H)
  | 0, _, _, _, _, _, _, _, _ => none
  | n + 1, x0, x1, x2, x3, x4, x5, x6, h =>
    (bb_gR h x0 8 0).bind fun t71 =>
    (bb_aI h t71 .int 1).bind fun t75 =>
    if (1 <<< (t75 &&& 31)) ≤ x6 then
      m_X8_winter_236 1000 x3 x4 x5 x4 x5 h
    else
    (m_X8_ones x6 h).bind fun r89 =>
    if r89.1 < x1 then
      m_X8_winter_101 (m_X8_winter_67 n) x0 x1 x2 x3 x4 x5 x6 1 (-4) 0 r89.2
    else
    m_X8_winter_101 (m_X8_winter_67 n) x0 x1 x2 x3 x4 x5 x6 1 (-4) 1 r89.2
def m_X8_winter_40 : Nat → Nat → Int32 → Int32 → Int32 → Int32 → Int32 → Int32 → bb_H → Option (Int32 × bb_H)
  | 0, _, _, _, _, _, _, _, _ => none
  | n + 1, x0, x1, x2, x3, x4, x5, x6, h =>
    (bb_gR h x0 8 0).bind fun t43 =>
    (bb_aI h t43 .int 1).bind fun t47 =>
    if t47 ≤ x6 then
      m_X8_winter_67 1000 x0 x1 x2 x3 x4 x5 0 h
    else
    m_X8_winter_40 n x0 x1 x2 x3 x4 (x5 * 10) (x6 + 1) h
def m_X8_winter (x0 : Nat) (x1 : Int32) (x2 : Int32) (x3 : Int32) (h : bb_H) : Option (Int32 × bb_H) :=
  (m_X8_in x1 0 6 h).bind fun r4 =>
  if r4.1 = 0 then
    m_X8_winter_29 r4.2
  else
  (m_X8_in x2 0 10 r4.2).bind fun r14 =>
  if r14.1 = 0 then
    m_X8_winter_29 r14.2
  else
  (m_X8_in x3 0 1 r14.2).bind fun r23 =>
  if r23.1 = 0 then
    m_X8_winter_29 r23.2
  else
  m_X8_winter_40 1000 x0 x1 x2 x3 0 1 0 r23.2
/-- BattleBenchModel.image()I -/
def m_X8_image_2 : Nat → Nat → Int32 → bb_H → Option (Int32 × bb_H)
  | 0, _, _, _ => none
  | n + 1, x0, x1, h =>
    if 161 ≤ x1 then
      (bb_pZ h x0 8 2 1).bind fun g29 =>
      some (1, g29)
    else
    (bb_gR h x0 8 1).bind fun t10 =>
    (bb_gR h x0 8 0).bind fun t15 =>
    (bb_aI h t15 .int x1).bind fun t19 =>
    (bb_sV h t10 .int x1 (.int t19)).bind fun g20 =>
    m_X8_image_2 n x0 (x1 + 1) g20
def m_X8_image (x0 : Nat) (h : bb_H) : Option (Int32 × bb_H) :=
  m_X8_image_2 1000 x0 0 h
/-- BattleBenchModel.restore()I -/
def m_X8_restore_12 : Nat → Nat → Int32 → bb_H → Option (Int32 × bb_H)
  | 0, _, _, _ => none
  | n + 1, x0, x1, h =>
    if 161 ≤ x1 then
      some (1, h)
    else
    (bb_gR h x0 8 0).bind fun t20 =>
    (bb_gR h x0 8 1).bind fun t25 =>
    (bb_aI h t25 .int x1).bind fun t29 =>
    (bb_sV h t20 .int x1 (.int t29)).bind fun g30 =>
    m_X8_restore_12 n x0 (x1 + 1) g30
def m_X8_restore (x0 : Nat) (h : bb_H) : Option (Int32 × bb_H) :=
  (bb_gI h x0 8 2).bind fun t1 =>
  if t1 = 0 then
    some ((-4), h)
  else
  m_X8_restore_12 1000 x0 0 h
/-- BattleBenchModel.isSheet(I)Z -/
def m_X8_isSheet (x0 : Int32) (h : bb_H) : Option (Int32 × bb_H) :=
  (m_X8_in x0 0 3 h).bind fun r3 =>
  bb_rz r3.1 r3.2
/-- BattleBenchModel.barred(IIII)I -/
def m_X8_barred_64 (z0 : Int32) (h : bb_H) : Option (Int32 × bb_H) :=
  some (z0, h)
def m_X8_barred_58 (h : bb_H) : Option (Int32 × bb_H) :=
  m_X8_barred_64 (-13) h
def m_X8_barred (x0 : Nat) (x1 : Int32) (x2 : Int32) (x3 : Int32) (x4 : Int32) (h : bb_H) : Option (Int32 × bb_H) :=
  (bb_gR h x0 8 9).bind fun t1 =>
  (bb_aI h t1 .int x1).bind fun t5 =>
  if 0 ≤ t5 then
    (bb_gR h x0 8 10).bind fun t13 =>
    (bb_aI h t13 .int x1).bind fun t17 =>
    if t17 = x2 then
      if x3 < 0 then
        m_X8_barred_58 h
      else
      if x4 < 0 then
        m_X8_barred_58 h
      else
      (bb_gR h x0 8 9).bind fun t37 =>
      (bb_aI h t37 .int x1).bind fun t41 =>
      if t41 < x4 then
        m_X8_barred_58 h
      else
      (bb_gR h x0 8 9).bind fun t47 =>
      (bb_aI h t47 .int x1).bind fun t51 =>
      if x3 ≤ (t51 - x4) then
        m_X8_barred_64 0 h
      else
      m_X8_barred_58 h
    else
    some ((-12), h)
  else
  some ((-11), h)
/-- BattleBenchModel.cut(IJ)J -/
def m_X8_cut_35 (z0 : Int64) (h : bb_H) : Option (Int64 × bb_H) :=
  some (z0, h)
def m_X8_cut (x0 : Int32) (x1 : Int64) (h : bb_H) : Option (Int64 × bb_H) :=
  if x0 = 0 then
    m_X8_cut_35 x1.toInt32.toInt8.toInt32.toInt64 h
  else
  if x0 = 1 then
    m_X8_cut_35 x1.toInt32.toInt16.toInt32.toInt64 h
  else
  if x0 = 2 then
    m_X8_cut_35 x1.toInt32.toInt64 h
  else
  m_X8_cut_35 x1 h
/-- BattleBenchModel.isSo(III)Z -/
def m_X8_isSo_48 (k6 : Nat → Int32 → Int32 → Int32 → Int32 → Int32 → bb_H → Option (Int32 × bb_H)) (x0 : Nat) (x1 : Int32) (x2 : Int32) (x3 : Int32) (x5 : Int32) (z0 : Int32) (h : bb_H) : Option (Int32 × bb_H) :=
  k6 x0 x1 x2 x3 z0 (x5 + 1) h
def m_X8_isSo_56 (x0 : Nat) (x4 : Int32) (h : bb_H) : Option (Int32 × bb_H) :=
  (bb_rcv h x0 8 (m_X8_lets x0 h)).bind fun g57 =>
  bb_rz x4 g57
def m_X8_isSo_6 : Nat → Nat → Int32 → Int32 → Int32 → Int32 → Int32 → bb_H → Option (Int32 × bb_H)
  | 0, _, _, _, _, _, _, _ => none
  | n + 1, x0, x1, x2, x3, x4, x5, h =>
    if x3 ≤ x5 then
      m_X8_isSo_56 x0 x4 h
    else
    if x4 = 0 then
      m_X8_isSo_56 x0 x4 h
    else
    (bb_rcv h x0 8 (m_X8_passes x0 h)).bind fun g18 =>
    (bb_gR g18 x0 8 7).bind fun t22 =>
    (bb_aL g18 t22 (x2 + x5)).bind fun t29 =>
    (bb_gR g18 x0 8 0).bind fun t31 =>
    (bb_aI g18 t31 .int (4 + x1)).bind fun t37 =>
    if (lg_cmp t29 t37.toInt64) = 0 then
      m_X8_isSo_48 (m_X8_isSo_6 n) x0 x1 x2 x3 x5 1 g18
    else
    m_X8_isSo_48 (m_X8_isSo_6 n) x0 x1 x2 x3 x5 0 g18
def m_X8_isSo (x0 : Nat) (x1 : Int32) (x2 : Int32) (x3 : Int32) (h : bb_H) : Option (Int32 × bb_H) :=
  m_X8_isSo_6 1000 x0 x1 x2 x3 1 0 h
/-- BattleBenchModel.failed(IIIIII)I -/
def m_X8_failed_45 (h : bb_H) : Option (Int32 × bb_H) :=
  some ((-1), h)
def m_X8_failed_138 (k99 : Nat → Int32 → Int32 → Int32 → Int32 → Int32 → Int32 → bb_H → Option (Int32 × bb_H)) (x0 : Nat) (x1 : Int32) (x5 : Int32) (x6 : Int32) (x8 : Int32) (x10 : Int32) (z0 : Int32) (z1 : Int32) (h : bb_H) : Option (Int32 × bb_H) :=
  k99 x0 x1 x5 x6 x8 (z0 ||| z1) (x10 + 1) h
def m_X8_failed_211 (k158 : Nat → Int32 → Int32 → Int32 → Int32 → Int32 → Int32 → Int32 → Int32 → bb_H → Option (Int32 × bb_H)) (x0 : Nat) (x1 : Int32) (x5 : Int32) (x6 : Int32) (x8 : Int32) (x9 : Int32) (x10 : Int32) (x12 : Int32) (z0 : Int32) (h : bb_H) : Option (Int32 × bb_H) :=
  k158 x0 x1 x5 x6 x8 x9 x10 z0 (x12 + (-1)) h
def m_X8_failed_196 (k158 : Nat → Int32 → Int32 → Int32 → Int32 → Int32 → Int32 → Int32 → Int32 → bb_H → Option (Int32 × bb_H)) (x0 : Nat) (x1 : Int32) (x5 : Int32) (x6 : Int32) (x8 : Int32) (x9 : Int32) (x11 : Int32) (x12 : Int32) (x13 : Int32) (z0 : Int32) (z1 : Int32) (h : bb_H) : Option (Int32 × bb_H) :=
  if x13 = 0 then
    m_X8_failed_211 k158 x0 x1 x5 x6 x8 x9 (z0 + z1) x12 x11 h
  else
  m_X8_failed_211 k158 x0 x1 x5 x6 x8 x9 (z0 + z1) x12 x12 h
def m_X8_failed_242 (z0 : Int32) (h : bb_H) : Option (Int32 × bb_H) :=
  some (z0, h)
def m_X8_failed_158 : Nat → Nat → Int32 → Int32 → Int32 → Int32 → Int32 → Int32 → Int32 → Int32 → bb_H → Option (Int32 × bb_H)
  | 0, _, _, _, _, _, _, _, _, _, _ => none
  | n + 1, x0, x1, x5, x6, x8, x9, x10, x11, x12, h =>
    if x12 ≤ 0 then
      if x6 = 0 then
        m_X8_failed_242 x9 h
      else
      if x6 = 1 then
        m_X8_failed_242 x10 h
      else
      m_X8_failed_242 x11 h
    else
    (bb_gR h x0 8 0).bind fun t164 =>
    (bb_sV h t164 .int (4 + x1) (.int x12)).bind fun g172 =>
    (bb_rcv g172 x0 8 (m_X8_isSo x0 x1 x8 x5 g172)).bind fun r179 =>
    if r179.1 = 0 then
      m_X8_failed_196 (m_X8_failed_158 n) x0 x1 x5 x6 x8 x9 x11 x12 r179.1 x10 0 r179.2
    else
    m_X8_failed_196 (m_X8_failed_158 n) x0 x1 x5 x6 x8 x9 x11 x12 r179.1 x10 1 r179.2
def m_X8_failed_99 : Nat → Nat → Int32 → Int32 → Int32 → Int32 → Int32 → Int32 → bb_H → Option (Int32 × bb_H)
  | 0, _, _, _, _, _, _, _, _ => none
  | n + 1, x0, x1, x5, x6, x8, x9, x10, h =>
    if 4 < x10 then
      m_X8_failed_158 1000 x0 x1 x5 x6 x8 x9 0 (-4) 60 h
    else
    (bb_gR h x0 8 0).bind fun t106 =>
    (bb_sV h t106 .int (16 + x1) (.int x10)).bind fun g115 =>
    (bb_rcv g115 x0 8 (m_X8_isSo x0 x1 x8 x5 g115)).bind fun r124 =>
    if r124.1 = 0 then
      m_X8_failed_138 (m_X8_failed_99 n) x0 x1 x5 x6 x8 x10 x9 0 r124.2
    else
    m_X8_failed_138 (m_X8_failed_99 n) x0 x1 x5 x6 x8 x10 x9 (1 <<< (x10 &&& 31)) r124.2
def m_X8_failed (x0 : Nat) (x1 : Int32) (x2 : Int32) (x3 : Int32) (x4 : Int32) (x5 : Int32) (x6 : Int32) (h : bb_H) : Option (Int32 × bb_H) :=
  (bb_rcv h x0 8 (m_X8_isMan x0 x1 h)).bind fun r2 =>
  if r2.1 = 0 then
    m_X8_failed_45 r2.2
  else
  (m_X8_isSheet x2 r2.2).bind fun r9 =>
  if r9.1 = 0 then
    m_X8_failed_45 r9.2
  else
  (m_X8_in x3 0 3 r9.2).bind fun r18 =>
  if r18.1 = 0 then
    m_X8_failed_45 r18.2
  else
  (m_X8_in x5 1 8 r18.2).bind fun r29 =>
  if r29.1 = 0 then
    m_X8_failed_45 r29.2
  else
  (m_X8_in x6 0 2 r29.2).bind fun r39 =>
  if r39.1 = 0 then
    m_X8_failed_45 r39.2
  else
  (bb_rcv r39.2 x0 8 (m_X8_barred x0 x2 x3 x4 x5 r39.2)).bind fun r54 =>
  if r54.1 = 0 then
    (bb_rcv r54.2 x0 8 (m_X8_seatOf x0 x1 r54.2)).bind fun r69 =>
    if r69.1 = (-4) then
      some ((-2), r69.2)
    else
    (bb_rcv r69.2 x0 8 (m_X8_holds x0 r69.2)).bind fun g81 =>
    m_X8_failed_99 1000 x0 x1 x5 x6 ((24 * x2) + x4) 0 0 g81
  else
  some (r54.1, r54.2)
/-- BattleBenchModel.film(IIIII)I -/
def m_X8_film_35 (h : bb_H) : Option (Int32 × bb_H) :=
  some ((-1), h)
def m_X8_film_64 : Nat → Nat → Int32 → Int32 → Int32 → Int32 → Int32 → bb_H → Option (Int32 × bb_H)
  | 0, _, _, _, _, _, _, _ => none
  | n + 1, x0, x1, x2, x3, x5, x7, h =>
    if x2 ≤ x7 then
      (bb_rcv h x0 8 (m_X8_lets x0 h)).bind fun g105 =>
      some (x2, g105)
    else
    (bb_rcv h x0 8 (m_X8_passes x0 h)).bind fun g71 =>
    (bb_gR g71 x0 8 7).bind fun t75 =>
    (bb_gR g71 x0 8 0).bind fun t89 =>
    (bb_aI g71 t89 .int (4 + x1)).bind fun t95 =>
    (bb_sV g71 t75 .long (((24 * x3) + x5) + x7) (.long t95.toInt64)).bind fun g97 =>
    m_X8_film_64 n x0 x1 x2 x3 x5 (x7 + 1) g97
def m_X8_film (x0 : Nat) (x1 : Int32) (x2 : Int32) (x3 : Int32) (x4 : Int32) (x5 : Int32) (h : bb_H) : Option (Int32 × bb_H) :=
  (bb_rcv h x0 8 (m_X8_isMan x0 x1 h)).bind fun r2 =>
  if r2.1 = 0 then
    m_X8_film_35 r2.2
  else
  (m_X8_in x2 1 24 r2.2).bind fun r12 =>
  if r12.1 = 0 then
    m_X8_film_35 r12.2
  else
  (m_X8_isSheet x3 r12.2).bind fun r19 =>
  if r19.1 = 0 then
    m_X8_film_35 r19.2
  else
  (m_X8_in x4 0 3 r19.2).bind fun r29 =>
  if r29.1 = 0 then
    m_X8_film_35 r29.2
  else
  (bb_rcv r29.2 x0 8 (m_X8_barred x0 x3 x4 x5 x2 r29.2)).bind fun r44 =>
  if r44.1 = 0 then
    (bb_rcv r44.2 x0 8 (m_X8_holds x0 r44.2)).bind fun g58 =>
    m_X8_film_64 1000 x0 x1 x2 x3 x5 0 g58
  else
  some (r44.1, r44.2)
/-- BattleBenchModel.sheet(III)I -/
def m_X8_sheet_22 (h : bb_H) : Option (Int32 × bb_H) :=
  some ((-1), h)
def m_X8_sheet_48 : Nat → Nat → Int32 → Int32 → Int32 → bb_H → Option (Int32 × bb_H)
  | 0, _, _, _, _, _ => none
  | n + 1, x0, x1, x3, x4, h =>
    if 24 ≤ x4 then
      some (x3, h)
    else
    (bb_gR h x0 8 7).bind fun t56 =>
    (bb_sV h t56 .long ((24 * x1) + x4) (.long 0)).bind fun g67 =>
    m_X8_sheet_48 n x0 x1 x3 (x4 + 1) g67
def m_X8_sheet (x0 : Nat) (x1 : Int32) (x2 : Int32) (x3 : Int32) (h : bb_H) : Option (Int32 × bb_H) :=
  (m_X8_isSheet x1 h).bind fun r1 =>
  if r1.1 = 0 then
    m_X8_sheet_22 r1.2
  else
  (m_X8_in x2 0 3 r1.2).bind fun r10 =>
  if r10.1 = 0 then
    m_X8_sheet_22 r10.2
  else
  if x3 ≤ 24 then
    if 0 ≤ x3 then
      (bb_gR r10.2 x0 8 9).bind fun t32 =>
      (bb_sV r10.2 t32 .int x1 (.int x3)).bind fun g37 =>
      (bb_gR g37 x0 8 10).bind fun t39 =>
      (bb_sV g37 t39 .int x1 (.int x2)).bind fun g44 =>
      m_X8_sheet_48 1000 x0 x1 x3 0 g44
    else
    some ((-14), r10.2)
  else
  m_X8_sheet_22 r10.2
/-- BattleBenchModel.drop(I)I -/
def m_X8_drop (x0 : Nat) (x1 : Int32) (h : bb_H) : Option (Int32 × bb_H) :=
  (m_X8_isSheet x1 h).bind fun r1 =>
  if r1.1 = 0 then
    some ((-1), r1.2)
  else
  (bb_gR r1.2 x0 8 9).bind fun t10 =>
  (bb_aI r1.2 t10 .int x1).bind fun t14 =>
  if 0 ≤ t14 then
    (bb_gR r1.2 x0 8 9).bind fun t22 =>
    (bb_aI r1.2 t22 .int x1).bind fun t26 =>
    (bb_gR r1.2 x0 8 9).bind fun t29 =>
    (bb_sV r1.2 t29 .int x1 (.int (-1))).bind fun g34 =>
    some (t26, g34)
  else
  some ((-11), r1.2)
/-- BattleBenchModel.item(IIIJ)I -/
def m_X8_item_16 (h : bb_H) : Option (Int32 × bb_H) :=
  some ((-1), h)
def m_X8_item (x0 : Nat) (x1 : Int32) (x2 : Int32) (x3 : Int32) (x4 : Int64) (h : bb_H) : Option (Int32 × bb_H) :=
  (m_X8_isSheet x1 h).bind fun r1 =>
  if r1.1 = 0 then
    m_X8_item_16 r1.2
  else
  (m_X8_in x2 0 3 r1.2).bind fun r10 =>
  if r10.1 = 0 then
    m_X8_item_16 r10.2
  else
  (bb_rcv r10.2 x0 8 (m_X8_barred x0 x1 x2 x3 1 r10.2)).bind fun r23 =>
  if r23.1 = 0 then
    (bb_gR r23.2 x0 8 7).bind fun t37 =>
    (m_X8_cut x2 x4 r23.2).bind fun r49 =>
    (bb_sV r49.2 t37 .long ((24 * x1) + x3) (.long r49.1)).bind fun g52 =>
    some (1, g52)
  else
  some (r23.1, r23.2)
/-- BattleBenchModel.copy(IIIII)I -/
def m_X8_copy_14 (h : bb_H) : Option (Int32 × bb_H) :=
  some ((-1), h)
def m_X8_copy_34 (h : bb_H) : Option (Int32 × bb_H) :=
  some ((-11), h)
def m_X8_copy_92 (z0 : Int32) (h : bb_H) : Option (Int32 × bb_H) :=
  some (z0, h)
def m_X8_copy_80 (x6 : Int32) (x7 : Int32) (h : bb_H) : Option (Int32 × bb_H) :=
  if x6 = 0 then
    m_X8_copy_92 x7 h
  else
  m_X8_copy_92 x6 h
def m_X8_copy_133 : Nat → Nat → Int32 → Int32 → Int32 → Int32 → bb_H → Option (Int32 × bb_H)
  | 0, _, _, _, _, _, _ => none
  | n + 1, x0, x3, x4, x5, x8, h =>
    if x5 ≤ x8 then
      some (x5, h)
    else
    (bb_gR h x0 8 7).bind fun t141 =>
    (bb_gR h x0 8 8).bind fun t155 =>
    (bb_aL h t155 x8).bind fun t160 =>
    (bb_sV h t141 .long (((24 * x3) + x4) + x8) (.long t160)).bind fun g161 =>
    m_X8_copy_133 n x0 x3 x4 x5 (x8 + 1) g161
def m_X8_copy_96 : Nat → Nat → Int32 → Int32 → Int32 → Int32 → Int32 → Int32 → bb_H → Option (Int32 × bb_H)
  | 0, _, _, _, _, _, _, _, _ => none
  | n + 1, x0, x1, x2, x3, x4, x5, x8, h =>
    if x5 ≤ x8 then
      m_X8_copy_133 1000 x0 x3 x4 x5 0 h
    else
    (bb_gR h x0 8 8).bind fun t104 =>
    (bb_gR h x0 8 7).bind fun t110 =>
    (bb_aL h t110 (((24 * x1) + x2) + x8)).bind fun t122 =>
    (bb_sV h t104 .long x8 (.long t122)).bind fun g123 =>
    m_X8_copy_96 n x0 x1 x2 x3 x4 x5 (x8 + 1) g123
def m_X8_copy (x0 : Nat) (x1 : Int32) (x2 : Int32) (x3 : Int32) (x4 : Int32) (x5 : Int32) (h : bb_H) : Option (Int32 × bb_H) :=
  (m_X8_isSheet x1 h).bind fun r1 =>
  if r1.1 = 0 then
    m_X8_copy_14 r1.2
  else
  (m_X8_isSheet x3 r1.2).bind fun r8 =>
  if r8.1 = 0 then
    m_X8_copy_14 r8.2
  else
  (bb_gR r8.2 x0 8 9).bind fun t17 =>
  (bb_aI r8.2 t17 .int x1).bind fun t21 =>
  if t21 < 0 then
    m_X8_copy_34 r8.2
  else
  (bb_gR r8.2 x0 8 9).bind fun t26 =>
  (bb_aI r8.2 t26 .int x3).bind fun t30 =>
  if 0 ≤ t30 then
    (bb_gR r8.2 x0 8 10).bind fun t40 =>
    (bb_aI r8.2 t40 .int x3).bind fun t44 =>
    (bb_rcv r8.2 x0 8 (m_X8_barred x0 x1 t44 x2 x5 r8.2)).bind fun r48 =>
    (bb_gR r48.2 x0 8 10).bind fun t56 =>
    (bb_aI r48.2 t56 .int x3).bind fun t60 =>
    (bb_rcv r48.2 x0 8 (m_X8_barred x0 x3 t60 x4 x5 r48.2)).bind fun r65 =>
    if r48.1 = 0 then
      if r65.1 = 0 then
        m_X8_copy_96 1000 x0 x1 x2 x3 x4 x5 0 r65.2
      else
      m_X8_copy_80 r48.1 r65.1 r65.2
    else
    m_X8_copy_80 r48.1 r65.1 r65.2
  else
  m_X8_copy_34 r8.2
