/-! the bench, further: places within it, neighbours, a year -/
theorem sub1I {n : Nat} (h : n < 2 ^ 30) : (nI n - 1).toInt = (n : Int) - 1 := pk_sub_toInt (b := 1) h (by decide)
theorem subI {n k : Nat} (h : n < 2 ^ 30) (hk : k < 2 ^ 30) : (nI n - nI k).toInt = (n : Int) - k := pk_sub_toInt h hk
/-- is x a place below n (less c)? -/
theorem inB_in {j n c : Nat} (h : j + c < n) (hn : n < 2 ^ 30) : inB (nI j) 0 (nI n - nI (c + 1)) = 1 := by
  unfold inB
  rw [if_neg (nI_pos (by omega)), if_neg (fun z => by
    have z1 := Int32.lt_iff_toInt_lt.mp z
    rw [subI hn (by omega), nI_toInt (by omega)] at z1
    omega)]
theorem inB_out {x : Int32} {n c : Nat} (hn : n < 2 ^ 30) (hc : c + 1 < 2 ^ 30) (h : ∀ j, j + c < n → x ≠ nI j) : inB x 0 (nI n - nI (c + 1)) = 0 := by
  unfold inB
  by_cases q : x < 0
  · rw [if_pos q]
  · obtain ⟨j, hj, rfl⟩ := nI_of q
    rw [if_neg q]
    by_cases z : nI n - nI (c + 1) < nI j
    · rw [if_pos z]
    · exfalso
      have z1 : ¬ (nI n - nI (c + 1)).toInt < (nI j).toInt := fun w => z (Int32.lt_iff_toInt_lt.mpr w)
      rw [subI hn hc, nI_toInt hj] at z1
      exact h j (by omega) rfl
theorem place_or (x : Int32) (n : Nat) : (∃ j, j < n ∧ x = nI j) ∨ ∀ j, j < n → x ≠ nI j := by
  by_cases q : ∃ j, j < n ∧ x = nI j
  · exact Or.inl q
  · exact Or.inr (fun j hj e => q ⟨j, hj, e⟩)
/-- who is at a place, or else -/
def onD (dv : Int32) (sv : Nat → Nat) (n : Nat) (x : Int32) : Int32 := if x < 0 then dv else if x.toNatClampNeg < n then nI (sv x.toNatClampNeg) else dv
theorem onD_in {dv : Int32} {sv : Nat → Nat} {n j : Nat} (h : j < n) (hn : n < 2 ^ 30) : onD dv sv n (nI j) = nI (sv j) := by
  unfold onD
  rw [if_neg (nI_pos (by omega)), nI_clamp (by omega), if_pos h]
theorem onD_out {dv : Int32} {sv : Nat → Nat} {n : Nat} {x : Int32} (hn : n < 2 ^ 30) (h : ∀ j, j < n → x ≠ nI j) : onD dv sv n x = dv := by
  unfold onD
  by_cases q : x < 0
  · rw [if_pos q]
  · obtain ⟨j, hj, rfl⟩ := nI_of q
    rw [if_neg q, nI_clamp hj, if_neg (fun z => h j z rfl)]
section BN2
variable {h : bb_H} {b : Nat} {lv sv : Nat → Nat} {n y : Nat} {d : Int32}
theorem whoIsOn_ok (A : bnAt h b (lv, sv, n, y, d)) (hn : n ≤ 6) (x : Int32) : m_X0_whoIsOn b x h = some (onD (-4) sv n x, h) := by
  unfold m_X0_whoIsOn
  rw [A.g2, bsome, within_ok, bsome]
  rcases place_or x n with ⟨j, hj, rfl⟩ | q
  · rw [show inB (nI j) 0 (nI n - 1) = 1 from inB_in (c := 0) (by omega) (by omega), if_neg (show ¬ ((1 : Int32), h).1 = 0 from (by decide : ¬ (1 : Int32) = 0)), A.g1, bsome, A.as (by omega), bsome, onD_in hj (by omega)]
    rfl
  · rw [show inB x 0 (nI n - 1) = 0 from inB_out (c := 0) (by omega) (by decide) (fun j hj => q j (by omega)), if_pos rfl, onD_out (by omega) q]
    rfl
theorem setOn_in (A : bnAt h b (lv, sv, n, y, d)) (hn : n ≤ 6) (hs : ∀ i, i < n → sv i < 6) {j : Nat} (hj : j < n) : m_X0_setOn b (nI j) h = some (nI (2 ^ sv j), h) := by
  have h6 := hs j hj
  unfold m_X0_setOn
  rw [A.g2, bsome, within_ok, bsome, show inB (nI j) 0 (nI n - 1) = 1 from inB_in (c := 0) (by omega) (by omega), if_neg (show ¬ ((1 : Int32), h).1 = 0 from (by decide : ¬ (1 : Int32) = 0)), A.g1, bsome, A.as (by omega), bsome, one_shl (by omega)]
  rfl
theorem setOn_out (A : bnAt h b (lv, sv, n, y, d)) (hn : n ≤ 6) {x : Int32} (q : ∀ j, j < n → x ≠ nI j) : m_X0_setOn b x h = some (nI 0, h) := by
  unfold m_X0_setOn
  rw [A.g2, bsome, within_ok, bsome, show inB x 0 (nI n - 1) = 0 from inB_out (c := 0) (by omega) (by decide) (fun j hj => q j (by omega)), if_pos rfl]
  rfl
end BN2
/-- the neighbours of a place -/
def bfO (sv : Nat → Nat) (j : Nat) : Option Nat := if j = 0 then none else some (sv (j - 1))
def afO (sv : Nat → Nat) (n j : Nat) : Option Nat := if j + 1 < n then some (sv (j + 1)) else none
section BN2S
variable {h : bb_H} {b : Nat} {lv sv : Nat → Nat} {n y : Nat} {d : Int32}
theorem setOn_bf (A : bnAt h b (lv, sv, n, y, d)) (hn : n ≤ 6) (hs : ∀ i, i < n → sv i < 6) {j : Nat} (hj : j < n) : m_X0_setOn b (nI j - 1) h = some (nI (setO (bfO sv j)), h) := by
  unfold bfO
  by_cases q : j = 0
  · subst q
    rw [if_pos rfl, show nI 0 - 1 = (-1 : Int32) by decide]
    exact setOn_out A hn (fun i hi e => nI_m1 (q := i) (by omega) e.symm)
  · rw [if_neg q, show nI j - 1 = nI (j - 1) from pk_sub (b := 1) (by omega), setOn_in A hn hs (by omega)]
    rfl
theorem setOn_af (A : bnAt h b (lv, sv, n, y, d)) (hn : n ≤ 6) (hs : ∀ i, i < n → sv i < 6) {j : Nat} (hj : j < n) : m_X0_setOn b (nI j + 1) h = some (nI (setO (afO sv n j)), h) := by
  unfold afO
  rw [nI_1]
  by_cases q : j + 1 < n
  · rw [if_pos q, setOn_in A hn hs q]
    rfl
  · rw [if_neg q]
    exact setOn_out A hn (fun i hi e => by
      rw [nI_eq (by omega) (by omega)] at e
      omega)
end BN2S
theorem sp_seat_or (sv : Nat → Nat) (m : Nat) : ∀ k j, (∃ i, j ≤ i ∧ i < j + k ∧ sv i = m ∧ (∀ t, j ≤ t → t < i → sv t ≠ m) ∧ sp_seat sv m j k = nI i) ∨ ((∀ t, j ≤ t → t < j + k → sv t ≠ m) ∧ sp_seat sv m j k = -4) := by
  intro k
  induction k with
  | zero =>
    intro j
    exact Or.inr ⟨fun t h1 h2 => by omega, rfl⟩
  | succ k ih =>
    intro j
    show (∃ i, j ≤ i ∧ i < j + (k + 1) ∧ sv i = m ∧ (∀ t, j ≤ t → t < i → sv t ≠ m) ∧ (if sv j = m then nI j else sp_seat sv m (j + 1) k) = nI i) ∨ ((∀ t, j ≤ t → t < j + (k + 1) → sv t ≠ m) ∧ (if sv j = m then nI j else sp_seat sv m (j + 1) k) = -4)
    by_cases q : sv j = m
    · exact Or.inl ⟨j, Nat.le_refl _, by omega, q, fun t h1 h2 => by omega, if_pos q⟩
    · rw [if_neg q]
      rcases ih (j + 1) with ⟨i, h1, h2, h3, h4, h5⟩ | ⟨h1, h2⟩
      · refine Or.inl ⟨i, by omega, by omega, h3, fun t g1 g2 => ?_, h5⟩
        by_cases e : t = j
        · rw [e]; exact q
        · exact h4 t (by omega) g2
      · refine Or.inr ⟨fun t g1 g2 => ?_, h2⟩
        by_cases e : t = j
        · rw [e]; exact q
        · exact h1 t (by omega) (by omega)
/-- where one sits, or nowhere -/
theorem seat_or (sv : Nat → Nat) (m n : Nat) : (∃ i, i < n ∧ sv i = m ∧ (∀ t, t < i → sv t ≠ m) ∧ sp_seat sv m 0 n = nI i) ∨ ((∀ t, t < n → sv t ≠ m) ∧ sp_seat sv m 0 n = -4) := by
  rcases sp_seat_or sv m n 0 with ⟨i, -, h2, h3, h4, h5⟩ | ⟨h1, h2⟩
  · exact Or.inl ⟨i, by omega, h3, fun t ht => h4 t (Nat.zero_le _) ht, h5⟩
  · exact Or.inr ⟨fun t ht => h1 t (Nat.zero_le _) (by omega), h2⟩
theorem bfO_lt {sv : Nat → Nat} {n j : Nat} (hs : ∀ i, i < n → sv i < 6) (hj : j < n) : ∀ q, bfO sv j = some q → q < 6 := by
  intro q e
  unfold bfO at e
  split at e
  · cases e
  · cases e
    exact hs _ (by omega)
theorem afO_lt {sv : Nat → Nat} {n j : Nat} (hs : ∀ i, i < n → sv i < 6) : ∀ q, afO sv n j = some q → q < 6 := by
  intro q e
  unfold afO at e
  split at e
  · cases e
    exact hs _ (by omega)
  · cases e
section BN3
variable {h : bb_H} {b : Nat} {lv sv : Nat → Nat} {n y : Nat} {d : Int32}
theorem whoSitsBy_in (A : bnAt h b (lv, sv, n, y, d)) (hn : n ≤ 6) (hs : ∀ i, i < n → sv i < 6) {m i : Nat} (hm : m < 6) (hi : i < n) (he : sp_seat sv m 0 n = nI i) : m_X0_whoSitsBy b (nI m) h = some (nI (setO (bfO sv i) ||| setO (afO sv n i)), h) := by
  unfold m_X0_whoSitsBy
  rw [A.rcv, seatOf_ok A hn hs hm, bsome, he]
  dsimp only
  rw [if_neg (show ¬ nI i = -4 from nI_neg_ne (b := 4) (by omega) (by decide) (by decide)), A.rcv, setOn_bf A hn hs hi, bsome]
  dsimp only
  rw [A.rcv, setOn_af A hn hs hi, bsome]
  dsimp only
  rw [or_nI]
theorem whoSitsBy_out (A : bnAt h b (lv, sv, n, y, d)) (hn : n ≤ 6) (hs : ∀ i, i < n → sv i < 6) {m : Nat} (hm : m < 6) (he : sp_seat sv m 0 n = -4) : m_X0_whoSitsBy b (nI m) h = some (0, h) := by
  unfold m_X0_whoSitsBy
  rw [A.rcv, seatOf_ok A hn hs hm, bsome, he]
  dsimp only
  rw [if_pos rfl]
theorem bnLoss_in {r nr : Nat} {kd sb : Nat → Nat} {pl : Nat → Nat → Nat} (A : bnAt h b (lv, sv, n, y, d)) (R : rlAt h r (nr, kd, pl, sb)) (hn : n ≤ 6) (hy : y < 2 ^ 31) (hs : ∀ i, i < n → sv i < 6) {m i : Nat} (hm : m < 6) (hk : kd m < 5) (hb : sb m < 64) (hi : i < n) (he : sp_seat sv m 0 n = nI i) : m_X0_lossOf b (nI m) r h = some (nI (lossN kd sb y m (bfO sv i) (afO sv n i)), h) := by
  unfold m_X0_lossOf
  rw [A.rcv, seatOf_ok A hn hs hm, bsome, he]
  dsimp only
  rw [if_neg (show ¬ nI i = -4 from nI_neg_ne (b := 4) (by omega) (by decide) (by decide)), A.g3, bsome, A.rcv, setOn_bf A hn hs hi, bsome]
  dsimp only
  rw [A.rcv, setOn_af A hn hs hi, bsome]
  dsimp only
  rw [R.rcv, lossOf_ok R hm hy hk hb _ _ (bfO_lt hs hi) (afO_lt hs), bsome]
  rfl
theorem bnLoss_out {r : Nat} (A : bnAt h b (lv, sv, n, y, d)) (hn : n ≤ 6) (hs : ∀ i, i < n → sv i < 6) {m : Nat} (hm : m < 6) (he : sp_seat sv m 0 n = -4) : m_X0_lossOf b (nI m) r h = some (0, h) := by
  unfold m_X0_lossOf
  rw [A.rcv, seatOf_ok A hn hs hm, bsome, he]
  dsimp only
  rw [if_pos rfl]
  rfl
theorem hasPair_ok (A : bnAt h b (lv, sv, n, y, d)) (x : Int32) : m_X0_hasPairAt b x h = some (inB x 0 (nI n - 2), h) := by
  unfold m_X0_hasPairAt
  rw [A.g2, bsome, within_ok, bsome]
  exact rz_in _ _ _ _
/-- two neighbours change seats -/
def swN (sv : Nat → Nat) (j : Nat) : Nat → Nat := updN (updN sv j (sv (j + 1))) (j + 1) (sv j)
theorem swapAt_in (A : bnAt h b (lv, sv, n, y, d)) (hn : n ≤ 6) {j : Nat} (hj : j + 1 < n) : m_X0_swapAt b (nI j) h = some (bnSet h b (lv, swN sv j, n, y, d)) := by
  unfold m_X0_swapAt
  rw [A.rcv, hasPair_ok A, bsome]
  dsimp only
  rw [show inB (nI j) 0 (nI n - 2) = 1 from inB_in (c := 1) hj (by omega), if_neg (by decide), A.g1, bsome, A.as (by omega), bsome, bsome, bsome, nI_1, A.as (by omega), bsome, A.ws (by omega), bsome]
  have A1 := A.set (lv, updN sv j (sv (j + 1)), n, y, d)
  rw [A1.g1, bsome, A1.ws (by omega), bsome, bnSet_bn A.len]
  rfl
theorem swapAt_out (A : bnAt h b (lv, sv, n, y, d)) (hn : n ≤ 6) {x : Int32} (q : ∀ j, j + 1 < n → x ≠ nI j) : m_X0_swapAt b x h = some h := by
  unfold m_X0_swapAt
  rw [A.rcv, hasPair_ok A, bsome]
  dsimp only
  rw [show inB x 0 (nI n - 2) = 0 from inB_out (c := 1) (by omega) (by decide) q, if_pos rfl]
  rfl
theorem seatLast_ok (A : bnAt h b (lv, sv, n, y, d)) (hn : n < 6) {m l : Nat} (hm : m < 6) : m_X0_seatLast b (nI m) (nI l) h = some (bnSet h b (updN lv m l, updN sv n m, n + 1, y, d)) := by
  unfold m_X0_seatLast
  rw [A.g2, bsome, if_neg (show ¬ (6 : Int32) ≤ nI n from Lge 6 hn (by decide)), A.g0, bsome, A.wl hm, bsome]
  have A1 := A.set (updN lv m l, sv, n, y, d)
  rw [A1.g1, bsome, A1.g2, bsome, A1.ws hn, bsome, bnSet_bn A.len]
  have A2 := A.set (updN lv m l, updN sv n m, n, y, d)
  rw [A2.g2, bsome, nI_1, A2.p2, bsome, bnSet_bn A.len]
  rfl
end BN3
/-! A YEAR, as the class does it -/
def yrL (kd sb : Nat → Nat) (y n : Nat) : Nat → Nat → Nat → Option Nat → (Nat → Nat) → (Nat → Nat) → (Nat → Nat) × (Nat → Nat) × Nat
  | 0, _, l, _, lv, sv => (lv, sv, l)
  | t + 1, k, l, bf, lv, sv =>
    if lv (sv k) - lossN kd sb y (sv k) bf (afO sv n k) = 0 then yrL kd sb y n t (k + 1) l (some (sv k)) (updN lv (sv k) (lv (sv k) - lossN kd sb y (sv k) bf (afO sv n k))) sv
    else yrL kd sb y n t (k + 1) (l + 1) (some (sv k)) (updN lv (sv k) (lv (sv k) - lossN kd sb y (sv k) bf (afO sv n k))) (updN sv l (sv k))
set_option maxHeartbeats 1000000 in
theorem passYear_loop {b r nr n y : Nat} {kd sb : Nat → Nat} {pl : Nat → Nat → Nat} {d : Int32} (hd : b + 3 ≤ r ∨ r + 7 ≤ b) (hn : n ≤ 6) (hy : y < 2 ^ 30) (hk : ∀ m, m < 6 → kd m < 5) (hb : ∀ m, m < 6 → sb m < 64) : ∀ (t k l f : Nat) (bf : Option Nat) (h : bb_H) (lv sv : Nat → Nat), k + t = n → l ≤ k → t < f → (∀ i, i < n → sv i < 6) → (∀ m, m < 6 → lv m < 2 ^ 30) → (∀ q, bf = some q → q < 6) → bnAt h b (lv, sv, n, y, d) → rlAt h r (nr, kd, pl, sb) →
    m_X0_passYear_15 f b r (nI n - 1) (nI l) (nI (setO bf)) (nI k) h = some (bnSet h b ((yrL kd sb y n t k l bf lv sv).1, (yrL kd sb y n t k l bf lv sv).2.1, (yrL kd sb y n t k l bf lv sv).2.2, y + 1, d)) := by
  intro t
  induction t with
  | zero =>
    intro k l f bf h lv sv hkt hl hf hs hlv hbf A R
    obtain ⟨g, rfl⟩ := fuel_s hf
    unfold m_X0_passYear_15
    rw [if_pos (Int32.lt_iff_toInt_lt.mpr (by rw [sub1I (by omega), nI_toInt (by omega)]; omega)), A.p2, bsome]
    have A1 := A.set (lv, sv, l, y, d)
    rw [A1.g3, bsome, nI_1, A1.p3, bsome, bnSet_bn A.len]
    rfl
  | succ t ih =>
    intro k l f bf h lv sv hkt hl hf hs hlv hbf A R
    obtain ⟨g, rfl⟩ := fuel_s hf
    have hsk := hs k (by omega)
    have hlk := hlv _ hsk
    have hlo := lossN_le kd sb y (sv k) bf (afO sv n k)
    -- the neighbour behind
    have key : m_X0_passYear_15 (g + 1) b r (nI n - 1) (nI l) (nI (setO bf)) (nI k) h = m_X0_passYear_51 (m_X0_passYear_15 g) b r (nI n - 1) (nI l) (nI (setO bf)) (nI k) (nI (sv k)) (nI (setO (afO sv n k))) h := by
      conv => lhs; unfold m_X0_passYear_15
      rw [if_neg (fun z => by
        have z1 := Int32.lt_iff_toInt_lt.mp z
        rw [sub1I (by omega), nI_toInt (by omega)] at z1
        omega), A.g1, bsome, A.as (by omega), bsome]
      unfold afO
      by_cases q : k + 1 < n
      · rw [if_neg (fun z => by
          have z1 := Int32.le_iff_toInt_le.mp z
          rw [sub1I (by omega), nI_toInt (by omega)] at z1
          omega), bsome, nI_1, A.as (by omega), bsome, one_shl (by have := hs (k + 1) q; omega), if_pos q]
        rfl
      · rw [if_pos (Int32.le_iff_toInt_le.mpr (by rw [sub1I (by omega), nI_toInt (by omega)]; omega)), if_neg q]
        rfl
    rw [key]
    unfold m_X0_passYear_51
    rw [A.g0, bsome, bsome, A.al hsk, bsome, A.g3, bsome, R.rcv, lossOf_ok R hsk (by omega) (hk _ hsk) (hb _ hsk) bf _ hbf (afO_lt hs), bsome]
    dsimp only
    rw [max0 (by omega) (by omega), A.wl hsk, bsome]
    have A1 := A.set (updN lv (sv k) (lv (sv k) - lossN kd sb y (sv k) bf (afO sv n k)), sv, n, y, d)
    rw [A1.g0, bsome, A1.al hsk, bsome, updN_s, le0 (by omega)]
    have hlv2 : ∀ m, m < 6 → updN lv (sv k) (lv (sv k) - lossN kd sb y (sv k) bf (afO sv n k)) m < 2 ^ 30 := fun m hm => by
      unfold updN
      split
      · omega
      · exact hlv m hm
    show _ = some (bnSet h b ((if _ then _ else _ : (Nat → Nat) × (Nat → Nat) × Nat).1, (if _ then _ else _ : (Nat → Nat) × (Nat → Nat) × Nat).2.1, (if _ then _ else _ : (Nat → Nat) × (Nat → Nat) × Nat).2.2, y + 1, d))
    by_cases q : lv (sv k) - lossN kd sb y (sv k) bf (afO sv n k) = 0
    · rw [if_pos q, if_pos q]
      unfold m_X0_passYear_107
      rw [nI_1, one_shl (by omega), show nI (2 ^ sv k) = nI (setO (some (sv k))) from rfl, ih (k + 1) l g (some (sv k)) _ _ sv (by omega) (by omega) (by omega) hs hlv2 (fun z e => by cases e; exact hsk) A1 (R.bn hd), bnSet_bn A.len]
    · rw [if_neg q, if_neg q, A1.g1, bsome, A1.ws (by omega), bsome, bnSet_bn A.len]
      have A2 := A.set (updN lv (sv k) (lv (sv k) - lossN kd sb y (sv k) bf (afO sv n k)), updN sv l (sv k), n, y, d)
      unfold m_X0_passYear_107
      rw [nI_1, nI_1, one_shl (by omega), show nI (2 ^ sv k) = nI (setO (some (sv k))) from rfl, ih (k + 1) (l + 1) g (some (sv k)) _ _ (updN sv l (sv k)) (by omega) (by omega) (by omega) (fun i hi => by
        unfold updN
        split
        · exact hsk
        · exact hs i hi) hlv2 (fun z e => by cases e; exact hsk) A2 (R.bn hd), bnSet_bn A.len]
/-- a year over a bench -/
def yrB (kd sb : Nat → Nat) (B : Bn) : Bn := ((yrL kd sb B.2.2.2.1 B.2.2.1 B.2.2.1 0 0 none B.1 B.2.1).1, (yrL kd sb B.2.2.2.1 B.2.2.1 B.2.2.1 0 0 none B.1 B.2.1).2.1, (yrL kd sb B.2.2.2.1 B.2.2.1 B.2.2.1 0 0 none B.1 B.2.1).2.2, B.2.2.2.1 + 1, B.2.2.2.2)
theorem passYear_ok {h : bb_H} {b r nr : Nat} {kd sb : Nat → Nat} {pl : Nat → Nat → Nat} {B : Bn} (hd : b + 3 ≤ r ∨ r + 7 ≤ b) (hn : B.2.2.1 ≤ 6) (hy : B.2.2.2.1 < 2 ^ 30) (hk : ∀ m, m < 6 → kd m < 5) (hb : ∀ m, m < 6 → sb m < 64) (hs : ∀ i, i < B.2.2.1 → B.2.1 i < 6) (hlv : ∀ m, m < 6 → B.1 m < 2 ^ 30) (A : bnAt h b B) (R : rlAt h r (nr, kd, pl, sb)) : m_X0_passYear b r h = some (bnSet h b (yrB kd sb B)) := by
  obtain ⟨lv, sv, n, y, d⟩ := B
  unfold m_X0_passYear
  rw [A.g2, bsome]
  exact passYear_loop hd hn hy hk hb n 0 0 1000 none h lv sv (Nat.zero_add n) (Nat.le_refl _) (Nat.lt_of_le_of_lt (show n ≤ 6 from hn) (by decide)) hs hlv (fun q e => by cases e) A R
