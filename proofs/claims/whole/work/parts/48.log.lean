/-! years one by one; by draw; seated anew; the log; the state -/
def yrs (kd sb : Nat → Nat) : Nat → Bn → Bn
  | 0, B => B
  | t + 1, B => yrs kd sb t (yrB kd sb B)
/-- a bench that can be looked at -/
def okB (B : Bn) : Prop := B.2.2.1 ≤ 6 ∧ B.2.2.2.1 < 100000 ∧ (∀ i, i < B.2.2.1 → B.2.1 i < 6) ∧ (∀ m, m < 6 → B.1 m < 100)
def okR (R : Rl) : Prop := R.1 ≤ 6 ∧ (∀ m, m < 6 → R.2.1 m < 5) ∧ (∀ t, t < 3 → ∀ m, m < 6 → R.2.2.1 t m < 10) ∧ (∀ m, m < 6 → R.2.2.2 m < 64)
theorem yrL_ok (kd sb : Nat → Nat) (y n : Nat) : ∀ (t k l : Nat) (bf : Option Nat) (lv sv : Nat → Nat), k + t = n → l ≤ k → (∀ i, i < n → sv i < 6) → (∀ m, m < 6 → lv m < 100) → (yrL kd sb y n t k l bf lv sv).2.2 ≤ n ∧ (∀ i, i < n → (yrL kd sb y n t k l bf lv sv).2.1 i < 6) ∧ (∀ m, m < 6 → (yrL kd sb y n t k l bf lv sv).1 m < 100) := by
  intro t
  induction t with
  | zero =>
    intro k l bf lv sv h1 h2 h3 h4
    exact ⟨by show l ≤ n; omega, h3, h4⟩
  | succ t ih =>
    intro k l bf lv sv h1 h2 h3 h4
    have h5 : ∀ m, m < 6 → updN lv (sv k) (lv (sv k) - lossN kd sb y (sv k) bf (afO sv n k)) m < 100 := fun m hm => by
      unfold updN
      split
      · have := h4 _ (h3 k (by omega))
        omega
      · exact h4 m hm
    unfold yrL
    split
    · exact ih (k + 1) l _ _ _ (by omega) (by omega) h3 h5
    · refine ih (k + 1) (l + 1) _ _ _ (by omega) (by omega) (fun i hi => ?_) h5
      unfold updN
      split
      · exact h3 k (by omega)
      · exact h3 i hi
theorem okB_yr {kd sb : Nat → Nat} {B : Bn} {y : Nat} (h : okB B) (hy : B.2.2.2.1 < y) (hy2 : y < 100000) : okB (yrB kd sb B) := by
  obtain ⟨h1, h2, h3, h4⟩ := h
  obtain ⟨a, b, c⟩ := yrL_ok kd sb B.2.2.2.1 B.2.2.1 B.2.2.1 0 0 none B.1 B.2.1 (Nat.zero_add _) (Nat.le_refl _) h3 h4
  exact ⟨Nat.le_trans a h1, by show B.2.2.2.1 + 1 < 100000; omega, fun i hi => b i (Nat.lt_of_lt_of_le hi a), c⟩
theorem yr_ok {h : bb_H} {b r : Nat} {R : Rl} {B : Bn} (hd : b + 3 ≤ r ∨ r + 7 ≤ b) (hR : okR R) (hB : okB B) (A : bnAt h b B) (AR : rlAt h r R) : m_X0_passYear b r h = some (bnSet h b (yrB R.2.1 R.2.2.2 B)) := by
  obtain ⟨n, kd, pl, sb⟩ := R
  obtain ⟨h1, h2, h3, h4⟩ := hB
  exact passYear_ok hd h1 (by omega) hR.2.1 hR.2.2.2 h3 (fun m hm => by have := h4 m hm; omega) A AR
theorem yrs_loop {b r : Nat} {R : Rl} (hd : b + 3 ≤ r ∨ r + 7 ≤ b) (hR : okR R) {n : Nat} (hn : n < 1000) : ∀ (t j f : Nat) (h : bb_H) (B : Bn), j + t = n → t < f → okB B → B.2.2.2.1 + t < 100000 → bnAt h b B → rlAt h r R → m_X0_passYears_2 f b (nI n) r (nI j) h = some (bnSet h b (yrs R.2.1 R.2.2.2 t B)) := by
  intro t
  induction t with
  | zero =>
    intro j f h B hj hf hB hy A AR
    obtain ⟨g, rfl⟩ := fuel_s hf
    unfold m_X0_passYears_2
    rw [if_pos (nI_le (by omega) (by omega))]
    exact congrArg some A.eq.symm
  | succ t ih =>
    intro j f h B hj hf hB hy A AR
    obtain ⟨g, rfl⟩ := fuel_s hf
    unfold m_X0_passYears_2
    rw [if_neg (nI_ge (by omega) (by omega)), A.rcv, yr_ok hd hR hB A AR, bsome, nI_1, ih (j + 1) g _ (yrB R.2.1 R.2.2.2 B) (by omega) (by omega) (okB_yr hB (Nat.lt_succ_self _) (by omega)) (by show B.2.2.2.1 + 1 + t < 100000; omega) (A.set _) (AR.bn hd), bnSet_bn A.len]
    rfl
theorem yrs_ok {h : bb_H} {b r : Nat} {R : Rl} {B : Bn} (hd : b + 3 ≤ r ∨ r + 7 ≤ b) (hR : okR R) (hB : okB B) {n : Nat} (hn : n < 1000) (hy : B.2.2.2.1 + n < 100000) (A : bnAt h b B) (AR : rlAt h r R) : m_X0_passYears b (nI n) r h = some (bnSet h b (yrs R.2.1 R.2.2.2 n B)) := yrs_loop hd hR hn n 0 1000 h B (Nat.zero_add _) hn hB hy A AR
/-! by draw -/
def drN (d : Int32) : Int32 := ((d * 1103515245) + 12345) &&& 2147483647
theorem drN_nn (d : Int32) : ∃ k, k < 2 ^ 31 ∧ drN d = nI k := by
  refine nI_of ?_
  unfold drN
  generalize (d * 1103515245) + 12345 = x
  intro z
  have z1 := Int32.lt_iff_toInt_lt.mp z
  have z2 : (x &&& 2147483647).toInt = (x.toBitVec &&& 2147483647#32).toInt := rfl
  rw [z2] at z1
  have z3 : (x.toBitVec &&& 2147483647#32).msb = false := by
    rw [BitVec.msb_and]
    have : (2147483647#32).msb = false := by decide
    rw [this, Bool.and_false]
  have z4 := BitVec.toInt_eq_toNat_of_msb z3
  rw [z4] at z1
  have z5 : (0 : Int32).toInt = 0 := rfl
  rw [z5] at z1
  omega
def drK (d : Int32) : Nat := (drN d).toNatClampNeg
theorem drK_eq (d : Int32) : drN d = nI (drK d) ∧ drK d < 2 ^ 31 := by
  obtain ⟨k, hk, e⟩ := drN_nn d
  unfold drK
  rw [e, nI_clamp hk]
  exact ⟨rfl, hk⟩
/-- the place of the draw's move -/
def drP (d : Int32) (n : Nat) : Nat := drK d / 65536 % (n - 1)
def mvB (B : Bn) : Bn := (B.1, if 2 ≤ B.2.2.1 then swN B.2.1 (drP B.2.2.2.2 B.2.2.1) else B.2.1, B.2.2.1, B.2.2.2.1, drN B.2.2.2.2)
theorem dr_idx {n : Nat} (h2 : 2 ≤ n) (hn : n ≤ 6) (d : Int32) : (drN d / 65536) - (drN d / 65536) / (nI n - 1) * (nI n - 1) = nI (drP d n) ∧ drP d n + 1 < n := by
  obtain ⟨e, hk⟩ := drK_eq d
  have e1 : nI n - 1 = nI (n - 1) := pk_sub (b := 1) (by omega)
  have e2 : nI (drK d) / 65536 = nI (drK d / 65536) := pk_div (d := 65536) hk (by decide) (by decide)
  have h3 : drK d / 65536 < 2 ^ 31 := Nat.lt_of_le_of_lt (Nat.div_le_self _ _) hk
  rw [e, e1, e2, pk_rem h3 (by omega) (by omega)]
  have : drK d / 65536 % (n - 1) < n - 1 := Nat.mod_lt _ (by omega)
  exact ⟨rfl, by unfold drP; omega⟩
theorem moveDraw_ok {h : bb_H} {b : Nat} {B : Bn} (hB : okB B) (A : bnAt h b B) : m_X0_moveByDraw b h = some (bnSet h b (mvB B)) := by
  obtain ⟨lv, sv, n, y, d⟩ := B
  have hn : n ≤ 6 := hB.1
  unfold m_X0_moveByDraw mvB
  dsimp only
  rw [A.g4, bsome, A.p4, bsome]
  have A1 := A.set (lv, sv, n, y, drN d)
  rw [show ((d * 1103515245) + 12345) &&& 2147483647 = drN d from rfl, A1.g2, bsome]
  by_cases q : 2 ≤ n
  · obtain ⟨e1, e2⟩ := dr_idx q hn d
    rw [if_neg (show ¬ nI n < (2 : Int32) from fun z => absurd ((nI_ltI (b := 2) (by omega) (by decide)).mp z) (by omega)), A1.g4, bsome, bsome, if_neg (show ¬ nI n - 1 = (0 : Int32) from fun z => by
      rw [show nI n - 1 = nI (n - 1) from pk_sub (b := 1) (by omega)] at z
      have := (nI_eq (b := 0) (by omega) (by decide)).mp z
      omega), e1, A1.rcv, swapAt_in A1 hn e2, bsome, bnSet_bn A.len, if_pos q]
    rfl
  · rw [if_pos (show nI n < (2 : Int32) from nI_lt (b := 2) (by omega) (by decide)), if_neg q]
    rfl
/-! seated anew -/
theorem seatAll_loop {a b : Nat} {f6 : Nat → Nat} {y N : Nat} {d : Int32} (hd : a < b ∨ b + 3 ≤ a) (hN : N ≤ 6) : ∀ (k j f : Nat) (h : bb_H) (lv sv : Nat → Nat), j + k = N → k < f → bnAt h b (cpyN f6 lv j, cpyN (fun i => i) sv j, j, y, d) → h[a]? = some (.inl .int, fnI 6 (nF f6)) → m_X0_seatAll_12 f b (nI N) a (nI j) h = some (bnSet h b (cpyN f6 lv N, cpyN (fun i => i) sv N, N, y, d)) := by
  intro k
  induction k with
  | zero =>
    intro j f h lv sv hj hf A V
    obtain ⟨g, rfl⟩ := fuel_s hf
    obtain rfl : j = N := by omega
    unfold m_X0_seatAll_12
    rw [if_pos (nI_le (by omega) (by omega)), A.eq]
  | succ k ih =>
    intro j f h lv sv hj hf A V
    obtain ⟨g, rfl⟩ := fuel_s hf
    unfold m_X0_seatAll_12
    have e := seatLast_ok A (show j < 6 by omega) (m := j) (l := f6 j) (by omega)
    rw [cpyN_s, show updN (cpyN (fun i => i) sv j) j j = cpyN (fun i => i) sv (j + 1) from cpyN_s (fun i => i) sv j] at e
    rw [if_neg (nI_ge (by omega) (by omega)), aI_of V (by omega) (by decide), bsome, A.rcv, show nF f6 j = nI (f6 j) from rfl, e, bsome, nI_1, ih (j + 1) g _ lv sv (by omega) (by omega) (A.set _) (by rw [bnSet_ne (by omega)]; exact V), bnSet_bn A.len]
theorem seatAll_ok {h : bb_H} {a b N n y : Nat} {f6 lv sv : Nat → Nat} {d : Int32} (hd : a < b ∨ b + 3 ≤ a) (hN : N ≤ 6) (A : bnAt h b (lv, sv, n, y, d)) (V : h[a]? = some (.inl .int, fnI 6 (nF f6))) : m_X0_seatAll b (nI N) a h = some (bnSet h b (cpyN f6 lv N, cpyN (fun i => i) sv N, N, 0, d)) := by
  unfold m_X0_seatAll
  rw [show (0 : Int32) = nI 0 from rfl, A.p2, bsome]
  have A1 := A.set (lv, sv, 0, y, d)
  rw [A1.p3, bsome, bnSet_bn A.len, seatAll_loop hd hN N 0 1000 _ lv sv (by omega) (by omega) (A.set (lv, sv, 0, 0, d)) (by rw [bnSet_ne (by omega)]; exact V), bnSet_bn A.len]
theorem seatAs_loop {a b n y : Nat} {f6 lv : Nat → Nat} {d : Int32} (hd : a < b ∨ b + 3 ≤ a) (hn : n ≤ 6) : ∀ (k j f : Nat) (h : bb_H) (sv : Nat → Nat), j + k = n → k < f → bnAt h b (lv, cpyN f6 sv j, n, y, d) → h[a]? = some (.inl .int, fnI 6 (nF f6)) → m_X0_seatAs_2 f b a (nI j) h = some (bnSet h b (lv, cpyN f6 sv n, n, y, d)) := by
  intro k
  induction k with
  | zero =>
    intro j f h sv hj hf A V
    obtain ⟨g, rfl⟩ := fuel_s hf
    obtain rfl : j = n := by omega
    unfold m_X0_seatAs_2
    rw [A.g2, bsome, if_pos (nI_le (by omega) (by omega)), A.eq]
  | succ k ih =>
    intro j f h sv hj hf A V
    obtain ⟨g, rfl⟩ := fuel_s hf
    unfold m_X0_seatAs_2
    rw [A.g2, bsome, if_neg (nI_ge (by omega) (by omega)), A.g1, bsome, aI_of V (by omega) (by decide), bsome, show nF f6 j = nI (f6 j) from rfl, A.ws (by omega), bsome, cpyN_s, nI_1, ih (j + 1) g _ sv (by omega) (by omega) (A.set _) (by rw [bnSet_ne (by omega)]; exact V), bnSet_bn A.len]
theorem seatAs_ok {h : bb_H} {a b n y : Nat} {f6 lv sv : Nat → Nat} {d : Int32} (hd : a < b ∨ b + 3 ≤ a) (hn : n ≤ 6) (A : bnAt h b (lv, sv, n, y, d)) (V : h[a]? = some (.inl .int, fnI 6 (nF f6))) : m_X0_seatAs b a h = some (bnSet h b (lv, cpyN f6 sv n, n, y, d)) := by
  unfold m_X0_seatAs
  refine seatAs_loop hd hn n 0 1000 h sv (by omega) (by omega) ?_ V
  exact A
/-! the log -/
section LOG
variable {s k : St} {kf : Int32} {T : Tp} {X : Nat → Sh} {tr : Bn} {gu : Rl} {O : Od} {ch : Nat → Nat}
theorem cases8 {j : Nat} (h : j < 8) : j = 0 ∨ j = 1 ∨ j = 2 ∨ j = 3 ∨ j = 4 ∨ j = 5 ∨ j = 6 ∨ j = 7 := by omega
theorem cBL {j : Nat} (h : j < 8) : bnAt (chp s k kf T X tr gu O ch) (14 + 3 * j) (s.2.2.2.2 j) := by
  rcases cases8 h with rfl | rfl | rfl | rfl | rfl | rfl | rfl | rfl <;> exact ⟨rfl, rfl, rfl⟩
theorem cBK {j : Nat} (h : j < 8) : bnAt (chp s k kf T X tr gu O ch) (51 + 3 * j) (k.2.2.2.2 j) := by
  rcases cases8 h with rfl | rfl | rfl | rfl | rfl | rfl | rfl | rfl <;> exact ⟨rfl, rfl, rfl⟩
theorem sBL {j : Nat} (h : j < 8) (B : Bn) : bnSet (chp s k kf T X tr gu O ch) (14 + 3 * j) B = chp (s.1, s.2.1, s.2.2.1, s.2.2.2.1, updN s.2.2.2.2 j B) k kf T X tr gu O ch := by
  rcases cases8 h with rfl | rfl | rfl | rfl | rfl | rfl | rfl | rfl <;> rfl
theorem sBK {j : Nat} (h : j < 8) (B : Bn) : bnSet (chp s k kf T X tr gu O ch) (51 + 3 * j) B = chp s (k.1, k.2.1, k.2.2.1, k.2.2.2.1, updN k.2.2.2.2 j B) kf T X tr gu O ch := by
  rcases cases8 h with rfl | rfl | rfl | rfl | rfl | rfl | rfl | rfl <;> rfl
theorem cL13 {j : Nat} (h : j < 8) : bb_aR (chp s k kf T X tr gu O ch) 13 (.object "BattleBench$Bench") (nI j) = some (14 + 3 * j) := by
  refine aR_of (vs := [.ref 14, .ref 17, .ref 20, .ref 23, .ref 26, .ref 29, .ref 32, .ref 35]) rfl (by omega) ?_
  rcases cases8 h with rfl | rfl | rfl | rfl | rfl | rfl | rfl | rfl <;> rfl
theorem cL50 {j : Nat} (h : j < 8) : bb_aR (chp s k kf T X tr gu O ch) 50 (.object "BattleBench$Bench") (nI j) = some (51 + 3 * j) := by
  refine aR_of (vs := [.ref 51, .ref 54, .ref 57, .ref 60, .ref 63, .ref 66, .ref 69, .ref 72]) rfl (by omega) ?_
  rcases cases8 h with rfl | rfl | rfl | rfl | rfl | rfl | rfl | rfl <;> rfl
theorem cl0 : bb_gR (chp s k kf T X tr gu O ch) 12 1 0 = some 13 := rfl
theorem cl1 : bb_gI (chp s k kf T X tr gu O ch) 12 1 1 = some (nI s.2.2.1) := rfl
theorem cl2 : bb_gI (chp s k kf T X tr gu O ch) 12 1 2 = some (nI s.2.2.2.1) := rfl
theorem clr {α : Type} {x : Option α} : bb_rcv (chp s k kf T X tr gu O ch) 12 1 x = x := rfl
theorem cp1 (x : Nat) : bb_pI (chp s k kf T X tr gu O ch) 12 1 1 (nI x) = some (chp (s.1, s.2.1, x, s.2.2.2) k kf T X tr gu O ch) := rfl
theorem cp2 (x : Nat) : bb_pI (chp s k kf T X tr gu O ch) 12 1 2 (nI x) = some (chp (s.1, s.2.1, s.2.2.1, x, s.2.2.2.2) k kf T X tr gu O ch) := rfl
theorem ck0 : bb_gR (chp s k kf T X tr gu O ch) 49 1 0 = some 50 := rfl
theorem ck1 : bb_gI (chp s k kf T X tr gu O ch) 49 1 1 = some (nI k.2.2.1) := rfl
theorem ck2 : bb_gI (chp s k kf T X tr gu O ch) 49 1 2 = some (nI k.2.2.2.1) := rfl
theorem ckr {α : Type} {x : Option α} : bb_rcv (chp s k kf T X tr gu O ch) 49 1 x = x := rfl
theorem ckp1 (x : Nat) : bb_pI (chp s k kf T X tr gu O ch) 49 1 1 (nI x) = some (chp s (k.1, k.2.1, x, k.2.2.2) kf T X tr gu O ch) := rfl
theorem ckp2 (x : Nat) : bb_pI (chp s k kf T X tr gu O ch) 49 1 2 (nI x) = some (chp s (k.1, k.2.1, k.2.2.1, x, k.2.2.2.2) kf T X tr gu O ch) := rfl
def lgK (L : Lg) (B : Bn) : Lg := (min 8 (L.1 + 1), (L.2.1 + 1) % 8, updN L.2.2 L.2.1 B)
theorem keep_ok (h1 : s.2.2.1 ≤ 8) (h2 : s.2.2.2.1 < 8) : m_X1_keep 12 9 (chp s k kf T X tr gu O ch) = some (chp (s.1, s.2.1, lgK s.2.2 s.2.1) k kf T X tr gu O ch) := by
  unfold m_X1_keep
  rw [cl0, bsome, cl2, bsome, cL13 h2, bsome, (cBL h2).rcv, takeFrom_ok (by omega) cB9 (cBL h2), bsome, sBL h2, cl2, bsome]
  dsimp only
  rw [nI_1, show nI (s.2.2.2.1 + 1) - nI (s.2.2.2.1 + 1) / 8 * 8 = nI ((s.2.2.2.1 + 1) % 8) from pk_rem (d := 8) (by omega) (by decide) (by decide), cp2, bsome, cl1, bsome]
  dsimp only
  rw [nI_1, show bb_min 8 (nI (s.2.2.1 + 1)) = nI (min 8 (s.2.2.1 + 1)) from min_nI (a := 8) (by decide) (by omega), cp1, bsome]
  rfl
theorem giveBack_ok (h1 : 0 < s.2.2.1) (h3 : s.2.2.1 ≤ 8) (h2 : s.2.2.2.1 < 8) : m_X1_giveBack 12 9 (chp s k kf T X tr gu O ch) = some (chp (s.1, s.2.2.2.2 ((s.2.2.2.1 + 7) % 8), s.2.2.1 - 1, (s.2.2.2.1 + 7) % 8, s.2.2.2.2) k kf T X tr gu O ch) := by
  unfold m_X1_giveBack
  have hm : (s.2.2.2.1 + 7) % 8 < 8 := Nat.mod_lt _ (by decide)
  rw [cl1, bsome, le0 (by omega), if_neg (by omega), cl2, bsome, show nI s.2.2.2.1 + 8 - 1 = nI (s.2.2.2.1 + 7) from by
    rw [show nI s.2.2.2.1 + 8 = nI (s.2.2.2.1 + 8) from nI_add _ 8]
    exact pk_sub (b := 1) (by omega), show nI (s.2.2.2.1 + 7) - nI (s.2.2.2.1 + 7) / 8 * 8 = nI ((s.2.2.2.1 + 7) % 8) from pk_rem (d := 8) (by omega) (by decide) (by decide), cp2, bsome, cl1, bsome]
  dsimp only
  rw [show nI s.2.2.1 - 1 = nI (s.2.2.1 - 1) from pk_sub (b := 1) (by omega), cp1, bsome, cl0, bsome, cl2, bsome]
  dsimp only
  rw [cL13 hm, bsome, (cB9).rcv, takeFrom_ok (by omega) (cBL hm) cB9, bsome, sB9]
  rfl
theorem forget_ok : m_X1_forget 12 (chp s k kf T X tr gu O ch) = some (chp (s.1, s.2.1, 0, s.2.2.2) k kf T X tr gu O ch) := rfl
end LOG
section STK
variable {kf : Int32} {T : Tp} {X : Nat → Sh} {tr : Bn} {gu : Rl} {O : Od} {ch : Nat → Nat}
def cpyB (f g : Nat → Bn) (j : Nat) : Nat → Bn := fun i => if i < j then f i else g i
theorem cpyB_s (f g : Nat → Bn) (j : Nat) : updN (cpyB f g j) j (f j) = cpyB f g (j + 1) := by
  funext i
  unfold updN cpyB
  by_cases e : i = j
  · subst e
    rw [if_pos rfl, if_pos (by omega)]
  · by_cases q : i < j
    · rw [if_neg e, if_pos q, if_pos (by omega)]
    · rw [if_neg e, if_neg q, if_neg (by omega)]
theorem ltake_k {s : St} {Rk : Rl} {Bk : Bn} {kn nx : Nat} {L1 : Nat → Bn} : ∀ (t j f : Nat), j + t = 8 → t < f → m_X1_takeFrom_2 f 49 12 (nI j) (chp s (Rk, Bk, kn, nx, cpyB s.2.2.2.2 L1 j) kf T X tr gu O ch) = some (chp s (Rk, Bk, s.2.2) kf T X tr gu O ch) := by
  intro t
  induction t with
  | zero =>
    intro j f hj hf
    obtain ⟨g, rfl⟩ := fuel_s hf
    obtain rfl : j = 8 := by omega
    unfold m_X1_takeFrom_2
    rw [if_pos (by decide), cl1, bsome, ckp1, bsome, cl2, bsome, ckp2, bsome]
    rfl
  | succ t ih =>
    intro j f hj hf
    obtain ⟨g, rfl⟩ := fuel_s hf
    have hj8 : j < 8 := by omega
    unfold m_X1_takeFrom_2
    rw [if_neg (show ¬ (8 : Int32) ≤ nI j from Lge 8 hj8 (by decide)), ck0, bsome, cL50 hj8, bsome, cl0, bsome, cL13 hj8, bsome, (cBK hj8).rcv, takeFrom_ok (by omega) (cBL hj8) (cBK hj8), bsome, sBK hj8]
    dsimp only
    rw [cpyB_s, nI_1, ih (j + 1) g (by omega) (by omega)]
theorem ltake_s {k : St} {Rs : Rl} {Bs : Bn} {kn nx : Nat} {L1 : Nat → Bn} : ∀ (t j f : Nat), j + t = 8 → t < f → m_X1_takeFrom_2 f 12 49 (nI j) (chp (Rs, Bs, kn, nx, cpyB k.2.2.2.2 L1 j) k kf T X tr gu O ch) = some (chp (Rs, Bs, k.2.2) k kf T X tr gu O ch) := by
  intro t
  induction t with
  | zero =>
    intro j f hj hf
    obtain ⟨g, rfl⟩ := fuel_s hf
    obtain rfl : j = 8 := by omega
    unfold m_X1_takeFrom_2
    rw [if_pos (by decide), ck1, bsome, cp1, bsome, ck2, bsome, cp2, bsome]
    rfl
  | succ t ih =>
    intro j f hj hf
    obtain ⟨g, rfl⟩ := fuel_s hf
    have hj8 : j < 8 := by omega
    unfold m_X1_takeFrom_2
    rw [if_neg (show ¬ (8 : Int32) ≤ nI j from Lge 8 hj8 (by decide)), cl0, bsome, cL13 hj8, bsome, ck0, bsome, cL50 hj8, bsome, (cBL hj8).rcv, takeFrom_ok (by omega) (cBK hj8) (cBL hj8), bsome, sBL hj8]
    dsimp only
    rw [cpyB_s, nI_1, ih (j + 1) g (by omega) (by omega)]
theorem stake_k {s k : St} : m_X5_takeFrom 38 1 (chp s k kf T X tr gu O ch) = some (chp s s kf T X tr gu O ch) := by
  unfold m_X5_takeFrom
  rw [c380, bsome, c10, bsome, (cR39).rcv, rtake_ok (by omega) cR2 cR39, bsome, sR39, c381, bsome, c11, bsome, (cB46).rcv, takeFrom_ok (by omega) cB9 cB46, bsome, sB46, c382, bsome, c12, bsome, ckr]
  unfold m_X1_takeFrom
  rw [show (0 : Int32) = nI 0 from rfl]
  have e := ltake_k (s := s) (Rk := s.1) (Bk := s.2.1) (kn := k.2.2.1) (nx := k.2.2.2.1) (L1 := k.2.2.2.2) (kf := kf) (T := T) (X := X) (tr := tr) (gu := gu) (O := O) (ch := ch) 8 0 1000 rfl (by decide)
  have e2 : m_X1_takeFrom_2 1000 49 12 (nI 0) (chp s (s.1, s.2.1, k.2.2) kf T X tr gu O ch) = some (chp s (s.1, s.2.1, s.2.2) kf T X tr gu O ch) := e
  exact congrArg (fun z => z.bind fun g30 => some g30) e2
theorem stake_s {s k : St} : m_X5_takeFrom 1 38 (chp s k kf T X tr gu O ch) = some (chp k k kf T X tr gu O ch) := by
  unfold m_X5_takeFrom
  rw [c10, bsome, c380, bsome, (cR2).rcv, rtake_ok (by omega) cR39 cR2, bsome, sR2, c11, bsome, c381, bsome, (cB9).rcv, takeFrom_ok (by omega) cB46 cB9, bsome, sB9, c12, bsome, c382, bsome, clr]
  unfold m_X1_takeFrom
  rw [show (0 : Int32) = nI 0 from rfl]
  have e := ltake_s (k := k) (Rs := k.1) (Bs := k.2.1) (kn := s.2.2.1) (nx := s.2.2.2.1) (L1 := s.2.2.2.2) (kf := kf) (T := T) (X := X) (tr := tr) (gu := gu) (O := O) (ch := ch) 8 0 1000 rfl (by decide)
  have e2 : m_X1_takeFrom_2 1000 12 49 (nI 0) (chp (k.1, k.2.1, s.2.2) k kf T X tr gu O ch) = some (chp (k.1, k.2.1, k.2.2) k kf T X tr gu O ch) := e
  exact congrArg (fun z => z.bind fun g30 => some g30) e2
end STK
