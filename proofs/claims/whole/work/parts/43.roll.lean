/-! numbers -/
theorem sh_l : ∀ n, n < 32 → ((nI n &&& 31).toBitVec.smod 32).toNat = n := by decide +kernel
theorem or_nI (a b : Nat) : nI a ||| nI b = nI (a ||| b) := by
  apply Int32.toBitVec_inj.1
  show BitVec.ofNat 32 a ||| BitVec.ofNat 32 b = BitVec.ofNat 32 (a ||| b)
  apply BitVec.eq_of_getLsbD_eq
  intro i hi
  simp [hi]
theorem and_nI (a b : Nat) : nI a &&& nI b = nI (a &&& b) := by
  apply Int32.toBitVec_inj.1
  show BitVec.ofNat 32 a &&& BitVec.ofNat 32 b = BitVec.ofNat 32 (a &&& b)
  apply BitVec.eq_of_getLsbD_eq
  intro i hi
  simp [hi]
theorem one_shl {q : Nat} (h : q < 31) : (1 : Int32) <<< (nI q &&& 31) = nI (2 ^ q) := by
  have h2 : (2 : Nat) ^ q < 2 ^ 31 := Nat.pow_lt_pow_right (by decide) h
  have e := pk_shlN (n := 1) (nI q &&& 31) q (sh_l q (by omega)) (by omega)
  rw [Nat.one_mul] at e
  exact e
theorem bit_nI {s q : Nat} (hs : s < 2 ^ 31) (hq : q < 31) : (nI s >>> (nI q &&& 31)) &&& 1 = nI (if s.testBit q then 1 else 0) := by
  have h1 : s / 2 ^ q ≤ s := Nat.div_le_self _ _
  rw [pk_shrN hs (nI q &&& 31) q (sh_l q (by omega)), pk_andN (by omega) 1 (by decide)]
  congr 1
  rw [Nat.testBit_eq_decide_div_mod_eq]
  have : s / 2 ^ q % 2 ^ 1 < 2 := Nat.mod_lt _ (by decide)
  by_cases e : s / 2 ^ q % 2 = 1
  · simp [e]
  · have e0 : s / 2 ^ q % 2 = 0 := by omega
    simp [e0]
theorem hasB_nI {s q : Nat} (hs : s < 2 ^ 31) (hq : q < 31) : hasB (nI s) (nI q) = nI (if s.testBit q then 1 else 0) := by
  unfold hasB
  rw [bit_nI hs hq]
  by_cases e : s.testBit q = true
  · rw [if_pos e]; rfl
  · rw [if_neg e]; rfl
theorem max0 {a b : Nat} (ha : a < 2 ^ 30) (hb : b < 2 ^ 30) : bb_max 0 (nI a - nI b) = nI (a - b) := by
  unfold bb_max
  by_cases q : b ≤ a
  · rw [pk_sub q]
    by_cases z : a - b = 0
    · rw [z, if_neg (show ¬ (0 : Int32) < nI 0 by decide)]; rfl
    · rw [if_pos (show (0 : Int32) < nI (a - b) from nI_lt (a := 0) (by omega) (by omega))]
  · have h1 := pk_sneg hb (show a < b by omega)
    rw [if_neg (fun z => by
      have z1 := Int32.lt_iff_toInt_lt.mp z
      have z2 := Int32.lt_iff_toInt_lt.mp h1
      omega), show a - b = 0 by omega]
    rfl
theorem le0 {α : Type} {a : Nat} (ha : a < 2 ^ 31) (x y : α) : (if nI a ≤ 0 then x else y) = if a = 0 then x else y := by
  have e := ite_le (a := a) (b := 0) ha (by decide) x y
  rw [show nI 0 = (0 : Int32) from rfl] at e
  rw [e]
  by_cases q : a = 0
  · rw [if_pos q, if_pos (by omega)]
  · rw [if_neg q, if_neg (by omega)]
theorem ite_par {α : Type} {y : Nat} (h : y < 2 ^ 31) (a b : α) : (if (nI y - nI y / 2 * 2) = 0 then a else b) = if y % 2 = 0 then a else b := by
  have e : nI y - nI y / 2 * 2 = nI (y % 2) := pk_rem (d := 2) h (by decide) (by decide)
  rw [e]
  have e2 := ite_e (a := y % 2) (b := 0) (by omega) (by decide) a b
  exact e2
def encO : Option Nat → Int32
  | none => -1
  | some q => nI q
theorem nI_m1 {q : Nat} (h : q < 2 ^ 31) : ¬ nI q = -1 := nI_neg_ne (b := 1) h (by decide) (by decide)
/-- a set of one, or of nobody -/
def setO : Option Nat → Nat
  | none => 0
  | some q => 2 ^ q
theorem two6 : ∀ q, q < 6 → 0 < 2 ^ q ∧ 2 ^ q < 64 := by decide
theorem setO_lt {o : Option Nat} (ho : ∀ q, o = some q → q < 6) : setO o < 64 := by
  cases o with
  | none => exact (by decide : 0 < 64)
  | some q => exact (two6 q (ho q rfl)).2
theorem setO_ne {q : Nat} (h : q < 6) : ¬ setO (some q) = 0 := by
  have := (two6 q h).1
  show ¬ 2 ^ q = 0
  omega
/-! how many are in a set -/
def onL (w : Nat) : Nat → Nat → Nat → Nat
  | _, 0, a => a
  | j, k + 1, a => onL w (j + 1) k (a + if w.testBit j then 1 else 0)
def pc6 (w : Nat) : Nat := onL w 0 6 0
set_option maxRecDepth 100000 in
theorem bitCount_v : ∀ w, w < 64 → (m_J6_bitCount_0f7a4 (nI w) []).map Prod.fst = some (nI (pc6 w)) := by decide +kernel
theorem bitCount_ok {w : Nat} (hw : w < 64) (h : bb_H) : m_J6_bitCount_0f7a4 (nI w) h = some (nI (pc6 w), h) := by
  have e := bitCount_v w hw
  unfold m_J6_bitCount_0f7a4 at e ⊢
  rw [bsome, bsome] at e ⊢
  have e2 := Option.some.inj e
  exact congrArg (fun z => some (z, h)) e2
theorem pc6_7 : ∀ w, w < 64 → pc6 w < 7 := by decide +kernel
/-! THE ROLL: how many men, kinds, places, who stood by whom (sets) -/
abbrev Rl : Type := Nat × (Nat → Nat) × (Nat → Nat → Nat) × (Nat → Nat)
def rlO (r : Nat) (R : Rl) : bb_C := (.inr 3, [.int (nI R.1), .ref (r + 1), .ref (r + 2), .ref (r + 6)])
def rlAt (h : bb_H) (r : Nat) (R : Rl) : Prop := h[r]? = some (rlO r R) ∧ h[r + 1]? = some (.inl .int, fnI 6 (nF R.2.1)) ∧ h[r + 2]? = some (.inl (.array .int), [.ref (r + 3), .ref (r + 4), .ref (r + 5)]) ∧ h[r + 3]? = some (.inl .int, fnI 6 (nF (R.2.2.1 0))) ∧ h[r + 4]? = some (.inl .int, fnI 6 (nF (R.2.2.1 1))) ∧ h[r + 5]? = some (.inl .int, fnI 6 (nF (R.2.2.1 2))) ∧ h[r + 6]? = some (.inl .int, fnI 6 (nF R.2.2.2))
section RLA
variable {h : bb_H} {r n : Nat} {kd sb : Nat → Nat} {pl : Nat → Nat → Nat}
theorem rlAt.keep {R : Rl} (A : rlAt h r R) {h' : bb_H} (hk : ∀ i, r ≤ i → i < r + 7 → h'[i]? = h[i]?) : rlAt h' r R := ⟨by rw [hk r (by omega) (by omega)]; exact A.1, by rw [hk _ (by omega) (by omega)]; exact A.2.1, by rw [hk _ (by omega) (by omega)]; exact A.2.2.1, by rw [hk _ (by omega) (by omega)]; exact A.2.2.2.1, by rw [hk _ (by omega) (by omega)]; exact A.2.2.2.2.1, by rw [hk _ (by omega) (by omega)]; exact A.2.2.2.2.2.1, by rw [hk _ (by omega) (by omega)]; exact A.2.2.2.2.2.2⟩
theorem rlAt.bn {R : Rl} {b : Nat} {B : Bn} (A : rlAt h r R) (hd : b + 3 ≤ r ∨ r + 7 ≤ b) : rlAt (bnSet h b B) r R := A.keep (fun i h1 h2 => bnSet_ne (by omega))
theorem rlAt.rcv {R : Rl} {α : Type} {x : Option α} (A : rlAt h r R) : bb_rcv h r 3 x = x := rcv_of A.1
theorem rlAt.g0 (A : rlAt h r (n, kd, pl, sb)) : bb_gI h r 3 0 = some (nI n) := gI_of A.1 rfl
theorem rlAt.g1 (A : rlAt h r (n, kd, pl, sb)) : bb_gR h r 3 1 = some (r + 1) := gR_of A.1 rfl
theorem rlAt.g2 (A : rlAt h r (n, kd, pl, sb)) : bb_gR h r 3 2 = some (r + 2) := gR_of A.1 rfl
theorem rlAt.g3 (A : rlAt h r (n, kd, pl, sb)) : bb_gR h r 3 3 = some (r + 6) := gR_of A.1 rfl
theorem rlAt.ak (A : rlAt h r (n, kd, pl, sb)) {k : Nat} (hk : k < 6) : bb_aI h (r + 1) .int (nI k) = some (nI (kd k)) := aI_of A.2.1 hk (by decide)
theorem rlAt.ab (A : rlAt h r (n, kd, pl, sb)) {k : Nat} (hk : k < 6) : bb_aI h (r + 6) .int (nI k) = some (nI (sb k)) := aI_of A.2.2.2.2.2.2 hk (by decide)
theorem rlAt.ar (A : rlAt h r (n, kd, pl, sb)) {t : Nat} (ht : t < 3) : bb_aR h (r + 2) (.array .int) (nI t) = some (r + 3 + t) := by
  refine aR_of A.2.2.1 (by omega) ?_
  rcases (show t = 0 ∨ t = 1 ∨ t = 2 by omega) with rfl | rfl | rfl <;> rfl
theorem rlAt.ap (A : rlAt h r (n, kd, pl, sb)) {t k : Nat} (ht : t < 3) (hk : k < 6) : bb_aI h (r + 3 + t) .int (nI k) = some (nI (pl t k)) := by
  rcases (show t = 0 ∨ t = 1 ∨ t = 2 by omega) with rfl | rfl | rfl
  · exact aI_of A.2.2.2.1 hk (by decide)
  · exact aI_of A.2.2.2.2.1 hk (by decide)
  · exact aI_of A.2.2.2.2.2.1 hk (by decide)
def hale (y : Nat) : Nat := if y % 2 = 0 then 2 else 0
def comN (sb : Nat → Nat) (m : Nat) : Option Nat → Nat
  | none => 0
  | some q => if (sb m).testBit q then 1 else 0
theorem comN_le (sb : Nat → Nat) (m : Nat) (o : Option Nat) : comN sb m o ≤ 1 := by
  cases o with
  | none => exact Nat.zero_le _
  | some q =>
    show (if (sb m).testBit q then 1 else 0) ≤ 1
    split <;> omega
def lossN (kd sb : Nat → Nat) (y m : Nat) (bf af : Option Nat) : Nat :=
  if kd m = 1 then hale y else if kd m = 2 then 4 else if kd m = 3 then hale y + (if bf = none ∨ af = none then 1 else 0) else if kd m = 4 then 4 - pc6 (sb m &&& (setO bf ||| setO af)) else 2
theorem lossN_le (kd sb : Nat → Nat) (y m : Nat) (bf af : Option Nat) : lossN kd sb y m bf af ≤ 4 := by
  have h1 : hale y ≤ 2 := by unfold hale; split <;> omega
  unfold lossN
  split
  · omega
  · split
    · omega
    · split
      · split <;> omega
      · split <;> omega
theorem lossHale_ok (r : Nat) (h : bb_H) {y : Nat} (hy : y < 2 ^ 31) : m_X3_lossOfHale r (nI y) h = some (nI (hale y), h) := by
  unfold m_X3_lossOfHale m_X3_lossOfHale_0 m_X3_lossOfHale_11
  rw [ite_par hy]
  unfold hale
  by_cases q : y % 2 = 0
  · rw [if_pos q, if_pos q]; rfl
  · rw [if_neg q, if_neg q]; rfl
theorem lossOf_ok (A : rlAt h r (n, kd, pl, sb)) {m y : Nat} (hm : m < 6) (hy : y < 2 ^ 31) (hk : kd m < 5) (hs : sb m < 64) (bf af : Option Nat) (h1 : ∀ q, bf = some q → q < 6) (h2 : ∀ q, af = some q → q < 6) : m_X3_lossOf r (nI m) (nI y) (nI (setO bf)) (nI (setO af)) h = some (nI (lossN kd sb y m bf af), h) := by
  have b1 := setO_lt h1
  have b2 := setO_lt h2
  unfold m_X3_lossOf lossN
  rw [A.g1, bsome, A.ak hm, bsome]
  change (if nI (kd m) = nI 0 then _ else if nI (kd m) = nI 1 then _ else if nI (kd m) = nI 2 then _ else if nI (kd m) = nI 3 then _ else if nI (kd m) = nI 4 then _ else _) = _
  rw [ite_e (by omega) (by decide), ite_e (by omega) (by decide), ite_e (by omega) (by decide), ite_e (by omega) (by decide), ite_e (by omega) (by decide)]
  have h90 : m_X3_lossOf_90 h = some (nI 2, h) := rfl
  rw [h90]
  simp only [A.rcv, lossHale_ok r h hy, bsome]
  by_cases c0 : kd m = 0
  · rw [if_pos c0, if_neg (show ¬ kd m = 1 by omega), if_neg (show ¬ kd m = 2 by omega), if_neg (show ¬ kd m = 3 by omega), if_neg (show ¬ kd m = 4 by omega)]
  rw [if_neg c0]
  by_cases c1 : kd m = 1
  · rw [if_pos c1, if_pos c1]
  · rw [if_neg c1, if_neg c1]
    by_cases c2 : kd m = 2
    · rw [if_pos c2, if_pos c2]
      rfl
    · rw [if_neg c2, if_neg c2]
      by_cases c3 : kd m = 3
      · rw [if_pos c3, if_pos c3]
        change (if nI (setO bf) = nI 0 then _ else if nI (setO af) = nI 0 then _ else _) = _
        rw [ite_e (by omega) (by decide), ite_e (by omega) (by decide)]
        unfold m_X3_lossOf_62 m_X3_lossOf_67
        cases bf with
        | none =>
          rw [if_pos (show setO none = 0 from rfl), if_pos (Or.inl rfl)]
          exact congrArg (fun z => some (z, h)) (nI_add (hale y) 1)
        | some q =>
          rw [if_neg (setO_ne (h1 q rfl))]
          cases af with
          | none =>
            rw [if_pos (show setO none = 0 from rfl), if_pos (Or.inr rfl)]
            exact congrArg (fun z => some (z, h)) (nI_add (hale y) 1)
          | some q2 =>
            rw [if_neg (setO_ne (h2 q2 rfl)), if_neg (fun z => by rcases z with z | z <;> cases z)]
            exact congrArg (fun z => some (z, h)) (nI_add (hale y) 0)
      · rw [if_neg c3, if_neg c3]
        by_cases c4 : kd m = 4
        · have hw : sb m &&& (setO bf ||| setO af) ≤ sb m := Nat.and_le_left
          have h7 := pc6_7 (sb m &&& (setO bf ||| setO af)) (by omega)
          rw [if_pos c4, if_pos c4, A.g3, bsome, A.ab hm, bsome, or_nI, and_nI, bitCount_ok (by omega), bsome]
          show some (bb_max 0 (nI 4 - nI (pc6 (sb m &&& (setO bf ||| setO af)))), h) = _
          rw [max0 (by decide) (by omega)]
        · rw [if_neg c4, if_neg c4]
end RLA
