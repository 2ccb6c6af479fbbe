/-! THE RELATION of the two heaps -/
def LogE (S : Nat → Int32) (i n : Nat) (B : Bn) : Prop := Mb (fun k => S (40 + 15 * i + k)) n B ∧ Wb n B ∧ B.2.2.2.1 ≤ 9999
def stR (S : Nat → Int32) (s : St) : Prop := Mr S s.1 ∧ Mb S s.1.1 s.2.1 ∧ Wr s.1 ∧ Wb s.1.1 s.2.1 ∧ s.2.1.2.2.2.1 ≤ 9999 ∧ S 40 = nI s.2.2.1 ∧ s.2.2.1 ≤ 8 ∧ s.2.2.2.1 < 8 ∧ ∀ i, i < s.2.2.1 → LogE S i s.1.1 (s.2.2.2.2 ((s.2.2.2.1 + 8 - s.2.2.1 + i) % 8))
def tpR (T : Tp) (M : Mx) : Prop := M.2.2.2.1 = nI T.2.1 ∧ T.2.1 ≤ 70 ∧ (∀ k, k < T.2.1 → M.2.2.1 k = nI (T.1 k) ∧ 32 ≤ T.1 k ∧ T.1 k ≤ 126) ∧ okR T.2.2.1
def shR1 (X : Sh) (j : Nat) (M : Mx) : Prop := (X.1 = 1 ∧ M.2.2.2.2.2.2.2.2.1 j = nI X.2.2.1 ∧ M.2.2.2.2.2.2.2.2.2 j = X.2.1 ∧ X.2.2.1 ≤ 24 ∧ ∀ i, i < 24 → M.2.2.2.2.2.2.1 (24 * j + i) = X.2.2.2 i) ∨ (X.1 = 0 ∧ M.2.2.2.2.2.2.2.2.1 j = -1)
def sdR (k : St) (kf : Int32) (T : Tp) (X : Nat → Sh) (M : Mx) : Prop := M.2.1 = kf ∧ (kf = 0 ∨ (kf = 1 ∧ stR M.1 k)) ∧ tpR T M ∧ ∀ j, j < 4 → shR1 (X j) j M
def RR (hX hM : bb_H) : Prop := ∃ (s k : St) (kf : Int32) (T : Tp) (X : Nat → Sh) (tr : Bn) (gu : Rl) (O : Od) (ch : Nat → Nat) (S Le As Oo : Nat → Int32) (M : Mx), hX = chp s k kf T X tr gu O ch ∧ hM = mh S Le As Oo M ∧ stR S s ∧ sdR k kf T X M
theorem RR_mk {s k : St} {kf : Int32} {T : Tp} {X : Nat → Sh} {tr : Bn} {gu : Rl} {O : Od} {ch : Nat → Nat} {S Le As Oo : Nat → Int32} {M : Mx} (h1 : stR S s) (h2 : sdR k kf T X M) : RR (chp s k kf T X tr gu O ch) (mh S Le As Oo M) := ⟨s, k, kf, T, X, tr, gu, O, ch, S, Le, As, Oo, M, rfl, rfl, h1, h2⟩
theorem rcv_ok : bl_rcv RR := by
  rintro hX hM ⟨s, k, kf, T, X, tr, gu, O, ch, S, Le, As, Oo, M, rfl, rfl, h1, h2⟩
  exact ⟨⟨_, rfl⟩, ⟨_, rfl⟩⟩
theorem okR0 : okR rl0 := ⟨Nat.zero_le _, fun _ _ => Nat.succ_pos 4, fun _ _ _ _ => Nat.succ_pos 9, fun _ _ => Nat.succ_pos 63⟩
theorem R0_ok : RR HX0 HM0 := by
  rw [HX0_eq, HM0_eq]
  refine RR_mk ⟨⟨rfl, fun m hm => by have : m < 0 := hm; omega, fun m hm => by have : m < 0 := hm; omega⟩, ⟨rfl, rfl, rfl, fun m hm => by have : m < 0 := hm; omega, fun m hm => by have : m < 0 := hm; omega⟩, ⟨okR0, fun m hm => by have : m < 0 := hm; omega⟩, ⟨⟨by decide, by decide, fun i hi => by have : i < 0 := hi; omega, fun _ _ => Nat.succ_pos 99⟩, by decide, fun i hi => by have : i < 0 := hi; omega, fun i j hi => by have : i < 0 := hi; omega, fun m hm => by have : m < 0 := hm; omega⟩, by decide, rfl, by decide, by decide, fun i hi => by have : i < 0 := hi; omega⟩ ⟨rfl, Or.inl rfl, ⟨rfl, by decide, fun k hk => by have : k < 0 := hk; omega, okR0⟩, fun j _ => Or.inr ⟨rfl, rfl⟩⟩
theorem logE_cong {S S2 : Nat → Int32} {i n : Nat} {B : Bn} (h : ∀ q, 41 ≤ q → S2 q = S q) (H : LogE S i n B) : LogE S2 i n B := by
  obtain ⟨⟨h1, h2, h3, h4, h5⟩, h6⟩ := H
  refine ⟨⟨?_, ?_, ?_, fun m hm => ?_, fun j hj => ?_⟩, h6⟩
  · show S2 (40 + 15 * i + 1) = _
    rw [h _ (by omega)]; exact h1
  · show S2 (40 + 15 * i + 2) = _
    rw [h _ (by omega)]; exact h2
  · show S2 (40 + 15 * i + 3) = _
    rw [h _ (by omega)]; exact h3
  · show S2 (40 + 15 * i + (4 + m)) = _
    rw [h _ (by omega)]; exact h4 m hm
  · show S2 (40 + 15 * i + (10 + j)) = _
    rw [h _ (by omega)]; exact h5 j hj
/-- is it within these bounds? -/
theorem inB_or (x : Int32) {lo hi : Int32} (a b : Nat) (hl : lo = nI a) (hh : hi = nI b) (ha : a < 2 ^ 30) (hb : b < 2 ^ 30) : inB x lo hi = 0 ∨ ∃ j, a ≤ j ∧ j ≤ b ∧ x = nI j ∧ inB x lo hi = 1 := by
  subst hl
  subst hh
  by_cases q : x < 0
  · refine Or.inl ?_
    unfold inB
    rw [if_pos (Int32.lt_iff_toInt_lt.mpr (by
      have := Int32.lt_iff_toInt_lt.mp q
      rw [nI_toInt (by omega)]
      have z : (0 : Int32).toInt = 0 := rfl
      omega))]
  · obtain ⟨j, hj, rfl⟩ := nI_of q
    unfold inB
    rw [ite_lt hj (by omega), ite_lt (by omega) hj]
    by_cases c1 : j < a
    · exact Or.inl (if_pos c1)
    · rw [if_neg c1]
      by_cases c2 : b < j
      · exact Or.inl (if_pos c2)
      · rw [if_neg c2]
        exact Or.inr ⟨j, by omega, by omega, rfl, rfl⟩
theorem man_or (x : Int32) {n : Nat} (hn : n ≤ 6) : inB x 0 (nI n - 1) = 0 ∨ ∃ j, j < n ∧ x = nI j ∧ inB x 0 (nI n - 1) = 1 := by
  rcases place_or x n with ⟨j, hj, rfl⟩ | q
  · exact Or.inr ⟨j, hj, rfl, inB_in (c := 0) (by omega) (by omega)⟩
  · exact Or.inl (inB_out (c := 0) (by omega) (by decide) (fun j hj => q j (by omega)))
theorem okR_lt {R : Rl} (h : okR R) : ∀ t, t < 3 → ∀ m, m < 6 → R.2.2.1 t m < 100 := fun t ht m hm => by have := h.2.2.1 t ht m hm; omega
theorem one_ne : ¬ (1 : Int32) = 0 := by decide
theorem neg4 : ((-4 : Int32) = -4) = True := by simp
/-! seat, seed, count, of -/
theorem sim_seat_ok : sim_seat RR := by
  intro hX hM x h0
  have h1 := h0
  obtain ⟨s, k, kf, T, X, tr, gu, O, ch, S, Le, As, Oo, M, rfl, rfl, hS, hD⟩ := h1
  obtain ⟨mR, mB, wR, wB, -⟩ := hS
  refine ⟨if 0 ≤ x then onD (-4) s.2.1.2.1 s.2.1.2.2.1 x else -1, _, _, ?_, ?_, h0⟩
  · unfold m_X7_seat m_X7_seat_19
    split
    · rw [c70, bsome, c11, bsome, (cB9).rcv, whoIsOn_ok cB9 wB.1.1, bsome]
    · rfl
  · unfold m_X8_seat m_X8_seat_13
    split
    · rw [g8r, onSeat_ok mB wB.1.1, bsome]
    · rfl
theorem sim_seed_ok : sim_seed RR := by
  intro hX hM x h0
  have h1 := h0
  obtain ⟨s, k, kf, T, X, tr, gu, O, ch, S, Le, As, Oo, M, rfl, rfl, hS, hD⟩ := h1
  by_cases q : 0 ≤ x
  · refine ⟨s.2.1.2.2.2.2, chp (s.1, (s.2.1.1, s.2.1.2.1, s.2.1.2.2.1, s.2.1.2.2.2.1, x), s.2.2) k kf T X tr gu O ch, mh (updN S 3 x) Le As Oo M, ?_, ?_, RR_mk ?_ hD⟩
    · unfold m_X7_seed
      rw [if_pos q, c70, bsome, c11, bsome, (cB9).g4, bsome, bsome, c11, bsome, (cB9).p4, bsome, sB9]
    · unfold m_X8_seed
      rw [if_pos q, g80, bsome, rS3, bsome, bsome, wS3, bsome, hS.2.1.2.2.1]
    · obtain ⟨⟨a1, a2, a3⟩, ⟨b1, b2, b3, b4, b5⟩, wR, wB, hy, hk, h8, hx, hl⟩ := hS
      exact ⟨⟨a1, fun m hm => by rw [updN_n (by omega)]; exact a2 m hm, fun m hm t ht => by rw [updN_n (by omega)]; exact a3 m hm t ht⟩, ⟨b1, b2, rfl, fun m hm => by rw [updN_n (by omega)]; exact b4 m hm, fun j hj => by rw [updN_n (by omega)]; exact b5 j hj⟩, wR, wB, hy, hk, h8, hx, fun i hi => logE_cong (fun q hq => updN_n (by omega)) (hl i hi)⟩
  · refine ⟨-1, _, _, ?_, ?_, h0⟩
    · unfold m_X7_seed
      rw [if_neg q]
    · unfold m_X8_seed
      rw [if_neg q]
/-- lives of all: the model's sum over the men is the class's over the seats -/
def lsum (lv : Nat → Nat) : Nat → Nat → Nat → Nat
  | _, 0, w => w
  | j, k + 1, w => lsum lv (j + 1) k (w + lv j)
theorem lives8_loop {S Le As Oo : Nat → Int32} {M : Mx} {R : Rl} {B : Bn} (mR : Mr S R) (mB : Mb S R.1 B) (hn : R.1 ≤ 6) : ∀ (k j f w : Nat), j + k = R.1 → k < f → m_X8_lives_4 f 0 (nI w) (nI j) (mh S Le As Oo M) = some (nI (lsum B.1 j k w), mh S Le As Oo M) := by
  intro k
  induction k with
  | zero =>
    intro j f w hj hf
    obtain ⟨g, rfl⟩ := fuel_s hf
    unfold m_X8_lives_4
    rw [g80, bsome, rS0, bsome, mR.1, if_pos (nI_le (by omega) (by omega))]
    rfl
  | succ k ih =>
    intro j f w hj hf
    obtain ⟨g, rfl⟩ := fuel_s hf
    unfold m_X8_lives_4
    rw [g80, bsome, rS0, bsome, mR.1, if_neg (nI_ge (by omega) (by omega)), bsome, ix4, rS (by omega), bsome, mB.2.2.2.1 j (by omega), nI_add, nI_1, ih (j + 1) g _ (by omega) (by omega)]
    rfl
theorem lives8_ok {S Le As Oo : Nat → Int32} {M : Mx} {R : Rl} {B : Bn} (mR : Mr S R) (mB : Mb S R.1 B) (hn : R.1 ≤ 6) : m_X8_lives 0 (mh S Le As Oo M) = some (nI (lsum B.1 0 R.1 0), mh S Le As Oo M) := lives8_loop mR mB hn R.1 0 1000 0 (by omega) (by omega)
theorem lsum_add (lv : Nat → Nat) : ∀ (k j w : Nat), lsum lv j k w = w + lsum lv j k 0 := by
  intro k
  induction k with
  | zero => intro j w; rfl
  | succ k ih =>
    intro j w
    show lsum lv (j + 1) k (w + lv j) = w + lsum lv (j + 1) k (0 + lv j)
    rw [ih _ (w + lv j), ih _ (0 + lv j)]
    omega
theorem lsum_z {lv : Nat → Nat} : ∀ (k j : Nat), (∀ m, j ≤ m → m < j + k → lv m = 0) → lsum lv j k 0 = 0 := by
  intro k
  induction k with
  | zero => intro j _; rfl
  | succ k ih =>
    intro j h
    show lsum lv (j + 1) k (0 + lv j) = 0
    rw [lsum_add, ih _ (fun m a b => h m (by omega) (by omega)), h j (Nat.le_refl _) (by omega)]
theorem lsum_upd {lv : Nat → Nat} {q : Nat} : ∀ (k j : Nat), j ≤ q → q < j + k → lsum lv j k 0 = lv q + lsum (updN lv q 0) j k 0 := by
  intro k
  induction k with
  | zero => intro j h1 h2; omega
  | succ k ih =>
    intro j h1 h2
    show lsum lv (j + 1) k (0 + lv j) = lv q + lsum (updN lv q 0) (j + 1) k (0 + updN lv q 0 j)
    rw [lsum_add, lsum_add (updN lv q 0)]
    by_cases e : j = q
    · subst e
      rw [updN_s]
      have : ∀ (k' j' : Nat), j < j' → lsum lv j' k' 0 = lsum (updN lv j 0) j' k' 0 := by
        intro k'
        induction k' with
        | zero => intro j' _; rfl
        | succ k' ih' =>
          intro j' hj
          show lsum lv (j' + 1) k' (0 + lv j') = lsum (updN lv j 0) (j' + 1) k' (0 + updN lv j 0 j')
          rw [lsum_add, lsum_add (updN lv j 0), ih' (j' + 1) (by omega), updN_n (by omega)]
      rw [this k (j + 1) (by omega)]
      omega
    · rw [ih (j + 1) (by omega) (by omega), updN_n (by omega)]
      omega
theorem spsum_add (lv sv : Nat → Nat) : ∀ (k j w : Nat), sp_sum lv sv j k w = w + sp_sum lv sv j k 0 := by
  intro k
  induction k with
  | zero => intro j w; rfl
  | succ k ih =>
    intro j w
    show sp_sum lv sv (j + 1) k (w + lv (sv j)) = w + sp_sum lv sv (j + 1) k (0 + lv (sv j))
    rw [ih _ (w + _), ih _ (0 + _)]
    omega
theorem spsum_eq {sv : Nat → Nat} {n : Nat} : ∀ (k j : Nat) (lv : Nat → Nat), (∀ i, j ≤ i → i < j + k → sv i < n) → (∀ a b, j ≤ a → a < j + k → j ≤ b → b < j + k → sv a = sv b → a = b) → (∀ m, m < n → lv m ≠ 0 → ∃ i, j ≤ i ∧ i < j + k ∧ sv i = m) → sp_sum lv sv j k 0 = lsum lv 0 n 0 := by
  intro k
  induction k with
  | zero =>
    intro j lv _ _ h3
    refine (lsum_z n 0 (fun m _ hm => ?_)).symm
    by_cases e : lv m = 0
    · exact e
    · obtain ⟨i, h1, h2, -⟩ := h3 m (by omega) e
      omega
  | succ k ih =>
    intro j lv h1 h2 h3
    show sp_sum lv sv (j + 1) k (0 + lv (sv j)) = _
    have hsj := h1 j (Nat.le_refl _) (by omega)
    rw [spsum_add, lsum_upd (q := sv j) n 0 (Nat.zero_le _) (by omega), Nat.zero_add]
    congr 1
    have e1 : sp_sum lv sv (j + 1) k 0 = sp_sum (updN lv (sv j) 0) sv (j + 1) k 0 := by
      have : ∀ (k' j' : Nat), j < j' → j' + k' ≤ j + 1 + k → sp_sum lv sv j' k' 0 = sp_sum (updN lv (sv j) 0) sv j' k' 0 := by
        intro k'
        induction k' with
        | zero => intro j' _ _; rfl
        | succ k' ih' =>
          intro j' hj hk
          show sp_sum lv sv (j' + 1) k' (0 + lv (sv j')) = sp_sum (updN lv (sv j) 0) sv (j' + 1) k' (0 + updN lv (sv j) 0 (sv j'))
          rw [spsum_add, spsum_add (updN lv (sv j) 0), ih' (j' + 1) (by omega) (by omega), updN_n (fun e => by
            have := h2 j' j (by omega) (by omega) (Nat.le_refl _) (by omega) e
            omega)]
      exact this k (j + 1) (by omega) (by omega)
    rw [e1]
    refine ih (j + 1) _ (fun i a b => h1 i (by omega) (by omega)) (fun a b p q r t e => h2 a b (by omega) (by omega) (by omega) (by omega) e) (fun m hm hz => ?_)
    by_cases e : m = sv j
    · subst e
      rw [updN_s] at hz
      exact absurd rfl hz
    · rw [updN_n e] at hz
      obtain ⟨i, p, q, r⟩ := h3 m hm hz
      refine ⟨i, ?_, by omega, r⟩
      rcases Nat.eq_or_lt_of_le p with w | w
      · subst w
        exact absurd r.symm e
      · exact w
theorem lives_eq {n : Nat} {B : Bn} (wB : Wb n B) : sp_sum B.1 B.2.1 0 B.2.2.1 0 = lsum B.1 0 n 0 :=
  spsum_eq B.2.2.1 0 B.1 (fun i _ h => wB.2.2.1 i (by omega)) (fun a b _ h _ h2 e => wB.2.2.2.1 a b (by omega) (by omega) e) (fun m hm hz => by
    obtain ⟨i, h1, h2⟩ := (wB.2.2.2.2 m hm).mp hz
    exact ⟨i, Nat.zero_le _, by omega, h2⟩)
/-! wrong pairs, the model's -/
theorem wrong8_loop {S Le As Oo : Nat → Int32} {M : Mx} {R : Rl} {B : Bn} (mR : Mr S R) (mB : Mb S R.1 B) (wR : Wr R) (hk : B.2.2.1 ≤ 6) (hs : ∀ i, i < B.2.2.1 → B.2.1 i < R.1) : ∀ (k j f w : Nat), j + k = B.2.2.1 → 1 ≤ j → k < f → m_X8_wrong_4 f 0 (nI w) (nI j) (mh S Le As Oo M) = some (nI (wrP (tog R.1 R.2.2.1) B.2.1 j k w), mh S Le As Oo M) := by
  intro k
  induction k with
  | zero =>
    intro j f w hj h1 hf
    obtain ⟨g, rfl⟩ := fuel_s hf
    unfold m_X8_wrong_4
    rw [g80, bsome, rS1, bsome, mB.1, if_pos (nI_le (by omega) (by omega))]
    rfl
  | succ k ih =>
    intro j f w hj h1 hf
    obtain ⟨g, rfl⟩ := fuel_s hf
    unfold m_X8_wrong_4 m_X8_wrong_47
    rw [g80, bsome, rS1, bsome, mB.1, if_neg (nI_ge (by omega) (by omega)), bsome, ix10, show nI (10 + j) - 1 = nI (10 + (j - 1)) from by rw [show 10 + j = 10 + (j - 1) + 1 by omega]; exact nI_pred _, rS (by omega), bsome, bsome, rS (by omega), bsome, mB.2.2.2.2 _ (by omega), mB.2.2.2.2 _ (by omega), g8r, stoodBy_ok mR wR.1 (hs _ (by omega)) (hs _ (by omega)), bsome]
    dsimp only
    rw [ite_b, nI_1, show nI w + 0 = nI (w + 0) from nI_add w 0, nI_1, ih (j + 1) g _ (by omega) (by omega) (by omega), ih (j + 1) g _ (by omega) (by omega) (by omega)]
    show _ = some (nI (wrP (tog R.1 R.2.2.1) B.2.1 (j + 1) k (if tog R.1 R.2.2.1 (B.2.1 (j - 1)) (B.2.1 j) then w else w + 1)), mh S Le As Oo M)
    cases tog R.1 R.2.2.1 (B.2.1 (j - 1)) (B.2.1 j) <;> rfl
theorem wrong8_ok {S Le As Oo : Nat → Int32} {M : Mx} {R : Rl} {B : Bn} (mR : Mr S R) (mB : Mb S R.1 B) (wR : Wr R) (hk : B.2.2.1 ≤ 6) (hs : ∀ i, i < B.2.2.1 → B.2.1 i < R.1) : m_X8_wrong 0 (mh S Le As Oo M) = some (nI (wrP (tog R.1 R.2.2.1) B.2.1 1 (B.2.2.1 - 1) 0), mh S Le As Oo M) := by
  unfold m_X8_wrong
  by_cases q : B.2.2.1 ≤ 1
  · unfold m_X8_wrong_4
    rw [g80, bsome, rS1, bsome, mB.1, if_pos (show nI B.2.2.1 ≤ (1 : Int32) from nI_le (b := 1) q (by decide)), show B.2.2.1 - 1 = 0 by omega]
    rfl
  · exact wrong8_loop mR mB wR hk hs (B.2.2.1 - 1) 1 1000 0 (by omega) (Nat.le_refl _) (by omega)
theorem wr_eq {R : Rl} {sv : Nat → Nat} {k : Nat} (wR : Wr R) (hs : ∀ i, i < k → sv i < R.1) (hi : ∀ a b, a < k → b < k → sv a = sv b → a = b) : wrP (fun x y => (R.2.2.2 x).testBit y) sv 1 (k - 1) 0 = wrP (tog R.1 R.2.2.1) sv 1 (k - 1) 0 := by
  refine wrP_cong (k - 1) 1 0 (fun i h1 h2 => ?_)
  have a1 := hs (i - 1) (by omega)
  have a2 := hs i (by omega)
  rw [wR.2 _ a1, sbN_bit, decide_eq_true a2, decide_eq_true (show sv i ≠ sv (i - 1) from fun e => by
    have := hi i (i - 1) (by omega) (by omega) e
    omega)]
  rfl
theorem sim_count_ok : sim_count RR := by
  intro hX hM x h0
  have h1 := h0
  obtain ⟨s, k, kf, T, X, tr, gu, O, ch, S, Le, As, Oo, M, rfl, rfl, hS, hD⟩ := h1
  obtain ⟨mR, mB, wR, wB, hy, hk, -⟩ := hS
  have w2 : ∀ i, i < s.2.1.2.2.1 → s.2.1.2.1 i < 6 := wB.1.2.2.1
  refine ⟨if x = 0 then nI s.1.1 else if x = 1 then nI s.2.1.2.2.1 else if x = 2 then nI s.2.1.2.2.2.1 else if x = 3 then sp_who s.2.1.2.1 0 s.2.1.2.2.1 0 else if x = 4 then nI (lsum s.2.1.1 0 s.1.1 0) else if x = 5 then nI (wrP (tog s.1.1 s.1.2.2.1) s.2.1.2.1 1 (s.2.1.2.2.1 - 1) 0) else if x = 6 then nI s.2.2.1 else -1, _, _, ?_, ?_, h0⟩
  · unfold m_X7_count
    have A := cB9 (s := s) (k := k) (kf := kf) (T := T) (X := X) (tr := tr) (gu := gu) (O := O) (ch := ch)
    have AR := cR2 (s := s) (k := k) (kf := kf) (T := T) (X := X) (tr := tr) (gu := gu) (O := O) (ch := ch)
    have e5 := wrong_ok (k0 := s.2.1.2.2.1) AR A.2.2 wB.1.1 wR.1.2.2.2 w2
    rw [wr_eq wR wB.2.2.1 wB.2.2.2.1] at e5
    simp only [c70, c10, c11, c12, bsome, A.g1, A.g2, A.g3, AR.g0, AR.rcv, A.rcv, whoSits_ok A wB.1.1, lifeOfAll_ok A wB.1.1 w2, lives_eq wB, cl1]
    split
    · rfl
    · split
      · rfl
      · split
        · rfl
        · split
          · rfl
          · split
            · rfl
            · split
              · rw [show m_X3_wrongPairs 2 (9 + 2) (nI s.2.1.2.2.1) (chp s k kf T X tr gu O ch) = _ from e5]
                rfl
              · split
                · rfl
                · rfl
  · unfold m_X8_count
    simp only [g80, bsome, rS0, rS1, rS2, rS40, mR.1, mB.1, mB.2.1, hk, g8r, bench_ok mB wB.1.1, lives8_ok mR mB wR.1.1, wrong8_ok mR mB wR wB.1.1 wB.2.2.1]
    split
    · rfl
    · split
      · rfl
      · split
        · rfl
        · split
          · rfl
          · split
            · rfl
            · split
              · rfl
              · split
                · rfl
                · rfl
