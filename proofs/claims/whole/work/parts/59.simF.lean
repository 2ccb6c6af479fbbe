/-! readings of a bench and a roll, whole -/
section GEN
variable {h : bb_H} {b r : Nat} {B : Bn} {R : Rl}
theorem bnAt.G0 (A : bnAt h b B) : bb_gR h b 0 0 = some (b + 1) := gR_of A.1 rfl
theorem bnAt.G1 (A : bnAt h b B) : bb_gR h b 0 1 = some (b + 2) := gR_of A.1 rfl
theorem bnAt.G2 (A : bnAt h b B) : bb_gI h b 0 2 = some (nI B.2.2.1) := gI_of A.1 rfl
theorem bnAt.G3 (A : bnAt h b B) : bb_gI h b 0 3 = some (nI B.2.2.2.1) := gI_of A.1 rfl
theorem bnAt.AL (A : bnAt h b B) {k : Nat} (hk : k < 6) : bb_aI h (b + 1) .int (nI k) = some (nI (B.1 k)) := aI_of A.2.1 hk (by decide)
theorem bnAt.AS (A : bnAt h b B) {k : Nat} (hk : k < 6) : bb_aI h (b + 2) .int (nI k) = some (nI (B.2.1 k)) := aI_of A.2.2 hk (by decide)
theorem rlAt.G0 (A : rlAt h r R) : bb_gI h r 3 0 = some (nI R.1) := gI_of A.1 rfl
theorem rlAt.G3 (A : rlAt h r R) : bb_gR h r 3 3 = some (r + 6) := gR_of A.1 rfl
theorem rlAt.G2 (A : rlAt h r R) : bb_gR h r 3 2 = some (r + 2) := gR_of A.1 rfl
theorem rlAt.AB (A : rlAt h r R) {k : Nat} (hk : k < 6) : bb_aI h (r + 6) .int (nI k) = some (nI (R.2.2.2 k)) := aI_of A.2.2.2.2.2.2 hk (by decide)
theorem rlAt.AP (A : rlAt h r R) {t k : Nat} (ht : t < 3) (hk : k < 6) : bb_aI h (r + 3 + t) .int (nI k) = some (nI (R.2.2.1 t k)) := by
  obtain ⟨n, kd, pl, sb⟩ := R
  exact A.ap ht hk
end GEN
/-! swaps; who could stay -/
def swJ (p : Nat → Nat) (a : Nat) : Nat → Nat → Nat → Nat
  | _, 0, w => w
  | j, t + 1, w => swJ p a (j + 1) t (if p a ≤ p j then w else w + 1)
def swO (p : Nat → Nat) : Nat → Nat → Nat → Nat
  | _, 0, w => w
  | a, t + 1, w => swO p (a + 1) t (swJ p a (a + 1) t w)
/-- places, by seats, at an hour -/
def pS (R : Rl) (B : Bn) (t : Nat) : Nat → Nat := fun i => R.2.2.1 t (B.2.1 i)
section SWP
variable {h : bb_H} {R : Rl} {B : Bn}
theorem swapsX_in (A : bnAt h 9 B) (AR : rlAt h 2 R) (hR : okR R) (hB : okB B) {t : Nat} (ht : t < 3) {a : Nat} (ha : a < B.2.2.1) {k36 : Nat → Nat → Int32 → Int32 → bb_H → Option (Int32 × bb_H)} : ∀ (u j f w : Nat), j + u = B.2.2.1 → u < f → m_X7_swaps_51 k36 f 9 (2 + 3 + t) (nI w) (nI a) (nI j) h = k36 9 (2 + 3 + t) (nI (swJ (pS R B t) a j u w)) (nI (a + 1)) h := by
  have k6 := hB.1
  intro u
  induction u with
  | zero =>
    intro j f w hj hf
    obtain ⟨g, rfl⟩ := fuel_s hf
    unfold m_X7_swaps_51
    rw [A.G2, bsome, if_pos (nI_le (by omega) (by omega)), nI_1]
    rfl
  | succ u ih =>
    intro j f w hj hf
    obtain ⟨g, rfl⟩ := fuel_s hf
    have s1 := hB.2.2.1 a ha
    have s2 := hB.2.2.1 j (by omega)
    have p1 := hR.2.2.1 t ht _ s1
    have p2 := hR.2.2.1 t ht _ s2
    unfold m_X7_swaps_51 m_X7_swaps_84
    rw [A.G2, bsome, if_neg (nI_ge (by omega) (by omega)), A.G1, bsome, A.AS (by omega), bsome, AR.AP ht s1, bsome, bsome, A.AS (by omega), bsome, AR.AP ht s2, bsome, ite_le (by omega) (by omega), nI_1, nI_1, ih (j + 1) g _ (by omega) (by omega), ih (j + 1) g _ (by omega) (by omega)]
    show _ = k36 9 (2 + 3 + t) (nI (swJ (pS R B t) a (j + 1) u (if R.2.2.1 t (B.2.1 a) ≤ R.2.2.1 t (B.2.1 j) then w else w + 1))) (nI (a + 1)) h
    split <;> rfl
theorem swapsX_out (A : bnAt h 9 B) (AR : rlAt h 2 R) (hR : okR R) (hB : okB B) {t : Nat} (ht : t < 3) : ∀ (u a f w : Nat), a + u = B.2.2.1 → u < f → m_X7_swaps_36 f 9 (2 + 3 + t) (nI w) (nI a) h = some (nI (swO (pS R B t) a u w), h) := by
  have k6 := hB.1
  intro u
  induction u with
  | zero =>
    intro a f w ha hf
    obtain ⟨g, rfl⟩ := fuel_s hf
    unfold m_X7_swaps_36
    rw [A.G2, bsome, if_pos (nI_le (by omega) (by omega))]
    rfl
  | succ u ih =>
    intro a f w ha hf
    obtain ⟨g, rfl⟩ := fuel_s hf
    unfold m_X7_swaps_36
    rw [A.G2, bsome, if_neg (nI_ge (by omega) (by omega)), nI_1, swapsX_in A AR hR hB ht (by omega) u (a + 1) 1000 w (by omega) (by omega), ih (a + 1) g _ (by omega) (by omega)]
    rfl
variable {S Le As Oo : Nat → Int32} {M : Mx}
theorem placeOn_ok (mR : Mr S R) (mB : Mb S R.1 B) (o1 : R.1 ≤ 6) (wB : Wb R.1 B) {a t : Nat} (ha : a < B.2.2.1) (ht : t < 3) : m_X8_placeOn 0 (nI a) (nI t) (mh S Le As Oo M) = some (nI (pS R B t a), mh S Le As Oo M) := by
  have k6 := wB.2.1
  have s1 := wB.2.2.1 a ha
  unfold m_X8_placeOn
  rw [g80, bsome, bsome, ix10, rS (by omega), bsome, mB.2.2.2.2 a ha, ix22, rS (by omega), bsome, mR.2.2 _ s1 t ht]
  rfl
theorem swapsM_in (mR : Mr S R) (mB : Mb S R.1 B) (wR : Wr R) (wB : Wb R.1 B) {t : Nat} (ht : t < 3) {a : Nat} (ha : a < B.2.2.1) {k15 : Nat → Int32 → Int32 → Int32 → bb_H → Option (Int32 × bb_H)} : ∀ (u j f w : Nat), j + u = B.2.2.1 → u < f → m_X8_swaps_30 k15 f 0 (nI t) (nI w) (nI a) (nI j) (mh S Le As Oo M) = k15 0 (nI t) (nI (swJ (pS R B t) a j u w)) (nI (a + 1)) (mh S Le As Oo M) := by
  have k6 := wB.1.1
  have o1 := wR.1.1
  intro u
  induction u with
  | zero =>
    intro j f w hj hf
    obtain ⟨g, rfl⟩ := fuel_s hf
    unfold m_X8_swaps_30
    rw [g80, bsome, rS1, bsome, mB.1, if_pos (nI_le (by omega) (by omega)), nI_1]
    rfl
  | succ u ih =>
    intro j f w hj hf
    obtain ⟨g, rfl⟩ := fuel_s hf
    have p1 := wR.1.2.2.1 t ht _ (wB.1.2.2.1 a ha)
    have p2 := wR.1.2.2.1 t ht _ (wB.1.2.2.1 j (by omega))
    unfold m_X8_swaps_30 m_X8_swaps_63
    rw [g80, bsome, rS1, bsome, mB.1, if_neg (nI_ge (by omega) (by omega)), g8r, placeOn_ok mR mB o1 wB ha ht, bsome]
    dsimp only
    rw [g8r, placeOn_ok mR mB o1 wB (show j < B.2.2.1 by omega) ht, bsome]
    dsimp only
    rw [show nI w + 0 = nI (w + 0) from nI_add w 0, nI_1, nI_1, ite_le (by unfold pS; omega) (by unfold pS; omega), ih (j + 1) g _ (by omega) (by omega), ih (j + 1) g _ (by omega) (by omega)]
    show _ = k15 0 (nI t) (nI (swJ (pS R B t) a (j + 1) u (if pS R B t a ≤ pS R B t j then w else w + 1))) (nI (a + 1)) (mh S Le As Oo M)
    split <;> rfl
theorem swapsM_out (mR : Mr S R) (mB : Mb S R.1 B) (wR : Wr R) (wB : Wb R.1 B) {t : Nat} (ht : t < 3) : ∀ (u a f w : Nat), a + u = B.2.2.1 → u < f → m_X8_swaps_15 f 0 (nI t) (nI w) (nI a) (mh S Le As Oo M) = some (nI (swO (pS R B t) a u w), mh S Le As Oo M) := by
  have k6 := wB.1.1
  intro u
  induction u with
  | zero =>
    intro a f w ha hf
    obtain ⟨g, rfl⟩ := fuel_s hf
    unfold m_X8_swaps_15
    rw [g80, bsome, rS1, bsome, mB.1, if_pos (nI_le (by omega) (by omega))]
    rfl
  | succ u ih =>
    intro a f w ha hf
    obtain ⟨g, rfl⟩ := fuel_s hf
    unfold m_X8_swaps_15
    rw [g80, bsome, rS1, bsome, mB.1, if_neg (nI_ge (by omega) (by omega)), nI_1, swapsM_in mR mB wR wB ht (by omega) u (a + 1) 1000 w (by omega) (by omega), ih (a + 1) g _ (by omega) (by omega)]
    rfl
end SWP
theorem sim_swaps_ok : sim_swaps RR := by
  intro hX hM x h0
  have h1 := h0
  obtain ⟨s, k, kf, T, X, tr, gu, O, ch, S, Le, As, Oo, M, rfl, rfl, hS, hD⟩ := h1
  have AR := cR2 (s := s) (k := k) (kf := kf) (T := T) (X := X) (tr := tr) (gu := gu) (O := O) (ch := ch)
  rcases inB_or x (lo := 0) (hi := 2) 0 2 rfl rfl (by decide) (by decide) with e | ⟨t, -, ht, rfl, e⟩
  · refine ⟨-1, _, _, ?_, ?_, h0⟩
    · unfold m_X7_swaps m_X7_isHour
      rw [within_ok, bsome, rz_in, bsome, e]
      rfl
    · unfold m_X8_swaps
      rw [in_ok, bsome, e]
      rfl
  · have ht3 : t < 3 := by omega
    have k6 := hS.2.2.2.1.1.1
    refine ⟨nI (swO (pS s.1 s.2.1 t) 0 s.2.1.2.2.1 0), _, _, ?_, ?_, h0⟩
    · unfold m_X7_swaps m_X7_isHour
      rw [within_ok, bsome, rz_in, bsome, e, if_neg one_ne, c70, bsome, c11, bsome, bsome, c10, bsome, AR.g2, bsome, AR.ar ht3, bsome]
      exact swapsX_out cB9 AR hS.2.2.1.1 hS.2.2.2.1.1 ht3 s.2.1.2.2.1 0 1000 0 (by omega) (by omega)
    · unfold m_X8_swaps
      rw [in_ok, bsome, e, if_neg one_ne]
      exact swapsM_out hS.1 hS.2.1 hS.2.2.1 hS.2.2.2.1 ht3 s.2.1.2.2.1 0 1000 0 (by omega) (by omega)
/-! rows in order: what they are worth; the most -/
def wsum (b : Nat → Bool) : Nat → Nat → Nat
  | _, 0 => 0
  | j, t + 1 => (if b j then 64 + 2 ^ (5 - j) else 0) + wsum b (j + 1) t
def mxV (p : Nat → Nat) : Nat → Nat → Nat → Nat
  | _, 0, _ => 0
  | j, t + 1, u => max (mxV p (j + 1) t u) (if u ≤ p j then 64 + 2 ^ (5 - j) + mxV p (j + 1) t (p j + 1) else 0)
def mxN (p : Nat → Nat) : Nat → Nat → Nat → Nat
  | _, 0, _ => 0
  | j, t + 1, u => max (mxN p (j + 1) t u) (if u ≤ p j then 1 + mxN p (j + 1) t (p j + 1) else 0)
def incB (b : Nat → Bool) (p : Nat → Nat) : Nat → Nat → Nat → Bool
  | _, 0, _ => true
  | j, t + 1, u => if b j then decide (u ≤ p j) && incB b p (j + 1) t (p j + 1) else incB b p (j + 1) t u
theorem inc_le {b : Nat → Bool} {p : Nat → Nat} : ∀ (t j u : Nat), incB b p j t u = true → wsum b j t ≤ mxV p j t u := by
  intro t
  induction t with
  | zero => intro j u _; exact Nat.le_refl _
  | succ t ih =>
    intro j u h
    unfold incB at h
    unfold wsum mxV
    by_cases c : b j = true
    · rw [if_pos c] at h ⊢
      rw [Bool.and_eq_true, decide_eq_true_eq] at h
      rw [if_pos h.1]
      have := ih (j + 1) (p j + 1) h.2
      omega
    · rw [if_neg c] at h ⊢
      have := ih (j + 1) u h
      omega
theorem mx_rel {p : Nat → Nat} : ∀ (t j u : Nat), j + t ≤ 6 → 64 * mxN p j t u ≤ mxV p j t u ∧ mxV p j t u + 1 ≤ 64 * mxN p j t u + 2 ^ (6 - j) := by
  intro t
  induction t with
  | zero =>
    intro j u _
    exact ⟨Nat.le_refl _, by show 0 + 1 ≤ 64 * 0 + 2 ^ (6 - j); have := Nat.one_le_two_pow (n := 6 - j); omega⟩
  | succ t ih =>
    intro j u hj
    obtain ⟨a1, a2⟩ := ih (j + 1) u (by omega)
    obtain ⟨b1, b2⟩ := ih (j + 1) (p j + 1) (by omega)
    have e1 : (2 : Nat) ^ (6 - j) = 2 * 2 ^ (5 - j) := by rw [show 6 - j = (5 - j) + 1 by omega, Nat.pow_succ]; omega
    have e2 : (2 : Nat) ^ (6 - (j + 1)) = 2 ^ (5 - j) := by rw [show 6 - (j + 1) = 5 - j by omega]
    have e3 : (2 : Nat) ^ (5 - j) ≤ 32 := Nat.pow_le_pow_right (n := 2) (by decide) (show 5 - j ≤ 5 by omega)
    rw [e2] at a2 b2
    unfold mxV mxN
    rw [e1]
    split
    · omega
    · omega
/-- the greedy row, as the class finds it -/
def grM (p : Nat → Nat) : Nat → Nat → Nat → Nat → Nat
  | _, 0, _, _ => 0
  | j, t + 1, L, u => if u ≤ p j ∧ 1 + mxN p (j + 1) t (p j + 1) = L then 2 ^ j ||| grM p (j + 1) t (L - 1) (p j + 1) else grM p (j + 1) t L u
theorem grM_low {p : Nat → Nat} : ∀ (t j L u i : Nat), i < j → (grM p j t L u).testBit i = false := by
  intro t
  induction t with
  | zero => intro j L u i _; exact Nat.zero_testBit i
  | succ t ih =>
    intro j L u i hi
    unfold grM
    split
    · rw [Nat.testBit_or, Nat.testBit_two_pow_of_ne (by omega), ih _ _ _ _ (by omega)]
      rfl
    · exact ih _ _ _ _ (by omega)
theorem grM_lt {p : Nat → Nat} : ∀ (t j L u : Nat), grM p j t L u < 2 ^ (j + t) := by
  intro t
  induction t with
  | zero => intro j L u; exact Nat.two_pow_pos _
  | succ t ih =>
    intro j L u
    have h1 := ih (j + 1) (L - 1) (p j + 1)
    have h2 := ih (j + 1) L u
    rw [show j + 1 + t = j + (t + 1) by omega] at h1 h2
    unfold grM
    split
    · exact Nat.or_lt_two_pow (Nat.pow_lt_pow_right (by decide) (by omega)) h1
    · exact h2
theorem wsum_cong {b c : Nat → Bool} : ∀ (t j : Nat), (∀ i, j ≤ i → i < j + t → b i = c i) → wsum b j t = wsum c j t := by
  intro t
  induction t with
  | zero => intro j _; rfl
  | succ t ih =>
    intro j h
    unfold wsum
    rw [h j (Nat.le_refl _) (by omega), ih (j + 1) (fun i a b => h i (by omega) (by omega))]
theorem incB_cong {b c : Nat → Bool} {p : Nat → Nat} : ∀ (t j u : Nat), (∀ i, j ≤ i → i < j + t → b i = c i) → incB b p j t u = incB c p j t u := by
  intro t
  induction t with
  | zero => intro j u _; rfl
  | succ t ih =>
    intro j u h
    unfold incB
    rw [h j (Nat.le_refl _) (by omega), ih (j + 1) _ (fun i a b => h i (by omega) (by omega)), ih (j + 1) _ (fun i a b => h i (by omega) (by omega))]
theorem or_bit_hi {j g i : Nat} (h : j < i) : (2 ^ j ||| g).testBit i = g.testBit i := by
  rw [Nat.testBit_or, Nat.testBit_two_pow_of_ne (by omega), Bool.false_or]
theorem grd_ok {p : Nat → Nat} : ∀ (t j u : Nat), j + t ≤ 6 → incB (fun i => (grM p j t (mxN p j t u) u).testBit i) p j t u = true ∧ wsum (fun i => (grM p j t (mxN p j t u) u).testBit i) j t = mxV p j t u := by
  intro t
  induction t with
  | zero => intro j u _; exact ⟨rfl, rfl⟩
  | succ t ih =>
    intro j u hj
    obtain ⟨a1, a2⟩ := ih (j + 1) u (by omega)
    obtain ⟨b1, b2⟩ := ih (j + 1) (p j + 1) (by omega)
    obtain ⟨r1, r2⟩ := mx_rel (p := p) t (j + 1) u (by omega)
    obtain ⟨q1, q2⟩ := mx_rel (p := p) t (j + 1) (p j + 1) (by omega)
    have e2 : (2 : Nat) ^ (6 - (j + 1)) = 2 ^ (5 - j) := by rw [show 6 - (j + 1) = 5 - j by omega]
    have e3 : (2 : Nat) ^ (5 - j) ≤ 32 := Nat.pow_le_pow_right (n := 2) (by decide) (show 5 - j ≤ 5 by omega)
    rw [e2] at r2 q2
    have hN : mxN p j (t + 1) u = max (mxN p (j + 1) t u) (if u ≤ p j then 1 + mxN p (j + 1) t (p j + 1) else 0) := rfl
    have hV : mxV p j (t + 1) u = max (mxV p (j + 1) t u) (if u ≤ p j then 64 + 2 ^ (5 - j) + mxV p (j + 1) t (p j + 1) else 0) := rfl
    by_cases c : u ≤ p j ∧ 1 + mxN p (j + 1) t (p j + 1) = mxN p j (t + 1) u
    · have hg : grM p j (t + 1) (mxN p j (t + 1) u) u = 2 ^ j ||| grM p (j + 1) t (mxN p (j + 1) t (p j + 1)) (p j + 1) := by
        conv => lhs; unfold grM
        rw [if_pos c, show mxN p j (t + 1) u - 1 = mxN p (j + 1) t (p j + 1) by omega]
      rw [hg]
      have hj1 : (2 ^ j ||| grM p (j + 1) t (mxN p (j + 1) t (p j + 1)) (p j + 1)).testBit j = true := by
        rw [Nat.testBit_or, Nat.testBit_two_pow_self, Bool.true_or]
      unfold incB wsum
      rw [if_pos hj1, if_pos hj1, decide_eq_true c.1, Bool.true_and]
      rw [incB_cong t (j + 1) _ (c := fun i => (grM p (j + 1) t (mxN p (j + 1) t (p j + 1)) (p j + 1)).testBit i) (fun i h1 _ => or_bit_hi (by omega)), wsum_cong t (j + 1) (c := fun i => (grM p (j + 1) t (mxN p (j + 1) t (p j + 1)) (p j + 1)).testBit i) (fun i h1 _ => or_bit_hi (by omega)), b2]
      refine ⟨b1, ?_⟩
      rw [if_pos c.1] at hN hV
      rw [hV]
      omega
    · have hg : grM p j (t + 1) (mxN p j (t + 1) u) u = grM p (j + 1) t (mxN p (j + 1) t u) u := by
        conv => lhs; unfold grM
        rw [if_neg c]
        congr 1
        rw [hN]
        split
        · rename_i z
          have : ¬ 1 + mxN p (j + 1) t (p j + 1) = mxN p j (t + 1) u := fun w => c ⟨z, w⟩
          rw [hN, if_pos z] at this
          omega
        · omega
      rw [hg]
      have hj0 : (grM p (j + 1) t (mxN p (j + 1) t u) u).testBit j = false := grM_low _ _ _ _ _ (by omega)
      unfold incB wsum
      rw [if_neg (by rw [hj0]; decide), if_neg (by rw [hj0]; decide), a2]
      refine ⟨a1, ?_⟩
      rw [hV]
      split
      · rename_i z
        have : ¬ 1 + mxN p (j + 1) t (p j + 1) = mxN p j (t + 1) u := fun w => c ⟨z, w⟩
        rw [hN, if_pos z] at this
        omega
      · omega
/-! masks of seats -/
def key (s : Nat) : Nat := wsum (fun i => s.testBit i) 0 6
def ahd (s b : Nat) : Bool := !decide ((((nI s ^^^ nI b) &&& (-(nI s ^^^ nI b))) &&& nI s) = 0)
set_option maxRecDepth 100000 in
theorem key_inj : ∀ s, s < 64 → ∀ b, b < 64 → key s = key b → s = b := by decide +kernel
set_option maxRecDepth 100000 in
theorem key_better : ∀ s, s < 64 → ∀ b, b < 64 → (decide (pc6 b < pc6 s) || (decide (pc6 s = pc6 b) && ahd s b)) = decide (key b < key s) := by decide +kernel
theorem wsum_z {b : Nat → Bool} : ∀ (t j : Nat), (∀ i, j ≤ i → i < j + t → b i = false) → wsum b j t = 0 := by
  intro t
  induction t with
  | zero => intro j _; rfl
  | succ t ih =>
    intro j h
    unfold wsum
    rw [h j (Nat.le_refl _) (by omega), ih (j + 1) (fun i a b => h i (by omega) (by omega))]
    rfl
theorem wsum_split {b : Nat → Bool} : ∀ (t u j : Nat), wsum b j (t + u) = wsum b j t + wsum b (j + t) u := by
  intro t
  induction t with
  | zero => intro u j; rw [Nat.zero_add, Nat.add_zero]; show _ = 0 + _; rw [Nat.zero_add]
  | succ t ih =>
    intro u j
    rw [show t + 1 + u = (t + u) + 1 by omega]
    show (if b j then 64 + 2 ^ (5 - j) else 0) + wsum b (j + 1) (t + u) = (if b j then 64 + 2 ^ (5 - j) else 0) + wsum b (j + 1) t + wsum b (j + (t + 1)) u
    rw [ih u (j + 1), show j + 1 + t = j + (t + 1) by omega]
    omega
theorem bit_hi {s k i : Nat} (hs : s < 2 ^ k) (h : k ≤ i) : s.testBit i = false := Nat.testBit_lt_two_pow (Nat.lt_of_lt_of_le hs (Nat.pow_le_pow_right (by decide) h))
theorem key_eq {s k : Nat} (hk : k ≤ 6) (hs : s < 2 ^ k) : key s = wsum (fun i => s.testBit i) 0 k := by
  unfold key
  rw [show 6 = k + (6 - k) by omega, wsum_split, wsum_z (6 - k) _ (fun i h1 _ => bit_hi hs (by omega)), Nat.add_zero]
/-- the best mask, as the model finds it -/
def bsM (p : Nat → Nat) (k : Nat) : Nat → Nat → Nat → Nat
  | _, 0, b => b
  | s, t + 1, b => bsM p k (s + 1) t (if decide (key b < key s) && incB (fun i => s.testBit i) p 0 k 0 then s else b)
theorem bsM_ok {p : Nat → Nat} {k : Nat} : ∀ (t s b : Nat), s + t = 2 ^ k → b < 2 ^ k → incB (fun i => b.testBit i) p 0 k 0 = true → (∀ q, q < s → incB (fun i => q.testBit i) p 0 k 0 = true → key q ≤ key b) → bsM p k s t b < 2 ^ k ∧ incB (fun i => (bsM p k s t b).testBit i) p 0 k 0 = true ∧ ∀ q, q < 2 ^ k → incB (fun i => q.testBit i) p 0 k 0 = true → key q ≤ key (bsM p k s t b) := by
  intro t
  induction t with
  | zero =>
    intro s b hs hb h1 h2
    exact ⟨hb, h1, fun q hq h => h2 q (by omega) h⟩
  | succ t ih =>
    intro s b hs hb h1 h2
    unfold bsM
    by_cases c : (decide (key b < key s) && incB (fun i => s.testBit i) p 0 k 0) = true
    · rw [if_pos c]
      rw [Bool.and_eq_true, decide_eq_true_eq] at c
      refine ih (s + 1) s (by omega) (by omega) c.2 (fun q hq h => ?_)
      by_cases e : q = s
      · rw [e]; exact Nat.le_refl _
      · exact Nat.le_trans (h2 q (by omega) h) (Nat.le_of_lt c.1)
    · rw [if_neg c]
      refine ih (s + 1) b (by omega) hb h1 (fun q hq h => ?_)
      by_cases e : q = s
      · subst e
        rw [h, Bool.and_true, decide_eq_true_eq] at c
        omega
      · exact h2 q (by omega) h
theorem bs_gr {p : Nat → Nat} {k : Nat} (hk : k ≤ 6) : bsM p k 1 (2 ^ k - 1) 0 = grM p 0 k (mxN p 0 k 0) 0 := by
  have h1 : 1 ≤ 2 ^ k := Nat.one_le_two_pow
  have hk6 : (2 : Nat) ^ k ≤ 64 := Nat.pow_le_pow_right (n := 2) (by decide) hk
  have hz : ∀ (t j u : Nat), incB (fun i => (0 : Nat).testBit i) p j t u = true := by
    intro t
    induction t with
    | zero => intro j u; rfl
    | succ t ih =>
      intro j u
      unfold incB
      rw [if_neg (by rw [Nat.zero_testBit]; decide)]
      exact ih _ _
  obtain ⟨c1, c2, c3⟩ := bsM_ok (p := p) (k := k) (2 ^ k - 1) 1 0 (by omega) (by omega) (hz _ _ _) (fun q hq _ => by
    obtain rfl : q = 0 := by omega
    exact Nat.le_refl _)
  obtain ⟨g1, g2⟩ := grd_ok (p := p) k 0 0 (by omega)
  have g3 := grM_lt (p := p) k 0 (mxN p 0 k 0) 0
  rw [Nat.zero_add] at g3
  have u1 := c3 _ g3 g1
  have u2 := inc_le k 0 0 c2
  rw [← key_eq hk c1] at u2
  rw [← key_eq hk g3] at g2
  exact key_inj _ (by omega) _ (by omega) (by omega)
