/-! THE MODEL'S YEAR -/
theorem bf_af_ne {n i : Nat} {B : Bn} (hW : Wb n B) (hi : i < B.2.2.1) : ∀ a b, bfO B.2.1 i = some a → afO B.2.1 B.2.2.1 i = some b → a ≠ b := by
  intro a b h1 h2 e
  unfold bfO at h1
  unfold afO at h2
  split at h1
  · cases h1
  · split at h2
    · cases h1
      cases h2
      have := hW.2.2.2.1 _ _ (by omega) (by omega) e
      omega
    · cases h2
theorem pc6_nb {s : Nat} (hs : s < 64) (a b : Option Nat) (ha : ∀ q, a = some q → q < 6) (hb : ∀ q, b = some q → q < 6) (hab : ∀ x y, a = some x → b = some y → x ≠ y) (sb : Nat → Nat) (m : Nat) (hm : sb m = s) : pc6 ((setO a ||| setO b) &&& s) = comN sb m a + comN sb m b := by
  cases a with
  | none =>
    cases b with
    | none => exact pc6_z s hs
    | some y =>
      show pc6 ((0 ||| 2 ^ y) &&& s) = 0 + (if (sb m).testBit y then 1 else 0)
      rw [Nat.zero_or, Nat.zero_add, hm]
      exact pc6_one s hs y (hb y rfl)
  | some x =>
    cases b with
    | none =>
      show pc6 ((2 ^ x ||| 0) &&& s) = (if (sb m).testBit x then 1 else 0) + 0
      rw [Nat.or_zero, Nat.add_zero, hm]
      exact pc6_one s hs x (ha x rfl)
    | some y =>
      show pc6 ((2 ^ x ||| 2 ^ y) &&& s) = (if (sb m).testBit x then 1 else 0) + (if (sb m).testBit y then 1 else 0)
      rw [hm]
      exact pc6_two s hs x (ha x rfl) y (hb y rfl) (hab x y rfl rfl)
section MY
variable {S Le As Oo : Nat → Int32} {M : Mx} {R : Rl} {B : Bn}
theorem fails16_ok (hR : Mr S R) (hB : Mb S R.1 B) (wR : Wr R) (wB : Wb R.1 B) {i : Nat} (hi : i < B.2.2.1) : m_X8_fails_16 0 (nI (B.2.1 i)) (nI (hale B.2.2.2.1)) (mh S Le As Oo M) = some (nI (lossN R.2.1 R.2.2.2 B.2.2.2.1 (B.2.1 i) (bfO B.2.1 i) (afO B.2.1 B.2.2.1 i)), mh S Le As Oo M) := by
  obtain ⟨⟨o1, o2, o3, o4⟩, ws⟩ := wR
  have hkn := wB.2.1
  have hm := wB.2.2.1 i hi
  have hm6 : B.2.1 i < 6 := by omega
  have w2 : ∀ i, i < B.2.2.1 → B.2.1 i < 6 := fun i hi => by have := wB.2.2.1 i hi; omega
  have hse : sp_seat B.2.1 (B.2.1 i) 0 B.2.2.1 = nI i := by
    rcases seat_or B.2.1 (B.2.1 i) B.2.2.1 with ⟨q, h1, h2, h3, h4⟩ | ⟨h1, h2⟩
    · rw [h4, wB.2.2.2.1 q i h1 hi h2]
    · exact absurd rfl (h1 i hi)
  have hkd := o2 _ hm6
  unfold m_X8_fails_16
  rw [g8r, seatOf8_ok hB wB o1 hm6, bsome, hse]
  dsimp only
  rw [g80, bsome, ix16, rS (by omega), bsome, hR.2.1 _ hm]
  change (if nI (R.2.1 (B.2.1 i)) = nI 0 then _ else if nI (R.2.1 (B.2.1 i)) = nI 1 then _ else if nI (R.2.1 (B.2.1 i)) = nI 2 then _ else if nI (R.2.1 (B.2.1 i)) = nI 3 then _ else _) = _
  rw [ite_e (by omega) (by decide), ite_e (by omega) (by decide), ite_e (by omega) (by decide), ite_e (by omega) (by decide)]
  unfold lossN
  by_cases c0 : R.2.1 (B.2.1 i) = 0
  · rw [if_pos c0, if_neg (by omega), if_neg (by omega), if_neg (by omega), if_neg (by omega)]
    rfl
  · rw [if_neg c0]
    by_cases c1 : R.2.1 (B.2.1 i) = 1
    · rw [if_pos c1, if_pos c1]
    · rw [if_neg c1, if_neg c1]
      by_cases c2 : R.2.1 (B.2.1 i) = 2
      · rw [if_pos c2, if_pos c2]
        rfl
      · rw [if_neg c2, if_neg c2]
        by_cases c3 : R.2.1 (B.2.1 i) = 3
        · rw [if_pos c3, if_pos c3, show (0 : Int32) = nI 0 from rfl, ite_e (by omega) (by decide), bsome, rS1, bsome, hB.1, show nI B.2.2.1 - 1 = nI (B.2.2.1 - 1) from pk_sub (b := 1) (by omega), ite_e (by omega) (by omega)]
          unfold m_X8_fails_86 m_X8_fails_93
          rw [show nI (hale B.2.2.2.1) + 1 = nI (hale B.2.2.2.1 + 1) from nI_1 _]
          by_cases z : i = 0
          · rw [if_pos z, if_pos (Or.inl (by unfold bfO; rw [if_pos z]))]
          · rw [if_neg z]
            by_cases z2 : i = B.2.2.1 - 1
            · rw [if_pos z2, if_pos (Or.inr (by unfold afO; rw [if_neg (by omega)]))]
            · rw [if_neg z2, if_neg, Nat.add_zero]
              rintro (e | e)
              · unfold bfO at e
                rw [if_neg z] at e
                cases e
              · unfold afO at e
                rw [if_pos (by omega)] at e
                cases e
        · rw [if_neg c3, if_neg c3, if_pos (show R.2.1 (B.2.1 i) = 4 by omega), g8r, allSit_in hB wB o1 hm6 hi hse, bsome]
          dsimp only
          have hs64 : sbN R.1 R.2.2.1 (B.2.1 i) < 64 := sbN_lt o1
          have hand : (setO (bfO B.2.1 i) ||| setO (afO B.2.1 B.2.2.1 i)) &&& sbN R.1 R.2.2.1 (B.2.1 i) ≤ sbN R.1 R.2.2.1 (B.2.1 i) := Nat.and_le_right
          have z1 := comN_le R.2.2.2 (B.2.1 i) (bfO B.2.1 i)
          have z2 := comN_le R.2.2.2 (B.2.1 i) (afO B.2.1 B.2.2.1 i)
          rw [g8r, allStood_ok hR ⟨o1, o2, o3, o4⟩ hm, bsome]
          dsimp only
          have e9 := pc6_nb hs64 _ _ (bfO_lt w2 hi) (afO_lt w2) (bf_af_ne wB hi) R.2.2.2 (B.2.1 i) (ws _ hm)
          rw [and_nI, ones_ok (by omega), bsome]
          dsimp only
          rw [show (4 : Int32) - nI (pc6 ((setO (bfO B.2.1 i) ||| setO (afO B.2.1 B.2.2.1 i)) &&& sbN R.1 R.2.2.1 (B.2.1 i))) = nI (4 - pc6 ((setO (bfO B.2.1 i) ||| setO (afO B.2.1 B.2.2.1 i)) &&& sbN R.1 R.2.2.1 (B.2.1 i))) from pk_sub (a := 4) (by omega), ws _ hm, Nat.and_comm]
theorem fails_ok (hR : Mr S R) (hB : Mb S R.1 B) (wR : Wr R) (wB : Wb R.1 B) {i : Nat} (hi : i < B.2.2.1) : m_X8_fails 0 (nI (B.2.1 i)) (mh S Le As Oo M) = some (nI (lossN R.2.1 R.2.2.2 B.2.2.2.1 (B.2.1 i) (bfO B.2.1 i) (afO B.2.1 B.2.2.1 i)), mh S Le As Oo M) := by
  have hy := wB.1.2.1
  have e := fails16_ok (Le := Le) (As := As) (Oo := Oo) (M := M) hR hB wR wB hi
  unfold m_X8_fails
  rw [g80, bsome, rS2, bsome, hB.2.1, ite_par (by omega)]
  unfold hale at e
  by_cases q : B.2.2.2.1 % 2 = 0
  · rw [if_pos q] at e ⊢
    exact e
  · rw [if_neg q] at e ⊢
    exact e
/-! less -/
theorem less_loop (hR : Mr S R) (hB : Mb S R.1 B) (wR : Wr R) (wB : Wb R.1 B) : ∀ (k j f : Nat) (Le : Nat → Int32), j + k = R.1 → k < f → (∀ m, m < j → Le m = nI (losN R.2.1 R.2.2.2 B m)) → ∃ Le2, m_X8_passes_2 f 0 (nI j) (mh S Le As Oo M) = m_X8_passes_46 1000 0 0 (mh S Le2 As Oo M) ∧ ∀ m, m < R.1 → Le2 m = nI (losN R.2.1 R.2.2.2 B m) := by
  have o1 := wR.1.1
  have w2 : ∀ i, i < B.2.2.1 → B.2.1 i < 6 := fun i hi => by have := wB.2.2.1 i hi; omega
  have hk6 := wB.2.1
  obtain ⟨e1, e2⟩ := sp_who_ok w2
  intro k
  induction k with
  | zero =>
    intro j f Le hj hf hL
    obtain ⟨g, rfl⟩ := fuel_s hf
    refine ⟨Le, ?_, fun m hm => hL m (by omega)⟩
    unfold m_X8_passes_2
    rw [g80, bsome, rS0, bsome, hR.1, if_pos (nI_le (by omega) (by omega))]
  | succ k ih =>
    intro j f Le hj hf hL
    obtain ⟨g, rfl⟩ := fuel_s hf
    have hj6 : j < 6 := by omega
    obtain ⟨Le2, h1, h2⟩ := ih (j + 1) g (updN Le j (nI (losN R.2.1 R.2.2.2 B j))) (by omega) (by omega) (fun m hm => by
      unfold updN
      by_cases e : m = j
      · rw [if_pos e, e]
      · rw [if_neg e]
        exact hL m (by omega))
    refine ⟨Le2, ?_, h2⟩
    rw [← h1]
    conv => lhs; unfold m_X8_passes_2
    rw [g80, bsome, rS0, bsome, hR.1, if_neg (nI_ge (by omega) (by omega)), g8b, bsome, g8r, bench_ok hB (by omega), bsome]
    dsimp only
    rw [has_ok, bsome, e1]
    dsimp only
    rw [bit_ite e2 hj6, whoN_bit]
    unfold m_X8_passes_37
    by_cases q : ∃ i, i < B.2.2.1 ∧ B.2.1 i = j
    · obtain ⟨i, hi, rfl⟩ := q
      rw [if_pos (by
        rw [Bool.or_eq_true]
        exact Or.inr ((anyN_iff _ _ _).mpr ⟨i, Nat.zero_le _, by omega, beq_self_eq_true _⟩)), g8r, fails_ok hR hB wR wB hi, bsome]
      dsimp only
      rw [wLe hj6, bsome, losN_in wB hi, nI_1]
    · rw [if_neg (by
        rw [Bool.or_eq_true]
        rintro (z | z)
        · rw [Nat.zero_testBit] at z
          cases z
        · obtain ⟨i, -, hi, e⟩ := (anyN_iff _ _ _).mp z
          exact q ⟨i, by omega, beq_iff_eq.mp e⟩), wLe hj6, bsome, losN_out (fun i hi e => q ⟨i, hi, e⟩), nI_1]
      rfl
/-- lives set so far -/
def lvM (S : Nat → Int32) (lw : Nat → Nat) (j : Nat) : Nat → Int32 := fun i => if 4 ≤ i ∧ i < 4 + j then nI (lw (i - 4)) else S i
theorem lvM_s (S : Nat → Int32) (lw : Nat → Nat) (j : Nat) : updN (lvM S lw j) (4 + j) (nI (lw j)) = lvM S lw (j + 1) := by
  funext i
  unfold updN lvM
  by_cases e : i = 4 + j
  · rw [if_pos e, if_pos (by omega), e, Nat.add_sub_cancel_left]
  · rw [if_neg e]
    by_cases q : 4 ≤ i ∧ i < 4 + j
    · rw [if_pos q, if_pos (by omega)]
    · rw [if_neg q, if_neg (by omega)]
theorem lvM_n {S : Nat → Int32} {lw : Nat → Nat} {j i : Nat} (h : i < 4 ∨ 4 + j ≤ i) : lvM S lw j i = S i := if_neg (by omega)
theorem lives_loop (hR : Mr S R) (hB : Mb S R.1 B) (o1 : R.1 ≤ 6) (hl : ∀ m, m < 6 → B.1 m < 100) {los : Nat → Nat} (hlos : ∀ m, los m < 100) (hLe : ∀ m, m < R.1 → Le m = nI (los m)) : ∀ (k j f : Nat), j + k = R.1 → k < f → m_X8_passes_46 f 0 (nI j) (mh (lvM S (fun m => B.1 m - los m) j) Le As Oo M) = m_X8_passes_110 1000 0 0 0 (mh (lvM S (fun m => B.1 m - los m) R.1) Le As Oo M) := by
  intro k
  induction k with
  | zero =>
    intro j f hj hf
    obtain ⟨g, rfl⟩ := fuel_s hf
    obtain rfl : j = R.1 := by omega
    unfold m_X8_passes_46
    rw [g80, bsome, rS0, bsome, lvM_n (by omega), hR.1, if_pos (nI_le (by omega) (by omega))]
  | succ k ih =>
    intro j f hj hf
    obtain ⟨g, rfl⟩ := fuel_s hf
    have hb := hl j (by omega)
    have hc := hlos j
    unfold m_X8_passes_46 m_X8_passes_99
    rw [g80, bsome, rS0, bsome, lvM_n (by omega), hR.1, if_neg (nI_ge (by omega) (by omega)), bsome, bsome, ix4, rS (by omega), bsome, lvM_n (by omega), hB.2.2.2.1 j (by omega), g8b, bsome, rLe (by omega), bsome, hLe j (by omega), ite_le (by omega) (by omega)]
    simp only [bsome, rS (show 4 + j < 161 by omega), rLe (show j < 6 by omega), wS (show 4 + j < 161 by omega), nI_1, lvM_n (S := S) (lw := fun m => B.1 m - los m) (j := j) (i := 4 + j) (by omega), hB.2.2.2.1 j (by omega), hLe j (by omega)]
    have e := lvM_s S (fun m => B.1 m - los m) j
    by_cases q : B.1 j ≤ los j
    · rw [show B.1 j - los j = 0 by omega] at e
      rw [if_pos q, show updN (lvM S (fun m => B.1 m - los m) j) (4 + j) 0 = lvM S (fun m => B.1 m - los m) (j + 1) from e, ih (j + 1) g (by omega) (by omega)]
    · rw [if_neg q, pk_sub (by omega), e, ih (j + 1) g (by omega) (by omega)]
/-! who is left closes up -/
theorem close_loop {lw sv : Nat → Nat} {n k0 : Nat} {S0 : Nat → Int32} (hk : k0 ≤ 6) (hn : n ≤ 6) (hs : ∀ i, i < k0 → sv i < n) (hlw : ∀ m, m < n → lw m < 100) : ∀ (t j f c : Nat) (S : Nat → Int32), j + t = k0 → t < f → c = (kpt lw sv j).length → S 1 = nI k0 → (∀ m, m < n → S (4 + m) = nI (lw m)) → (∀ i, j ≤ i → i < k0 → S (10 + i) = nI (sv i)) → (∀ i, i < c → S (10 + i) = nI ((kpt lw sv j).getD i 0)) → (∀ i, i < 10 ∨ 16 ≤ i → S i = S0 i) →
    ∃ S2, m_X8_passes_110 f 0 (nI c) (nI j) (mh S Le As Oo M) = some (mh S2 Le As Oo M) ∧ S2 1 = nI (kpt lw sv k0).length ∧ S2 2 = S0 2 + 1 ∧ (∀ i, i < (kpt lw sv k0).length → S2 (10 + i) = nI ((kpt lw sv k0).getD i 0)) ∧ (∀ i, i = 0 ∨ i = 3 ∨ (4 ≤ i ∧ i < 10) ∨ 16 ≤ i → S2 i = S0 i) := by
  intro t
  induction t with
  | zero =>
    intro j f c S hj hf hc h1 h2 h3 h4 h5
    obtain ⟨g, rfl⟩ := fuel_s hf
    obtain rfl : j = k0 := by omega
    refine ⟨updN (updN S 1 (nI c)) 2 (S 2 + 1), ?_, ?_, ?_, fun i hi => ?_, fun i hi => ?_⟩
    · unfold m_X8_passes_110
      rw [g80, bsome, rS1, bsome, h1, if_pos (nI_le (by omega) (by omega)), bsome, wS1, bsome, g80, bsome, rS2, bsome, wS2, bsome]
      rfl
    · rw [← hc]
      rfl
    · show S 2 + 1 = _
      rw [h5 2 (by omega)]
    · have := kpt_le lw sv j
      rw [updN_n (by omega), updN_n (by omega), h4 i (by omega)]
    · rw [updN_n (by omega), updN_n (by omega), h5 i (by omega)]
  | succ t ih =>
    intro j f c S hj hf hc h1 h2 h3 h4 h5
    obtain ⟨g, rfl⟩ := fuel_s hf
    have hsj := hs j (by omega)
    have hl := hlw _ hsj
    have hcj : c ≤ j := by rw [hc]; exact kpt_le _ _ _
    have hks := kpt_s lw sv j
    have key : m_X8_passes_110 (g + 1) 0 (nI c) (nI j) (mh S Le As Oo M) = m_X8_passes_110 g 0 (nI (c + if lw (sv j) = 0 then 0 else 1)) (nI (j + 1)) (mh (updN S (10 + c) (nI (sv j))) Le As Oo M) := by
      conv => lhs; unfold m_X8_passes_110
      unfold m_X8_passes_157
      rw [g80, bsome, rS1, bsome, h1, if_neg (nI_ge (by omega) (by omega)), bsome, ix10, rS (by omega), bsome, h3 j (Nat.le_refl _) (by omega), bsome, ix10, wS (by omega), bsome, g80, bsome, ix4, rS (by omega), bsome, updN_n (by omega), h2 _ hsj, le0 (by omega), nI_1, nI_1, show nI c + 0 = nI (c + 0) from nI_add c 0]
      split <;> rfl
    rw [key]
    have f1 : (updN S (10 + c) (nI (sv j))) 1 = nI k0 := by rw [updN_n (by omega)]; exact h1
    have f2 : ∀ m, m < n → updN S (10 + c) (nI (sv j)) (4 + m) = nI (lw m) := fun m hm => by rw [updN_n (by omega)]; exact h2 m hm
    have f3 : ∀ i, j + 1 ≤ i → i < k0 → updN S (10 + c) (nI (sv j)) (10 + i) = nI (sv i) := fun i a b => by rw [updN_n (by omega)]; exact h3 i (by omega) b
    have f5 : ∀ i, i < 10 ∨ 16 ≤ i → updN S (10 + c) (nI (sv j)) i = S0 i := fun i a => by rw [updN_n (by omega)]; exact h5 i a
    by_cases z : lw (sv j) = 0
    · rw [if_pos z, List.append_nil] at hks
      rw [if_pos z, Nat.add_zero]
      exact ih (j + 1) g c _ (by omega) (by omega) (by rw [hks]; exact hc) f1 f2 f3 (fun i hi => by rw [hks, updN_n (by omega)]; exact h4 i hi) f5
    · rw [if_neg z] at hks
      rw [if_neg z]
      refine ih (j + 1) g (c + 1) _ (by omega) (by omega) (by rw [hks, List.length_append, List.length_singleton]; omega) f1 f2 f3 (fun i hi => ?_) f5
      rw [hks]
      by_cases e : i = c
      · subst e
        rw [updN_s, List.getD_eq_getElem?_getD, List.getElem?_append_right (by omega), hc, Nat.sub_self]
        rfl
      · rw [updN_n (by omega), h4 i (by omega), List.getD_eq_getElem?_getD, List.getD_eq_getElem?_getD, List.getElem?_append_left (by omega)]
/-- the model's year is the class's -/
theorem passes_ok (hR : Mr S R) (hB : Mb S R.1 B) (wR : Wr R) (wB : Wb R.1 B) : ∃ S2 Le2, m_X8_passes 0 (mh S Le As Oo M) = some (mh S2 Le2 As Oo M) ∧ Mb S2 R.1 (yrB R.2.1 R.2.2.2 B) ∧ (∀ i, i = 0 ∨ i = 3 ∨ 16 ≤ i → S2 i = S i) := by
  have o1 := wR.1.1
  obtain ⟨c1, c2, c3⟩ := yrB_char (kd := R.2.1) (sb := R.2.2.2) wB
  obtain ⟨Le2, e1, h1⟩ := less_loop (As := As) (Oo := Oo) (M := M) hR hB wR wB R.1 0 1000 Le (by omega) (by omega) (fun m hm => by omega)
  have hlos : ∀ m, losN R.2.1 R.2.2.2 B m < 100 := fun m => by
    unfold losN
    split
    · exact Nat.lt_of_le_of_lt (lossN_le _ _ _ _ _ _) (by decide)
    · decide
  have e2 := lives_loop (Le := Le2) (As := As) (Oo := Oo) (M := M) hR hB o1 wB.1.2.2.2 hlos h1 R.1 0 1000 (by omega) (by omega)
  rw [show lvM S (fun m => B.1 m - losN R.2.1 R.2.2.2 B m) 0 = S from by funext i; exact lvM_n (by omega)] at e2
  have hk6 : B.2.2.1 ≤ 6 := wB.1.1
  obtain ⟨S2, e3, h2, h3, h4, h5⟩ := close_loop (Le := Le2) (As := As) (Oo := Oo) (M := M) (lw := lvY R.2.1 R.2.2.2 B) (sv := B.2.1) (n := R.1) (k0 := B.2.2.1) (S0 := lvM S (lvY R.2.1 R.2.2.2 B) R.1) hk6 o1 wB.2.2.1 (fun m hm => by
    have := wB.1.2.2.2 m (by omega)
    unfold lvY
    omega) B.2.2.1 0 1000 0 (lvM S (lvY R.2.1 R.2.2.2 B) R.1) (by omega) (by omega) rfl (by rw [lvM_n (by omega)]; exact hB.1) (fun m hm => by unfold lvM; rw [if_pos (by omega), Nat.add_sub_cancel_left]) (fun i _ hi => by rw [lvM_n (by omega)]; exact hB.2.2.2.2 i hi) (fun i hi => by omega) (fun i _ => rfl)
  refine ⟨S2, Le2, ?_, ⟨?_, ?_, ?_, fun m hm => ?_, fun j hj => ?_⟩, fun i hi => ?_⟩
  · show m_X8_passes_2 1000 0 (nI 0) (mh S Le As Oo M) = _
    rw [e1]
    exact e2.trans e3
  · rw [c2]
    exact h2
  · rw [h3, lvM_n (by omega), hB.2.1]
    exact nI_1 _
  · rw [h5 3 (by omega), lvM_n (by omega)]
    exact hB.2.2.1
  · rw [h5 _ (by omega), c1]
    unfold lvM
    rw [if_pos (by omega), Nat.add_sub_cancel_left]
  · rw [c2] at hj
    rw [h4 j hj, c3 j hj]
  · rw [h5 i (by omega)]
    unfold lvM
    rw [if_neg (by omega)]
end MY
