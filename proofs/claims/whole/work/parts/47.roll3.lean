/-! who stood by whom, found anew; a roll taken over; wrong pairs -/
theorem or_lt64 {w j : Nat} (hw : w < 64) (hj : j < 6) : w ||| 2 ^ j < 64 := by
  have h1 : 2 ^ j < 2 ^ 6 := Nat.pow_lt_pow_right (by decide) hj
  exact Nat.or_lt_two_pow (n := 6) hw h1
theorem sbS_lt {n m : Nat} {pl : Nat → Nat → Nat} : ∀ (k j w : Nat), j + k ≤ 6 → w < 64 → sbS n pl m j k w < 64 := by
  intro k
  induction k with
  | zero => intro j w _ hw; exact hw
  | succ k ih =>
    intro j w hj hw
    show sbS n pl m (j + 1) k _ < 64
    refine ih _ _ (by omega) ?_
    split
    · exact or_lt64 hw (by omega)
    · exact hw
/-- what is found: who stood by m -/
def sbN (n : Nat) (pl : Nat → Nat → Nat) (m : Nat) : Nat := sbS n pl m 0 n 0
theorem sbN_lt {n m : Nat} {pl : Nat → Nat → Nat} (hn : n ≤ 6) : sbN n pl m < 64 := sbS_lt n 0 0 (by omega) (by decide)
theorem sbS_bit {n m q : Nat} {pl : Nat → Nat → Nat} : ∀ (k j w : Nat), (sbS n pl m j k w).testBit q = (w.testBit q || (decide (j ≤ q) && decide (q < j + k) && (decide (q ≠ m) && tog n pl m q))) := by
  intro k
  induction k with
  | zero =>
    intro j w
    show w.testBit q = _
    have : (decide (j ≤ q) && decide (q < j + 0)) = false := by
      simp only [Bool.and_eq_false_iff, decide_eq_false_iff_not]
      omega
    rw [this]
    simp
  | succ k ih =>
    intro j w
    show (sbS n pl m (j + 1) k (if j ≠ m ∧ tog n pl m j = true then w ||| 2 ^ j else w)).testBit q = _
    rw [ih]
    by_cases e : q = j
    · subst e
      have e1 : decide (q + 1 ≤ q) = false := decide_eq_false (by omega)
      have e2 : decide (q ≤ q) = true := decide_eq_true (Nat.le_refl _)
      have e3 : decide (q < q + (k + 1)) = true := decide_eq_true (by omega)
      rw [e1, e2, e3]
      by_cases c : q ≠ m ∧ tog n pl m q = true
      · rw [if_pos c, c.2, decide_eq_true c.1, Nat.testBit_or, Nat.testBit_two_pow_self]
        simp
      · rw [if_neg c]
        have : (decide (q ≠ m) && tog n pl m q) = false := by
          rw [Bool.eq_false_iff]
          intro z
          rw [Bool.and_eq_true, decide_eq_true_eq] at z
          exact c z
        rw [this]
        simp
    · have e1 : decide (j + 1 ≤ q) = decide (j ≤ q) := decide_eq_decide.mpr (by omega)
      have e2 : decide (q < j + 1 + k) = decide (q < j + (k + 1)) := decide_eq_decide.mpr (by omega)
      rw [e1, e2]
      congr 1
      split
      · rw [Nat.testBit_or, Nat.testBit_two_pow_of_ne (fun z => e z.symm)]
        simp
      · rfl
theorem sbN_bit {n m q : Nat} {pl : Nat → Nat → Nat} : (sbN n pl m).testBit q = (decide (q < n) && (decide (q ≠ m) && tog n pl m q)) := by
  unfold sbN
  rw [sbS_bit]
  simp
section FND
variable {r n : Nat} {kd : Nat → Nat} {pl : Nat → Nat → Nat}
theorem find_inner (hn : n ≤ 6) (hp : ∀ t, t < 3 → ∀ m, m < 6 → pl t m < 100) {m : Nat} (hm : m < 6) (k2 : Nat → Int32 → bb_H → Option bb_H) : ∀ (k j f : Nat) (h : bb_H) (sb : Nat → Nat), j + k = n → k < f → sb m < 64 → rlAt h r (n, kd, pl, sb) → m_X3_findWhoStoodBy_19 k2 f r (nI m) (nI j) h = k2 r (nI (m + 1)) (rlSet h r (n, kd, pl, updN sb m (sbS n pl m j k (sb m)))) := by
  intro k
  induction k with
  | zero =>
    intro j f h sb hj hf hs A
    obtain ⟨g, rfl⟩ := fuel_s hf
    unfold m_X3_findWhoStoodBy_19
    rw [A.g0, bsome, if_pos (nI_le (by omega) (by omega)), nI_1]
    congr 1
    have e : updN sb m (sbS n pl m j 0 (sb m)) = sb := by
      funext i
      unfold updN
      split
      · rename_i e; rw [e]; rfl
      · rfl
    rw [e, A.eq]
  | succ k ih =>
    intro j f h sb hj hf hs A
    obtain ⟨g, rfl⟩ := fuel_s hf
    unfold m_X3_findWhoStoodBy_19 m_X3_findWhoStoodBy_53
    rw [A.g0, bsome, if_neg (nI_ge (by omega) (by omega)), ite_e (by omega) (by omega), nI_1]
    show _ = k2 r (nI (m + 1)) (rlSet h r (n, kd, pl, updN sb m (sbS n pl m (j + 1) k (if j ≠ m ∧ tog n pl m j = true then sb m ||| 2 ^ j else sb m))))
    by_cases e : j = m
    · rw [if_pos e, if_neg (fun z => z.1 e), ih (j + 1) g h sb (by omega) (by omega) hs A]
    · rw [if_neg e, A.rcv, together_ok A hn hp hm (by omega), bsome]
      dsimp only
      rw [ite_b]
      cases q : tog n pl m j with
      | false =>
        rw [if_neg (by decide), if_neg (fun z => absurd z.2 (by decide)), ih (j + 1) g h sb (by omega) (by omega) hs A]
      | true =>
        rw [if_pos rfl, if_pos ⟨e, rfl⟩, A.g3, bsome, A.ab hm, bsome, one_shl (by omega), or_nI, A.wb hm, bsome]
        have A1 := A.set (n, kd, pl, updN sb m (sb m ||| 2 ^ j))
        rw [ih (j + 1) g _ _ (by omega) (by omega) (by rw [updN_s]; exact or_lt64 hs (by omega)) A1, rlSet_rl A.len, updN_s]
        congr 2
        congr 3
        funext i
        unfold updN
        split <;> rfl
/-- the sets found so far -/
def sbF (n : Nat) (pl : Nat → Nat → Nat) (sb : Nat → Nat) (j : Nat) : Nat → Nat := fun m => if m < j then sbN n pl m else sb m
theorem find_outer (hn : n ≤ 6) (hp : ∀ t, t < 3 → ∀ m, m < 6 → pl t m < 100) {sb : Nat → Nat} : ∀ (k j f : Nat) (h : bb_H), j + k = n → k < f → rlAt h r (n, kd, pl, sbF n pl sb j) → m_X3_findWhoStoodBy_2 f r (nI j) h = some (rlSet h r (n, kd, pl, sbF n pl sb n)) := by
  intro k
  induction k with
  | zero =>
    intro j f h hj hf A
    obtain ⟨g, rfl⟩ := fuel_s hf
    unfold m_X3_findWhoStoodBy_2
    rw [A.g0, bsome, if_pos (nI_le (by omega) (by omega))]
    obtain rfl : j = n := by omega
    rw [A.eq]
  | succ k ih =>
    intro j f h hj hf A
    obtain ⟨g, rfl⟩ := fuel_s hf
    unfold m_X3_findWhoStoodBy_2
    rw [A.g0, bsome, if_neg (nI_ge (by omega) (by omega)), A.g3, bsome, show (0 : Int32) = nI 0 from rfl, A.wb (by omega), bsome]
    have A1 := A.set (n, kd, pl, updN (sbF n pl sb j) j 0)
    rw [find_inner hn hp (by omega) _ n 0 1000 _ _ (by omega) (by omega) (by rw [updN_s]; decide) A1, rlSet_rl A.len, updN_s]
    have e : updN (updN (sbF n pl sb j) j 0) j (sbS n pl j 0 n 0) = sbF n pl sb (j + 1) := by
      funext i
      unfold updN sbF
      by_cases e : i = j
      · subst e
        rw [if_pos rfl, if_pos (by omega)]
        rfl
      · rw [if_neg e, if_neg e]
        by_cases q : i < j
        · rw [if_pos q, if_pos (by omega)]
        · rw [if_neg q, if_neg (by omega)]
    rw [e, ih (j + 1) g _ (by omega) (by omega) (A.set _), rlSet_rl A.len]
theorem find_ok {h : bb_H} {sb : Nat → Nat} (A : rlAt h r (n, kd, pl, sb)) (hn : n ≤ 6) (hp : ∀ t, t < 3 → ∀ m, m < 6 → pl t m < 100) : m_X3_findWhoStoodBy r h = some (rlSet h r (n, kd, pl, sbF n pl sb n)) := by
  unfold m_X3_findWhoStoodBy
  refine find_outer hn hp n 0 1000 h (by omega) (by omega) ?_
  rw [show sbF n pl sb 0 = sb from by funext i; unfold sbF; rw [if_neg (by omega)]]
  exact A
end FND
/-! one roll takes another over -/
section RTK
variable {o b no : Nat} {ko so : Nat → Nat} {po : Nat → Nat → Nat}
/-- places taken over: the first j men at all hours, and man j at the first t -/
def cpy3 (f g : Nat → Nat → Nat) (j t : Nat) : Nat → Nat → Nat := fun u i => if i < j ∨ (i = j ∧ u < t) then f u i else g u i
theorem cpy3_s (f g : Nat → Nat → Nat) (j t : Nat) : updN (cpy3 f g j t) t (updN (cpy3 f g j t t) j (f t j)) = cpy3 f g j (t + 1) := by
  funext u i
  unfold updN cpy3
  by_cases e : u = t
  · subst e
    rw [if_pos rfl]
    by_cases q : i = j
    · subst q
      rw [if_pos rfl, if_pos (by omega)]
    · rw [if_neg q]
      by_cases w : i < j
      · rw [if_pos (by omega), if_pos (by omega)]
      · rw [if_neg (by omega), if_neg (by omega)]
  · rw [if_neg e]
    by_cases w : i < j ∨ (i = j ∧ u < t)
    · rw [if_pos w, if_pos (by omega)]
    · rw [if_neg w, if_neg (by omega)]
theorem cpy3_e (f g : Nat → Nat → Nat) (j : Nat) : ∀ t, t < 3 → cpy3 f g j 3 t = cpy3 f g (j + 1) 0 t := by
  intro t ht
  funext i
  unfold cpy3
  by_cases w : i < j + 1
  · rw [if_pos (by omega), if_pos (by omega)]
  · rw [if_neg (by omega), if_neg (by omega)]
theorem rtake_in {k10 : Nat → Nat → Int32 → bb_H → Option bb_H} (hd : b + 7 ≤ o ∨ o + 7 ≤ b) {j : Nat} (hj : j < 6) : ∀ (k t f : Nat) (h : bb_H) (n : Nat) (kd sb : Nat → Nat) (g : Nat → Nat → Nat), t + k = 3 → k < f → rlAt h o (no, ko, po, so) → rlAt h b (n, kd, cpy3 po g j t, sb) → m_X3_takeFrom_42 k10 f b o (nI j) (nI t) h = k10 b o (nI (j + 1)) (rlSet h b (n, kd, cpy3 po g j 3, sb)) := by
  intro k
  induction k with
  | zero =>
    intro t f h n kd sb g ht hf O A
    obtain ⟨e, rfl⟩ := fuel_s hf
    obtain rfl : t = 3 := by omega
    unfold m_X3_takeFrom_42
    rw [if_pos (by decide), nI_1, A.eq]
  | succ k ih =>
    intro t f h n kd sb g ht hf O A
    obtain ⟨e, rfl⟩ := fuel_s hf
    unfold m_X3_takeFrom_42
    rw [if_neg (show ¬ (3 : Int32) ≤ nI t from Lge 3 (by omega) (by decide)), A.g2, bsome, A.ar (by omega), bsome, O.g2, bsome, O.ar (by omega), bsome, O.ap (by omega) hj, bsome, A.wp (by omega) hj, bsome, cpy3_s, nI_1, ih (t + 1) e _ n kd sb g (by omega) (by omega) (O.rl (by omega)) (A.set _), rlSet_rl A.len]
theorem rtake_out (hd : b + 7 ≤ o ∨ o + 7 ≤ b) : ∀ (k j f : Nat) (h : bb_H) (n : Nat) (kd sb : Nat → Nat) (g : Nat → Nat → Nat), j + k = 6 → k < f → rlAt h o (no, ko, po, so) → rlAt h b (n, cpyN ko kd j, cpy3 po g j 0, cpyN so sb j) → m_X3_takeFrom_10 f b o (nI j) h = some (rlSet h b (n, ko, po, so)) := by
  intro k
  induction k with
  | zero =>
    intro j f h n kd sb g hj hf O A
    obtain ⟨e, rfl⟩ := fuel_s hf
    obtain rfl : j = 6 := by omega
    unfold m_X3_takeFrom_10
    rw [if_pos (by decide)]
    rw [← rlSet_cong (h := h) (r := b) (n := n) (kd := cpyN ko kd 6) (kd2 := ko) (pl := cpy3 po g 6 0) (pl2 := po) (sb := cpyN so sb 6) (sb2 := so) (fun k hk => if_pos hk) (fun t _ k hk => if_pos (Or.inl hk)) (fun k hk => if_pos hk), A.eq]
  | succ k ih =>
    intro j f h n kd sb g hj hf O A
    obtain ⟨e, rfl⟩ := fuel_s hf
    unfold m_X3_takeFrom_10
    rw [if_neg (show ¬ (6 : Int32) ≤ nI j from Lge 6 (by omega) (by decide)), A.g1, bsome, O.g1, bsome, O.ak (by omega), bsome, A.wk (by omega), bsome, cpyN_s]
    have A1 := A.set (n, cpyN ko kd (j + 1), cpy3 po g j 0, cpyN so sb j)
    have O1 := O.rl (r2 := b) (R2 := (n, cpyN ko kd (j + 1), cpy3 po g j 0, cpyN so sb j)) (by omega)
    rw [A1.g3, bsome, O1.g3, bsome, O1.ab (by omega), bsome, A1.wb (by omega), bsome, cpyN_s, rlSet_rl A.len]
    have A2 := A.set (n, cpyN ko kd (j + 1), cpy3 po g j 0, cpyN so sb (j + 1))
    have O2 := O.rl (r2 := b) (R2 := (n, cpyN ko kd (j + 1), cpy3 po g j 0, cpyN so sb (j + 1))) (by omega)
    rw [show (0 : Int32) = nI 0 from rfl, rtake_in hd (by omega) 3 0 1000 _ n _ _ g (by omega) (by omega) O2 A2, rlSet_rl A.len, rlSet_cong (kd2 := cpyN ko kd (j + 1)) (pl2 := cpy3 po g (j + 1) 0) (sb2 := cpyN so sb (j + 1)) (fun _ _ => rfl) (fun t ht k _ => by rw [cpy3_e po g j t ht]) (fun _ _ => rfl)]
    have A3 := A.set (n, cpyN ko kd (j + 1), cpy3 po g (j + 1) 0, cpyN so sb (j + 1))
    rw [ih (j + 1) e _ n kd sb g (by omega) (by omega) (O.rl (by omega)) A3, rlSet_rl A.len]
theorem rtake_ok {h : bb_H} {R O : Rl} (hd : b + 7 ≤ o ∨ o + 7 ≤ b) (hO : rlAt h o O) (hA : rlAt h b R) : m_X3_takeFrom b o h = some (rlSet h b O) := by
  obtain ⟨no, ko, po, so⟩ := O
  obtain ⟨n, kd, pl, sb⟩ := R
  unfold m_X3_takeFrom
  rw [hO.g0, bsome, hA.p0, bsome]
  rw [show (0 : Int32) = nI 0 from rfl, rtake_out hd 6 0 1000 _ no kd sb pl (by omega) (by omega) (hO.rl (by omega)) (hA.set (no, kd, pl, sb)), rlSet_rl hA.len]
end RTK
/-! wrong pairs of a row -/
def wrP (p : Nat → Nat → Bool) (sv : Nat → Nat) : Nat → Nat → Nat → Nat
  | _, 0, w => w
  | j, k + 1, w => wrP p sv (j + 1) k (if p (sv (j - 1)) (sv j) then w else w + 1)
theorem wrP_le (p : Nat → Nat → Bool) (sv : Nat → Nat) : ∀ (k j w : Nat), wrP p sv j k w ≤ w + k := by
  intro k
  induction k with
  | zero => intro j w; exact Nat.le_refl _
  | succ k ih =>
    intro j w
    show wrP p sv (j + 1) k _ ≤ _
    split
    · exact Nat.le_trans (ih _ _) (by omega)
    · exact Nat.le_trans (ih _ _) (by omega)
theorem wrP_cong {p q : Nat → Nat → Bool} {sv sv2 : Nat → Nat} : ∀ (k j w : Nat), (∀ i, j ≤ i → i < j + k → p (sv (i - 1)) (sv i) = q (sv2 (i - 1)) (sv2 i)) → wrP p sv j k w = wrP q sv2 j k w := by
  intro k
  induction k with
  | zero => intro j w _; rfl
  | succ k ih =>
    intro j w h
    show wrP p sv (j + 1) k (if p (sv (j - 1)) (sv j) then w else w + 1) = wrP q sv2 (j + 1) k (if q (sv2 (j - 1)) (sv2 j) then w else w + 1)
    rw [h j (Nat.le_refl _) (by omega)]
    exact ih _ _ (fun i h1 h2 => h i (by omega) (by omega))
theorem bit_ite {α : Type} {s q : Nat} (hs : s < 64) (hq : q < 6) (x y : α) : (if hasB (nI s) (nI q) = 0 then x else y) = if s.testBit q then y else x := by
  rw [hasB_nI (by omega) (by omega)]
  cases s.testBit q <;> rfl
theorem wrong_loop {h : bb_H} {r a n k0 : Nat} {kd sb sv : Nat → Nat} {pl : Nat → Nat → Nat} (A : rlAt h r (n, kd, pl, sb)) (V : h[a]? = some (.inl .int, fnI 6 (nF sv))) (hk0 : k0 ≤ 6) (hb : ∀ m, m < 6 → sb m < 64) (hs : ∀ i, i < k0 → sv i < 6) : ∀ (k j f w : Nat), j + k = k0 → 1 ≤ j → k < f → m_X3_wrongPairs_5 f r a (nI k0) (nI w) (nI j) h = some (nI (wrP (fun x y => (sb x).testBit y) sv j k w), h) := by
  intro k
  induction k with
  | zero =>
    intro j f w hj h1 hf
    obtain ⟨g, rfl⟩ := fuel_s hf
    unfold m_X3_wrongPairs_5
    rw [if_pos (nI_le (by omega) (by omega))]
    rfl
  | succ k ih =>
    intro j f w hj h1 hf
    obtain ⟨g, rfl⟩ := fuel_s hf
    have s1 := hs (j - 1) (by omega)
    have s2 := hs j (by omega)
    unfold m_X3_wrongPairs_5 m_X3_wrongPairs_35
    rw [if_neg (nI_ge (by omega) (by omega)), A.g3, bsome, show nI j - 1 = nI (j - 1) from pk_sub (b := 1) (by omega), aI_of V (by omega) (by decide), bsome, show nF sv (j - 1) = nI (sv (j - 1)) from rfl, A.ab s1, bsome, aI_of V (by omega) (by decide), bsome, show nF sv j = nI (sv j) from rfl, holds_ok, bsome]
    dsimp only
    rw [bit_ite (hb _ s1) s2, nI_1, nI_1, ih (j + 1) g _ (by omega) (by omega) (by omega), ih (j + 1) g _ (by omega) (by omega) (by omega)]
    show _ = some (nI (wrP (fun x y => (sb x).testBit y) sv (j + 1) k (if (sb (sv (j - 1))).testBit (sv j) then w else w + 1)), h)
    cases (sb (sv (j - 1))).testBit (sv j) <;> rfl
theorem wrong_loop0 {h : bb_H} {r a k0 : Nat} (hk : k0 ≤ 1) : m_X3_wrongPairs_5 1000 r a (nI k0) 0 1 h = some (nI 0, h) := by
  unfold m_X3_wrongPairs_5
  rw [if_pos (show nI k0 ≤ (1 : Int32) from nI_le (b := 1) hk (by decide))]
  rfl
theorem wrong_ok {h : bb_H} {r a n k0 : Nat} {kd sb sv : Nat → Nat} {pl : Nat → Nat → Nat} (A : rlAt h r (n, kd, pl, sb)) (V : h[a]? = some (.inl .int, fnI 6 (nF sv))) (hk0 : k0 ≤ 6) (hb : ∀ m, m < 6 → sb m < 64) (hs : ∀ i, i < k0 → sv i < 6) : m_X3_wrongPairs r a (nI k0) h = some (nI (wrP (fun x y => (sb x).testBit y) sv 1 (k0 - 1) 0), h) := by
  unfold m_X3_wrongPairs
  by_cases q : k0 ≤ 1
  · rw [wrong_loop0 q, show k0 - 1 = 0 by omega]
    rfl
  · exact wrong_loop A V hk0 hb hs (k0 - 1) 1 1000 0 (by omega) (Nat.le_refl _) (by omega)
