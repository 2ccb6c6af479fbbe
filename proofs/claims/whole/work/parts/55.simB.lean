/-! THE LOG of the model; years, drift, move, nurse, undo -/
theorem stR_bench {S S2 : Nat → Int32} {s : St} {B2 : Bn} (hS : stR S s) (mB : Mb S2 s.1.1 B2) (wB : Wb s.1.1 B2) (hy : B2.2.2.2.1 ≤ 9999) (hc : ∀ i, i = 0 ∨ 16 ≤ i → S2 i = S i) : stR S2 (s.1, B2, s.2.2) := by
  obtain ⟨⟨a1, a2, a3⟩, -, wR, -, -, hk, h8, hx, hl⟩ := hS
  refine ⟨⟨?_, fun m hm => ?_, fun m hm t ht => ?_⟩, mB, wR, wB, hy, ?_, h8, hx, fun i hi => logE_cong (fun q hq => hc q (by omega)) (hl i hi)⟩
  · rw [hc 0 (by omega)]; exact a1
  · rw [hc _ (by omega)]; exact a2 m hm
  · rw [hc _ (by omega)]; exact a3 m hm t ht
  · rw [hc 40 (by omega)]; exact hk
def shf (S : Nat → Int32) (j : Nat) : Nat → Int32 := fun i => if 41 ≤ i ∧ i < j then S (i + 15) else S i
theorem shf_s (S : Nat → Int32) {j : Nat} (h : 41 ≤ j) : updN (shf S j) j (S (j + 15)) = shf S (j + 1) := by
  funext i
  unfold updN shf
  by_cases e : i = j
  · rw [if_pos e, if_pos (by omega), e]
  · rw [if_neg e]
    by_cases q : 41 ≤ i ∧ i < j
    · rw [if_pos q, if_pos (by omega)]
    · rw [if_neg q, if_neg (by omega)]
def cpK (S : Nat → Int32) (a j : Nat) : Nat → Int32 := fun i => if a ≤ i ∧ i < a + j then S (i - a + 1) else S i
theorem cpK_s (S : Nat → Int32) {a j : Nat} : updN (cpK S a j) (a + j) (S (1 + j)) = cpK S a (j + 1) := by
  funext i
  unfold updN cpK
  by_cases e : i = a + j
  · rw [if_pos e, if_pos (by omega), e, Nat.add_sub_cancel_left, Nat.add_comm j 1]
  · rw [if_neg e]
    by_cases q : a ≤ i ∧ i < a + j
    · rw [if_pos q, if_pos (by omega)]
    · rw [if_neg q, if_neg (by omega)]
section KPS
variable {S Le As Oo : Nat → Int32} {M : Mx}
theorem keeps15_loop : ∀ (t j f : Nat), j + t = 146 → 41 ≤ j → t < f → m_X8_keeps_15 f 0 (nI j) (mh (shf S j) Le As Oo M) = m_X8_keeps_54 0 (mh (updN (shf S 146) 40 (S 40 - 1)) Le As Oo M) := by
  intro t
  induction t with
  | zero =>
    intro j f hj h1 hf
    obtain ⟨g, rfl⟩ := fuel_s hf
    obtain rfl : j = 146 := by omega
    unfold m_X8_keeps_15
    rw [if_pos (by decide), g80, bsome, rS40, bsome, wS40, bsome]
    rfl
  | succ t ih =>
    intro j f hj h1 hf
    obtain ⟨g, rfl⟩ := fuel_s hf
    unfold m_X8_keeps_15
    rw [if_neg (show ¬ (146 : Int32) ≤ nI j from Lge 146 (by omega) (by decide)), g80, bsome, bsome, show nI j + 15 = nI (j + 15) from nI_add j 15, rS (by omega), bsome, wS (by omega), bsome, show shf S j (j + 15) = S (j + 15) from if_neg (by omega), shf_s S h1, nI_1, ih (j + 1) g (by omega) (by omega) (by omega)]
theorem keeps56_loop {now : Nat} (hn : now < 8) (h40 : S 40 = nI now) : ∀ (t j f : Nat), j + t = 15 → t < f → m_X8_keeps_56 f 0 (nI j) (mh (cpK S (41 + 15 * now) j) Le As Oo M) = some (mh (updN (cpK S (41 + 15 * now) 15) 40 (nI (now + 1))) Le As Oo M) := by
  intro t
  induction t with
  | zero =>
    intro j f hj hf
    obtain ⟨g, rfl⟩ := fuel_s hf
    obtain rfl : j = 15 := by omega
    unfold m_X8_keeps_56
    rw [if_pos (by decide), g80, bsome, rS40, bsome, wS40, bsome, show cpK S (41 + 15 * now) 15 40 = S 40 from if_neg (by omega), h40, nI_1]
  | succ t ih =>
    intro j f hj hf
    obtain ⟨g, rfl⟩ := fuel_s hf
    unfold m_X8_keeps_56
    rw [if_neg (show ¬ (15 : Int32) ≤ nI j from Lge 15 (by omega) (by decide)), g80, bsome, bsome, rS40, bsome, bsome, show (1 : Int32) + nI j = nI (1 + j) from nI_add 1 j, rS (by omega), bsome, show cpK S (41 + 15 * now) j 40 = S 40 from if_neg (by omega), h40, show (41 : Int32) + 15 * nI now + nI j = nI (41 + 15 * now + j) from by
      rw [show (15 : Int32) * nI now = nI (15 * now) from pk_mul 15 now, show (41 : Int32) + nI (15 * now) = nI (41 + 15 * now) from nI_add 41 _, nI_add], wS (by omega), bsome, show cpK S (41 + 15 * now) j (1 + j) = S (1 + j) from if_neg (by omega), cpK_s, nI_1, ih (j + 1) g (by omega) (by omega)]
theorem keeps54_ok {now : Nat} (hn : now < 8) (h40 : S 40 = nI now) : m_X8_keeps_54 0 (mh S Le As Oo M) = some (mh (updN (cpK S (41 + 15 * now) 15) 40 (nI (now + 1))) Le As Oo M) := by
  unfold m_X8_keeps_54
  have e := keeps56_loop (Le := Le) (As := As) (Oo := Oo) (M := M) hn h40 15 0 1000 rfl (by decide)
  rw [show cpK S (41 + 15 * now) 0 = S from by funext i; exact if_neg (by omega)] at e
  exact e
theorem keeps_ok {s : St} (hS : stR S s) : ∃ S2, m_X8_keeps 0 (mh S Le As Oo M) = some (mh S2 Le As Oo M) ∧ stR S2 (s.1, s.2.1, lgK s.2.2 s.2.1) := by
  obtain ⟨⟨a1, a2, a3⟩, ⟨b1, b2, b3, b4, b5⟩, wR, wB, hy, hk, h8, hx, hl⟩ := hS
  obtain ⟨R, B, kn, nx, L⟩ := s
  have o1 : R.1 ≤ 6 := wR.1.1
  have k6 : B.2.2.1 ≤ 6 := wB.1.1
  have h8' : kn ≤ 8 := h8
  have hx' : nx < 8 := hx
  dsimp only at a1 a2 a3 b1 b2 b3 b4 b5 wB hy hk hl
  by_cases q : kn = 8
  · subst q
    refine ⟨updN (cpK (updN (shf S 146) 40 (S 40 - 1)) 146 15) 40 (nI 8), ?_, ?_⟩
    · unfold m_X8_keeps
      have e := keeps15_loop (S := S) (Le := Le) (As := As) (Oo := Oo) (M := M) 105 41 1000 rfl (by decide) (by decide)
      rw [show shf S 41 = S from by funext i; exact if_neg (by omega)] at e
      rw [g80, bsome, rS40, bsome, if_pos (show S 40 = 8 from hk), show (41 : Int32) = nI 41 from rfl, e]
      have h7 : updN (shf S 146) 40 (S 40 - 1) 40 = nI 7 := by
        rw [updN_s, hk]
        decide
      have e2 := keeps54_ok (S := updN (shf S 146) 40 (S 40 - 1)) (Le := Le) (As := As) (Oo := Oo) (M := M) (now := 7) (by decide) h7
      rw [show 41 + 15 * 7 = 146 from rfl, show 7 + 1 = 8 from rfl] at e2
      exact e2
    · have hlow : ∀ i, i < 40 → updN (cpK (updN (shf S 146) 40 (S 40 - 1)) 146 15) 40 (nI 8) i = S i := fun i hi => by
        rw [updN_n (by omega)]
        unfold cpK
        rw [if_neg (by omega), updN_n (by omega)]
        exact if_neg (by omega)
      refine ⟨⟨?_, fun m hm => ?_, fun m hm t ht => ?_⟩, ⟨?_, ?_, ?_, fun m hm => ?_, fun j hj => ?_⟩, wR, wB, hy, rfl, by show min 8 9 ≤ 8; decide, Nat.mod_lt _ (by decide), fun i hi => ?_⟩
      · rw [hlow _ (by omega)]; exact a1
      · have hm : m < R.1 := hm
        rw [hlow _ (by omega)]; exact a2 m hm
      · have hm : m < R.1 := hm
        rw [hlow _ (by omega)]; exact a3 m hm t ht
      · rw [hlow _ (by omega)]; exact b1
      · rw [hlow _ (by omega)]; exact b2
      · rw [hlow _ (by omega)]; exact b3
      · have hm : m < R.1 := hm
        rw [hlow _ (by omega)]; exact b4 m hm
      · have hj : j < B.2.2.1 := hj
        rw [hlow _ (by omega)]; exact b5 j hj
      · have hi : i < 8 := hi
        show LogE _ i R.1 (updN L nx B (((nx + 1) % 8 + 8 - min 8 (8 + 1) + i) % 8))
        rw [show min 8 (8 + 1) = 8 from rfl]
        by_cases e7 : i = 7
        · subst e7
          rw [show ((nx + 1) % 8 + 8 - 8 + 7) % 8 = nx by omega, updN_s]
          have hv : ∀ q, 1 ≤ q → q < 16 → updN (cpK (updN (shf S 146) 40 (S 40 - 1)) 146 15) 40 (nI 8) (40 + 15 * 7 + q) = S q := fun q g1 g2 => by
            rw [updN_n (by omega)]
            unfold cpK
            rw [if_pos (by omega), updN_n (by omega), show 40 + 15 * 7 + q - 146 + 1 = q by omega]
            exact if_neg (by omega)
          refine ⟨⟨?_, ?_, ?_, fun m hm => ?_, fun j hj => ?_⟩, wB, hy⟩
          · exact (hv 1 (by omega) (by omega)).trans b1
          · exact (hv 2 (by omega) (by omega)).trans b2
          · exact (hv 3 (by omega) (by omega)).trans b3
          · exact (hv (4 + m) (by omega) (by omega)).trans (b4 m hm)
          · exact (hv (10 + j) (by omega) (by omega)).trans (b5 j hj)
        · have hi7 : i < 7 := by omega
          rw [updN_n (by omega), show ((nx + 1) % 8 + 8 - 8 + i) % 8 = (nx + 8 - 8 + (i + 1)) % 8 by omega]
          obtain ⟨⟨c1, c2, c3, c4, c5⟩, c6⟩ := hl (i + 1) (by show i + 1 < 8; omega)
          have k6' := c6.1.1.1
          have hv : ∀ q, 1 ≤ q → q < 16 → updN (cpK (updN (shf S 146) 40 (S 40 - 1)) 146 15) 40 (nI 8) (40 + 15 * i + q) = S (40 + 15 * (i + 1) + q) := fun q g1 g2 => by
            rw [updN_n (by omega)]
            unfold cpK
            rw [if_neg (by omega), updN_n (by omega)]
            unfold shf
            rw [if_pos (by omega), show 40 + 15 * i + q + 15 = 40 + 15 * (i + 1) + q by omega]
          refine ⟨⟨?_, ?_, ?_, fun m hm => ?_, fun j hj => ?_⟩, c6⟩
          · exact (hv 1 (by omega) (by omega)).trans c1
          · exact (hv 2 (by omega) (by omega)).trans c2
          · exact (hv 3 (by omega) (by omega)).trans c3
          · exact (hv (4 + m) (by omega) (by omega)).trans (c4 m hm)
          · exact (hv (10 + j) (by omega) (by omega)).trans (c5 j hj)
  · have hk7 : kn < 8 := by omega
    refine ⟨updN (cpK S (41 + 15 * kn) 15) 40 (nI (kn + 1)), ?_, ?_⟩
    · unfold m_X8_keeps
      rw [g80, bsome, rS40, bsome, hk, if_neg (show ¬ nI kn = (8 : Int32) from fun z => q ((nI_eq (b := 8) (by omega) (by decide)).mp z))]
      exact keeps54_ok hk7 hk
    · have hlow : ∀ i, i < 40 → updN (cpK S (41 + 15 * kn) 15) 40 (nI (kn + 1)) i = S i := fun i hi => by
        rw [updN_n (by omega)]
        exact if_neg (by omega)
      refine ⟨⟨?_, fun m hm => ?_, fun m hm t ht => ?_⟩, ⟨?_, ?_, ?_, fun m hm => ?_, fun j hj => ?_⟩, wR, wB, hy, ?_, by show min 8 (kn + 1) ≤ 8; omega, Nat.mod_lt _ (by decide), fun i hi => ?_⟩
      · rw [hlow _ (by omega)]; exact a1
      · have hm : m < R.1 := hm
        rw [hlow _ (by omega)]; exact a2 m hm
      · have hm : m < R.1 := hm
        rw [hlow _ (by omega)]; exact a3 m hm t ht
      · rw [hlow _ (by omega)]; exact b1
      · rw [hlow _ (by omega)]; exact b2
      · rw [hlow _ (by omega)]; exact b3
      · have hm : m < R.1 := hm
        rw [hlow _ (by omega)]; exact b4 m hm
      · have hj : j < B.2.2.1 := hj
        rw [hlow _ (by omega)]; exact b5 j hj
      · show updN (cpK S (41 + 15 * kn) 15) 40 (nI (kn + 1)) 40 = nI (min 8 (kn + 1))
        rw [updN_s, Nat.min_eq_right (by omega)]
      · have hi : i < min 8 (kn + 1) := hi
        show LogE _ i R.1 (updN L nx B (((nx + 1) % 8 + 8 - min 8 (kn + 1) + i) % 8))
        rw [Nat.min_eq_right (by omega)] at hi ⊢
        by_cases e7 : i = kn
        · subst e7
          rw [show ((nx + 1) % 8 + 8 - (i + 1) + i) % 8 = nx by omega, updN_s]
          have hv : ∀ q, 1 ≤ q → q < 16 → updN (cpK S (41 + 15 * i) 15) 40 (nI (i + 1)) (40 + 15 * i + q) = S q := fun q g1 g2 => by
            rw [updN_n (by omega)]
            unfold cpK
            rw [if_pos (by omega), show 40 + 15 * i + q - (41 + 15 * i) + 1 = q by omega]
          refine ⟨⟨?_, ?_, ?_, fun m hm => ?_, fun j hj => ?_⟩, wB, hy⟩
          · exact (hv 1 (by omega) (by omega)).trans b1
          · exact (hv 2 (by omega) (by omega)).trans b2
          · exact (hv 3 (by omega) (by omega)).trans b3
          · exact (hv (4 + m) (by omega) (by omega)).trans (b4 m hm)
          · exact (hv (10 + j) (by omega) (by omega)).trans (b5 j hj)
        · rw [updN_n (by omega), show ((nx + 1) % 8 + 8 - (kn + 1) + i) % 8 = (nx + 8 - kn + i) % 8 by omega]
          obtain ⟨⟨c1, c2, c3, c4, c5⟩, c6⟩ := hl i (by omega)
          have k6' := c6.1.1.1
          have hv : ∀ q, 1 ≤ q → q < 16 → updN (cpK S (41 + 15 * kn) 15) 40 (nI (kn + 1)) (40 + 15 * i + q) = S (40 + 15 * i + q) := fun q g1 g2 => by
            rw [updN_n (by omega)]
            exact if_neg (by omega)
          refine ⟨⟨?_, ?_, ?_, fun m hm => ?_, fun j hj => ?_⟩, c6⟩
          · exact (hv 1 (by omega) (by omega)).trans c1
          · exact (hv 2 (by omega) (by omega)).trans c2
          · exact (hv 3 (by omega) (by omega)).trans c3
          · exact (hv (4 + m) (by omega) (by omega)).trans (c4 m hm)
          · exact (hv (10 + j) (by omega) (by omega)).trans (c5 j hj)
/-! two change seats -/
def swI (j i : Nat) : Nat := if i = j + 1 then j else if i = j then j + 1 else i
theorem swN_eq (sv : Nat → Nat) (j i : Nat) : swN sv j i = sv (swI j i) := by
  unfold swN updN swI
  split
  · rfl
  · split <;> rfl
theorem swI_lt {j i k : Nat} (hj : j + 1 < k) (hi : i < k) : swI j i < k := by
  unfold swI
  split
  · omega
  · split <;> omega
theorem swI_inj {j a b : Nat} (h : swI j a = swI j b) : a = b := by
  unfold swI at h
  split at h <;> split at h <;> (try split at h) <;> (try split at h) <;> omega
theorem swI_sw (j i : Nat) : swI j (swI j i) = i := by
  unfold swI
  by_cases c1 : i = j + 1
  · rw [if_pos c1, if_neg (by omega), if_pos rfl, c1]
  · rw [if_neg c1]
    by_cases c2 : i = j
    · rw [if_pos c2, if_pos rfl, c2]
    · rw [if_neg c2, if_neg c1, if_neg c2]
theorem Wb_sw {n j y k : Nat} {lv sv : Nat → Nat} {d d2 : Int32} (W : Wb n (lv, sv, k, y, d)) (hj : j + 1 < k) : Wb n (lv, swN sv j, k, y, d2) := by
  obtain ⟨⟨q1, q2, q3, q4⟩, w1, w2, w3, w4⟩ := W
  refine ⟨⟨q1, q2, fun i hi => ?_, q4⟩, w1, fun i hi => ?_, fun a b ha hb e => ?_, fun m hm => ?_⟩
  · show swN sv j i < 6
    rw [swN_eq]
    exact q3 _ (swI_lt hj hi)
  · show swN sv j i < n
    rw [swN_eq]
    exact w2 _ (swI_lt hj hi)
  · have e2 : swN sv j a = swN sv j b := e
    rw [swN_eq, swN_eq] at e2
    exact swI_inj (w3 _ _ (swI_lt hj ha) (swI_lt hj hb) e2)
  · rw [w4 m hm]
    constructor
    · rintro ⟨i, hi, e⟩
      refine ⟨swI j i, swI_lt hj hi, ?_⟩
      show swN sv j (swI j i) = m
      rw [swN_eq, swI_sw]
      exact e
    · rintro ⟨i, hi, e⟩
      have e2 : swN sv j i = m := e
      rw [swN_eq] at e2
      exact ⟨swI j i, swI_lt hj hi, e2⟩
theorem changes_ok {j : Nat} (hj : j + 1 < 6) : m_X8_changes 0 (nI j) (mh S Le As Oo M) = some (mh (updN (updN S (10 + j) (S (10 + j + 1))) (10 + j + 1) (S (10 + j))) Le As Oo M) := by
  unfold m_X8_changes
  rw [g80, bsome, ix10, rS (by omega), bsome, bsome, bsome, nI_1, rS (by omega), bsome, wS (by omega), bsome, g80, bsome, wS (by omega), bsome]
theorem Mb_sw {n j y k : Nat} {lv sv : Nat → Nat} {d : Int32} (hn : n ≤ 6) (hk : k ≤ 6) (m : Mb S n (lv, sv, k, y, d)) (hj : j + 1 < k) : Mb (updN (updN S (10 + j) (S (10 + j + 1))) (10 + j + 1) (S (10 + j))) n (lv, swN sv j, k, y, d) := by
  obtain ⟨b1, b2, b3, b4, b5⟩ := m
  refine ⟨?_, ?_, ?_, fun m hm => ?_, fun i hi => ?_⟩
  · rw [updN_n (by omega), updN_n (by omega)]; exact b1
  · rw [updN_n (by omega), updN_n (by omega)]; exact b2
  · rw [updN_n (by omega), updN_n (by omega)]; exact b3
  · rw [updN_n (by omega), updN_n (by omega)]; exact b4 m hm
  · show _ = nI (swN sv j i)
    have hi : i < k := hi
    rw [swN_eq]
    unfold swI
    by_cases c1 : i = j + 1
    · rw [if_pos c1, c1, show 10 + (j + 1) = 10 + j + 1 by omega, updN_s]
      exact b5 j (show j < k by omega)
    · rw [if_neg c1, updN_n (by omega)]
      by_cases c2 : i = j
      · rw [if_pos c2, c2, updN_s]
        exact b5 (j + 1) hj
      · rw [if_neg c2, updN_n (by omega)]
        exact b5 i hi
end KPS
theorem sim_move_ok : sim_move RR := by
  intro hX hM x h0
  have h1 := h0
  obtain ⟨s, k, kf, T, X, tr, gu, O, ch, S, Le, As, Oo, M, rfl, rfl, hS, hD⟩ := h1
  have A := cB9 (s := s) (k := k) (kf := kf) (T := T) (X := X) (tr := tr) (gu := gu) (O := O) (ch := ch)
  obtain ⟨S2, kM, hS2⟩ := keeps_ok (Le := Le) (As := As) (Oo := Oo) (M := M) hS
  have kX := keep_ok (s := s) (k := k) (kf := kf) (T := T) (X := X) (tr := tr) (gu := gu) (O := O) (ch := ch) hS.2.2.2.2.2.2.1 hS.2.2.2.2.2.2.2.1
  have wR := hS.2.2.1
  have wB := hS.2.2.2.1
  have mB := hS.2.1
  obtain ⟨R, ⟨lv, sv, k0, y, d⟩, L⟩ := s
  have o1 : R.1 ≤ 6 := wR.1.1
  have k6 : k0 ≤ 6 := wB.1.1
  rcases place_or x (k0 - 1) with ⟨j, hj, rfl⟩ | q
  · have e : inB (nI j) 0 (nI k0 - 2) = 1 := inB_in (c := 1) (by omega) (by omega)
    have A2 := cB9 (s := (R, (lv, sv, k0, y, d), lgK L (lv, sv, k0, y, d))) (k := k) (kf := kf) (T := T) (X := X) (tr := tr) (gu := gu) (O := O) (ch := ch)
    refine ⟨nI (sv (j + 1)), chp (R, (lv, swN sv j, k0, y, d), lgK L (lv, sv, k0, y, d)) k kf T X tr gu O ch, mh (updN (updN S2 (10 + j) (S2 (10 + j + 1))) (10 + j + 1) (S2 (10 + j))) Le As Oo M, ?_, ?_, RR_mk (stR_bench hS2 (Mb_sw o1 k6 hS2.2.1 (by omega)) (Wb_sw wB (by omega)) hS.2.2.2.2.1 (fun i hi => by rw [updN_n (by omega), updN_n (by omega)])) hD⟩
    · unfold m_X7_move
      rw [c70, bsome, c11, bsome, A.rcv, hasPair_ok A, bsome, e, if_neg one_ne, c70, bsome, c12, bsome, clr, kX, bsome, A2.rcv, swapAt_in A2 k6 (by omega), bsome, sB9]
      have A3 := cB9 (s := (R, (lv, swN sv j, k0, y, d), lgK L (lv, sv, k0, y, d))) (k := k) (kf := kf) (T := T) (X := X) (tr := tr) (gu := gu) (O := O) (ch := ch)
      rw [A3.rcv, whoIsOn_ok A3 k6, bsome, onD_in (by omega) (by omega), swN_eq]
      unfold swI
      rw [if_neg (by omega), if_pos rfl]
    · unfold m_X8_move
      rw [g80, bsome, rS1, bsome, mB.1, in_ok, bsome, e, if_neg one_ne, g8r, kM, bsome, g8r, changes_ok (by omega), bsome, g80, bsome, ix10, rS (by omega), bsome, updN_n (by omega), updN_s]
      rw [show S2 (10 + j + 1) = nI (sv (j + 1)) from hS2.2.1.2.2.2.2 (j + 1) (show j + 1 < k0 by omega)]
  · have e : inB x 0 (nI k0 - 2) = 0 := inB_out (c := 1) (by omega) (by decide) (fun j hj => q j (by omega))
    refine ⟨-1, _, _, ?_, ?_, h0⟩
    · unfold m_X7_move
      rw [c70, bsome, c11, bsome, A.rcv, hasPair_ok A, bsome, e]
      rfl
    · unfold m_X8_move
      rw [g80, bsome, rS1, bsome, mB.1, in_ok, bsome, e]
      rfl
