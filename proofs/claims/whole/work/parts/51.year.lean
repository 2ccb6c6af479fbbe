/-! A YEAR, said once for both: what each loses, who is left -/
def whoN (sv : Nat → Nat) : Nat → Nat → Nat → Nat
  | _, 0, w => w
  | j, k + 1, w => whoN sv (j + 1) k (w ||| 2 ^ sv j)
theorem sp_who_nI {sv : Nat → Nat} : ∀ (k j w : Nat), (∀ i, j ≤ i → i < j + k → sv i < 6) → sp_who sv j k (nI w) = nI (whoN sv j k w) := by
  intro k
  induction k with
  | zero => intro j w _; rfl
  | succ k ih =>
    intro j w h
    have h1 := h j (Nat.le_refl _) (by omega)
    show sp_who sv (j + 1) k (nI w ||| (1 <<< (nI (sv j) &&& 31))) = nI (whoN sv (j + 1) k (w ||| 2 ^ sv j))
    rw [one_shl (by omega), or_nI, ih _ _ (fun i a b => h i (by omega) (by omega))]
theorem whoN_lt {sv : Nat → Nat} : ∀ (k j w : Nat), (∀ i, j ≤ i → i < j + k → sv i < 6) → w < 64 → whoN sv j k w < 64 := by
  intro k
  induction k with
  | zero => intro j w _ h; exact h
  | succ k ih =>
    intro j w h hw
    exact ih _ _ (fun i a b => h i (by omega) (by omega)) (or_lt64 hw (h j (Nat.le_refl _) (by omega)))
theorem whoN_bit {sv : Nat → Nat} {q : Nat} : ∀ (k j w : Nat), (whoN sv j k w).testBit q = (w.testBit q || anyN (fun i => sv i == q) j k) := by
  intro k
  induction k with
  | zero => intro j w; show w.testBit q = (w.testBit q || false); rw [Bool.or_false]
  | succ k ih =>
    intro j w
    show (whoN sv (j + 1) k (w ||| 2 ^ sv j)).testBit q = (w.testBit q || ((sv j == q) || anyN (fun i => sv i == q) (j + 1) k))
    rw [ih, Nat.testBit_or, Bool.or_assoc]
    congr 2
    by_cases e : sv j = q
    · rw [e, Nat.testBit_two_pow_self, beq_self_eq_true]
    · rw [Nat.testBit_two_pow_of_ne e, beq_eq_false_iff_ne.mpr e]
theorem sp_who_ok {sv : Nat → Nat} {k : Nat} (h : ∀ i, i < k → sv i < 6) : sp_who sv 0 k 0 = nI (whoN sv 0 k 0) ∧ whoN sv 0 k 0 < 64 := ⟨sp_who_nI k 0 0 (fun i _ b => h i (by omega)), whoN_lt k 0 0 (fun i _ b => h i (by omega)) (by decide)⟩
/-! ones -/
theorem ones_loop {w : Nat} (hw : w < 2 ^ 31) {h : bb_H} : ∀ (k j f a : Nat), j + k = 6 → k < f → m_X8_ones_4 f (nI w) (nI a) (nI j) h = some (nI (onL w j k a), h) := by
  intro k
  induction k with
  | zero =>
    intro j f a hj hf
    obtain ⟨g, rfl⟩ := fuel_s hf
    obtain rfl : j = 6 := by omega
    unfold m_X8_ones_4
    rw [if_pos (by decide)]
    rfl
  | succ k ih =>
    intro j f a hj hf
    obtain ⟨g, rfl⟩ := fuel_s hf
    unfold m_X8_ones_4
    rw [if_neg (show ¬ (6 : Int32) ≤ nI j from Lge 6 (by omega) (by decide)), bit_nI hw (by omega), nI_add, nI_1, ih (j + 1) g _ (by omega) (by omega)]
    rfl
theorem ones_ok {w : Nat} (hw : w < 2 ^ 31) (h : bb_H) : m_X8_ones (nI w) h = some (nI (pc6 w), h) := ones_loop hw 6 0 1000 0 rfl (by decide)
set_option maxRecDepth 100000 in
theorem pc6_two : ∀ s, s < 64 → ∀ a, a < 6 → ∀ b, b < 6 → a ≠ b → pc6 ((2 ^ a ||| 2 ^ b) &&& s) = (if s.testBit a then 1 else 0) + (if s.testBit b then 1 else 0) := by decide +kernel
set_option maxRecDepth 100000 in
theorem pc6_one : ∀ s, s < 64 → ∀ a, a < 6 → pc6 (2 ^ a &&& s) = (if s.testBit a then 1 else 0) := by decide +kernel
theorem pc6_z : ∀ s, s < 64 → pc6 (0 &&& s) = 0 := by decide +kernel
/-! losses -/
def sIx (sv : Nat → Nat) (m : Nat) : Nat → Nat → Option Nat
  | _, 0 => none
  | j, k + 1 => if sv j = m then some j else sIx sv m (j + 1) k
theorem sIx_none {sv : Nat → Nat} {m : Nat} : ∀ (k j : Nat), (∀ i, j ≤ i → i < j + k → sv i ≠ m) → sIx sv m j k = none := by
  intro k
  induction k with
  | zero => intro j _; rfl
  | succ k ih =>
    intro j h
    show (if sv j = m then some j else sIx sv m (j + 1) k) = none
    rw [if_neg (h j (Nat.le_refl _) (by omega)), ih _ (fun i a b => h i (by omega) (by omega))]
theorem sIx_at {sv : Nat → Nat} {m i : Nat} : ∀ (k j : Nat), j ≤ i → i < j + k → sv i = m → (∀ q, j ≤ q → q < i → sv q ≠ m) → sIx sv m j k = some i := by
  intro k
  induction k with
  | zero => intro j h1 h2; omega
  | succ k ih =>
    intro j h1 h2 h3 h4
    show (if sv j = m then some j else sIx sv m (j + 1) k) = some i
    by_cases e : i = j
    · subst e
      rw [if_pos h3]
    · rw [if_neg (h4 j (Nat.le_refl _) (by omega)), ih (j + 1) (by omega) (by omega) h3 (fun q a b => h4 q (by omega) b)]
def losN (kd sb : Nat → Nat) (B : Bn) (m : Nat) : Nat := match sIx B.2.1 m 0 B.2.2.1 with
  | some i => lossN kd sb B.2.2.2.1 m (bfO B.2.1 i) (afO B.2.1 B.2.2.1 i)
  | none => 0
theorem losN_in {kd sb : Nat → Nat} {B : Bn} {n i : Nat} (hW : Wb n B) (hi : i < B.2.2.1) : losN kd sb B (B.2.1 i) = lossN kd sb B.2.2.2.1 (B.2.1 i) (bfO B.2.1 i) (afO B.2.1 B.2.2.1 i) := by
  unfold losN
  rw [sIx_at B.2.2.1 0 (Nat.zero_le _) (by omega) rfl (fun q _ b e => by have := hW.2.2.2.1 q i (by omega) hi e; omega)]
theorem losN_out {kd sb : Nat → Nat} {B : Bn} {m : Nat} (h : ∀ i, i < B.2.2.1 → B.2.1 i ≠ m) : losN kd sb B m = 0 := by
  unfold losN
  rw [sIx_none B.2.2.1 0 (fun i _ b => h i (by omega))]
/-- lives after the year -/
def lvY (kd sb : Nat → Nat) (B : Bn) : Nat → Nat := fun m => B.1 m - losN kd sb B m
/-- those left, by their seats -/
def kpt (lw sv : Nat → Nat) (j : Nat) : List Nat := ((List.range j).map sv).filter (fun m => lw m != 0)
theorem kpt_s (lw sv : Nat → Nat) (j : Nat) : kpt lw sv (j + 1) = kpt lw sv j ++ (if lw (sv j) = 0 then [] else [sv j]) := by
  unfold kpt
  rw [List.range_succ, List.map_append, List.filter_append]
  congr 1
  by_cases e : lw (sv j) = 0
  · simp [e]
  · simp [e]
theorem kpt_le (lw sv : Nat → Nat) (j : Nat) : (kpt lw sv j).length ≤ j := by
  have h := List.length_filter_le (fun m => lw m != 0) ((List.range j).map sv)
  rw [List.length_map, List.length_range] at h
  exact h
theorem mem_kpt {lw sv : Nat → Nat} {j q : Nat} : q ∈ kpt lw sv j ↔ (∃ i, i < j ∧ sv i = q) ∧ lw q ≠ 0 := by
  unfold kpt
  rw [List.mem_filter, List.mem_map]
  simp
theorem kpt_nd {lw sv : Nat → Nat} {j : Nat} (h : ∀ a b, a < j → b < j → sv a = sv b → a = b) : (kpt lw sv j).Pairwise (· ≠ ·) := by
  unfold kpt
  refine List.Pairwise.filter _ ?_
  rw [List.pairwise_map]
  refine List.Pairwise.imp_of_mem ?_ (List.pairwise_lt_range (n := j))
  intro a b ha hb hab e
  have := h a b (List.mem_range.mp ha) (List.mem_range.mp hb) e
  omega
/-- the year on a bench of the class, step by step, is so -/
theorem yrL_char {kd sb : Nat → Nat} {B : Bn} {n : Nat} (hW : Wb n B) : ∀ (t k l : Nat) (lv sv : Nat → Nat), k + t = B.2.2.1 → l = (kpt (lvY kd sb B) B.2.1 k).length → (∀ m, lv m = if (∃ i, i < k ∧ B.2.1 i = m) then lvY kd sb B m else B.1 m) → (∀ i, l ≤ i → sv i = B.2.1 i) → (∀ i, i < l → sv i = (kpt (lvY kd sb B) B.2.1 k).getD i 0) →
    (∀ m, (yrL kd sb B.2.2.2.1 B.2.2.1 t k l (bfO B.2.1 k) lv sv).1 m = lvY kd sb B m) ∧ (yrL kd sb B.2.2.2.1 B.2.2.1 t k l (bfO B.2.1 k) lv sv).2.2 = (kpt (lvY kd sb B) B.2.1 B.2.2.1).length ∧ (∀ i, i < (kpt (lvY kd sb B) B.2.1 B.2.2.1).length → (yrL kd sb B.2.2.2.1 B.2.2.1 t k l (bfO B.2.1 k) lv sv).2.1 i = (kpt (lvY kd sb B) B.2.1 B.2.2.1).getD i 0) := by
  intro t
  induction t with
  | zero =>
    intro k l lv sv hk hl h1 h2 h3
    obtain rfl : k = B.2.2.1 := by omega
    refine ⟨fun m => ?_, hl, fun i hi => h3 i (by omega)⟩
    show lv m = _
    rw [h1]
    by_cases e : ∃ i, i < B.2.2.1 ∧ B.2.1 i = m
    · rw [if_pos e]
    · rw [if_neg e]
      unfold lvY
      rw [losN_out (fun i hi z => e ⟨i, hi, z⟩), Nat.sub_zero]
  | succ t ih =>
    intro k l lv sv hk hl h1 h2 h3
    have hlk : l ≤ k := by rw [hl]; exact kpt_le _ _ _
    have hsk : sv k = B.2.1 k := h2 k hlk
    have haf : afO sv B.2.2.1 k = afO B.2.1 B.2.2.1 k := by
      unfold afO
      rw [h2 (k + 1) (by omega)]
    have hlv : lv (B.2.1 k) = B.1 (B.2.1 k) := by
      rw [h1, if_neg]
      rintro ⟨i, hi, e⟩
      have := hW.2.2.2.1 i k (by omega) (by omega) e
      omega
    have hnew : lv (sv k) - lossN kd sb B.2.2.2.1 (sv k) (bfO B.2.1 k) (afO sv B.2.2.1 k) = lvY kd sb B (B.2.1 k) := by
      rw [hsk, haf, hlv]
      unfold lvY
      rw [losN_in hW (by omega)]
    have hlv2 : ∀ m, updN lv (sv k) (lv (sv k) - lossN kd sb B.2.2.2.1 (sv k) (bfO B.2.1 k) (afO sv B.2.2.1 k)) m = if (∃ i, i < k + 1 ∧ B.2.1 i = m) then lvY kd sb B m else B.1 m := by
      intro m
      rw [hnew, hsk]
      unfold updN
      by_cases e : m = B.2.1 k
      · rw [if_pos e, if_pos ⟨k, by omega, e.symm⟩, e]
      · rw [if_neg e, h1]
        by_cases q : ∃ i, i < k ∧ B.2.1 i = m
        · obtain ⟨i, hi, z⟩ := q
          rw [if_pos ⟨i, hi, z⟩, if_pos ⟨i, by omega, z⟩]
        · rw [if_neg q, if_neg]
          rintro ⟨i, hi, z⟩
          by_cases w : i = k
          · subst w
            exact e z.symm
          · exact q ⟨i, by omega, z⟩
    have hbf : some (sv k) = bfO B.2.1 (k + 1) := by
      unfold bfO
      rw [if_neg (by omega), hsk]
      rfl
    have hks := kpt_s (lvY kd sb B) B.2.1 k
    unfold yrL
    rw [hnew] at hlv2 ⊢
    by_cases z : lvY kd sb B (B.2.1 k) = 0
    · rw [if_pos z, List.append_nil] at hks
      rw [if_pos z, hbf]
      refine ih (k + 1) l _ sv (by omega) (by rw [hks]; exact hl) hlv2 h2 (fun i hi => by rw [hks]; exact h3 i hi)
    · rw [if_neg z] at hks
      rw [if_neg z, hbf]
      refine ih (k + 1) (l + 1) _ _ (by omega) (by rw [hks, List.length_append]; simp only [List.length_singleton]; omega) hlv2 (fun i hi => ?_) (fun i hi => ?_)
      · unfold updN
        rw [if_neg (by omega)]
        exact h2 i (by omega)
      · rw [hks]
        unfold updN
        by_cases e : i = l
        · subst e
          rw [if_pos rfl, hsk, List.getD_eq_getElem?_getD, List.getElem?_append_right (by omega), hl, Nat.sub_self]
          rfl
        · rw [if_neg e, h3 i (by omega), List.getD_eq_getElem?_getD, List.getD_eq_getElem?_getD, List.getElem?_append_left (by omega)]
theorem yrB_char {kd sb : Nat → Nat} {B : Bn} {n : Nat} (hW : Wb n B) : (∀ m, (yrB kd sb B).1 m = lvY kd sb B m) ∧ (yrB kd sb B).2.2.1 = (kpt (lvY kd sb B) B.2.1 B.2.2.1).length ∧ (∀ i, i < (kpt (lvY kd sb B) B.2.1 B.2.2.1).length → (yrB kd sb B).2.1 i = (kpt (lvY kd sb B) B.2.1 B.2.2.1).getD i 0) := by
  have h := yrL_char (kd := kd) (sb := sb) hW B.2.2.1 0 0 B.1 B.2.1 (Nat.zero_add _) rfl (fun m => by rw [if_neg]; rintro ⟨i, hi, -⟩; omega) (fun i _ => rfl) (fun i hi => by omega)
  exact h
theorem yr_lv {kd sb : Nat → Nat} {B : Bn} {n : Nat} (hW : Wb n B) : (yrB kd sb B).1 = lvY kd sb B := funext (yrB_char hW).1
theorem getD_mem {l : List Nat} {i : Nat} (h : i < l.length) : l.getD i 0 ∈ l := by
  rw [List.getD_eq_getElem?_getD, List.getElem?_eq_getElem h]
  exact List.getElem_mem h
theorem Wb_yr {kd sb : Nat → Nat} {B : Bn} {n : Nat} (hW : Wb n B) (hy : B.2.2.2.1 + 1 < 100000) : Wb n (yrB kd sb B) := by
  obtain ⟨c1, c2, c3⟩ := yrB_char (kd := kd) (sb := sb) hW
  have hle := kpt_le (lvY kd sb B) B.2.1 B.2.2.1
  have hmem : ∀ i, i < (yrB kd sb B).2.2.1 → (yrB kd sb B).2.1 i ∈ kpt (lvY kd sb B) B.2.1 B.2.2.1 := fun i hi => by
    rw [c2] at hi
    rw [c3 i hi]
    exact getD_mem hi
  refine ⟨okB_yr hW.1 (Nat.lt_succ_self _) hy, ?_, fun i hi => ?_, fun i j hi hj e => ?_, fun m hm => ?_⟩
  · rw [c2]
    have := hW.2.1
    omega
  · obtain ⟨⟨a, ha, e⟩, -⟩ := mem_kpt.mp (hmem i hi)
    rw [← e]
    exact hW.2.2.1 a ha
  · rw [c2] at hi hj
    rw [c3 i hi, c3 j hj, List.getD_eq_getElem?_getD, List.getD_eq_getElem?_getD, List.getElem?_eq_getElem hi, List.getElem?_eq_getElem hj] at e
    have nd := List.pairwise_iff_getElem.mp (kpt_nd (lw := lvY kd sb B) hW.2.2.2.1)
    rcases Nat.lt_trichotomy i j with q | q | q
    · exact absurd e (nd i j hi hj q)
    · exact q
    · exact absurd e.symm (nd j i hj hi q)
  · rw [c1]
    constructor
    · intro h
      have h0 : B.1 m ≠ 0 := fun z => h (by unfold lvY; rw [z, Nat.zero_sub])
      obtain ⟨a, ha, e⟩ := (hW.2.2.2.2 m hm).mp h0
      have hk : m ∈ kpt (lvY kd sb B) B.2.1 B.2.2.1 := mem_kpt.mpr ⟨⟨a, ha, e⟩, h⟩
      obtain ⟨i, hi, e2⟩ := List.getElem_of_mem hk
      refine ⟨i, by rw [c2]; exact hi, ?_⟩
      rw [c3 i hi, List.getD_eq_getElem?_getD, List.getElem?_eq_getElem hi]
      exact e2
    · rintro ⟨i, hi, e⟩
      have := (mem_kpt.mp (hmem i hi)).2
      rw [e] at this
      exact this
