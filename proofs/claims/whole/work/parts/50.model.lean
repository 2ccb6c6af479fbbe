/-! THE MODEL: its rows; how the first forty tell of roll and bench -/
def Mb (S : Nat → Int32) (n : Nat) (B : Bn) : Prop := S 1 = nI B.2.2.1 ∧ S 2 = nI B.2.2.2.1 ∧ S 3 = B.2.2.2.2 ∧ (∀ m, m < n → S (4 + m) = nI (B.1 m)) ∧ (∀ j, j < B.2.2.1 → S (10 + j) = nI (B.2.1 j))
def Mr (S : Nat → Int32) (R : Rl) : Prop := S 0 = nI R.1 ∧ (∀ m, m < R.1 → S (16 + m) = nI (R.2.1 m)) ∧ (∀ m, m < R.1 → ∀ t, t < 3 → S (22 + 3 * m + t) = nI (R.2.2.1 t m))
def Wr (R : Rl) : Prop := okR R ∧ ∀ m, m < R.1 → R.2.2.2 m = sbN R.1 R.2.2.1 m
def Wb (n : Nat) (B : Bn) : Prop := okB B ∧ B.2.2.1 ≤ n ∧ (∀ i, i < B.2.2.1 → B.2.1 i < n) ∧ (∀ i j, i < B.2.2.1 → j < B.2.2.1 → B.2.1 i = B.2.1 j → i = j) ∧ (∀ m, m < n → (B.1 m ≠ 0 ↔ ∃ i, i < B.2.2.1 ∧ B.2.1 i = m))
section MH
variable {S Le As Or : Nat → Int32} {M : Mx}
theorem g80 : bb_gR (mh S Le As Or M) 0 8 0 = some 1 := rfl
theorem g81 : bb_gR (mh S Le As Or M) 0 8 1 = some 2 := rfl
theorem g82 : bb_gI (mh S Le As Or M) 0 8 2 = some M.2.1 := rfl
theorem g83 : bb_gR (mh S Le As Or M) 0 8 3 = some 3 := rfl
theorem g84 : bb_gI (mh S Le As Or M) 0 8 4 = some M.2.2.2.1 := rfl
theorem g85 : bb_gR (mh S Le As Or M) 0 8 5 = some 4 := rfl
theorem g86 : bb_gI (mh S Le As Or M) 0 8 6 = some M.2.2.2.2.2.1 := rfl
theorem g87 : bb_gR (mh S Le As Or M) 0 8 7 = some 5 := rfl
theorem g88 : bb_gR (mh S Le As Or M) 0 8 8 = some 6 := rfl
theorem g89 : bb_gR (mh S Le As Or M) 0 8 9 = some 7 := rfl
theorem g8a : bb_gR (mh S Le As Or M) 0 8 10 = some 8 := rfl
theorem g8b : bb_gR (mh S Le As Or M) 0 8 11 = some 9 := rfl
theorem g8c : bb_gR (mh S Le As Or M) 0 8 12 = some 10 := rfl
theorem g8d : bb_gR (mh S Le As Or M) 0 8 13 = some 11 := rfl
theorem g8r {α : Type} {x : Option α} : bb_rcv (mh S Le As Or M) 0 8 x = x := rfl
theorem rS {k : Nat} (hk : k < 161) : bb_aI (mh S Le As Or M) 1 .int (nI k) = some (S k) := aI_of (h := mh S Le As Or M) rfl hk (by decide)
theorem rS0 : bb_aI (mh S Le As Or M) 1 .int 0 = some (S 0) := rS (k := 0) (by decide)
theorem rS1 : bb_aI (mh S Le As Or M) 1 .int 1 = some (S 1) := rS (k := 1) (by decide)
theorem rS2 : bb_aI (mh S Le As Or M) 1 .int 2 = some (S 2) := rS (k := 2) (by decide)
theorem rS3 : bb_aI (mh S Le As Or M) 1 .int 3 = some (S 3) := rS (k := 3) (by decide)
theorem rS40 : bb_aI (mh S Le As Or M) 1 .int 40 = some (S 40) := rS (k := 40) (by decide)
theorem wS {k : Nat} (hk : k < 161) (x : Int32) : bb_sV (mh S Le As Or M) 1 .int (nI k) (.int x) = some (mh (updN S k x) Le As Or M) := (sI_of (h := mh S Le As Or M) rfl hk (by decide)).trans rfl
theorem wS0 (x : Int32) : bb_sV (mh S Le As Or M) 1 .int 0 (.int x) = some (mh (updN S 0 x) Le As Or M) := wS (k := 0) (by decide) x
theorem wS1 (x : Int32) : bb_sV (mh S Le As Or M) 1 .int 1 (.int x) = some (mh (updN S 1 x) Le As Or M) := wS (k := 1) (by decide) x
theorem wS2 (x : Int32) : bb_sV (mh S Le As Or M) 1 .int 2 (.int x) = some (mh (updN S 2 x) Le As Or M) := wS (k := 2) (by decide) x
theorem wS3 (x : Int32) : bb_sV (mh S Le As Or M) 1 .int 3 (.int x) = some (mh (updN S 3 x) Le As Or M) := wS (k := 3) (by decide) x
theorem wS40 (x : Int32) : bb_sV (mh S Le As Or M) 1 .int 40 (.int x) = some (mh (updN S 40 x) Le As Or M) := wS (k := 40) (by decide) x
theorem rLe {k : Nat} (hk : k < 6) : bb_aI (mh S Le As Or M) 9 .int (nI k) = some (Le k) := aI_of (h := mh S Le As Or M) rfl hk (by decide)
theorem wLe {k : Nat} (hk : k < 6) (x : Int32) : bb_sV (mh S Le As Or M) 9 .int (nI k) (.int x) = some (mh S (updN Le k x) As Or M) := (sI_of (h := mh S Le As Or M) rfl hk (by decide)).trans rfl
theorem rAs {k : Nat} (hk : k < 40) : bb_aI (mh S Le As Or M) 10 .int (nI k) = some (As k) := aI_of (h := mh S Le As Or M) rfl hk (by decide)
theorem wAs {k : Nat} (hk : k < 40) (x : Int32) : bb_sV (mh S Le As Or M) 10 .int (nI k) (.int x) = some (mh S Le (updN As k x) Or M) := (sI_of (h := mh S Le As Or M) rfl hk (by decide)).trans rfl
theorem rOr {k : Nat} (hk : k < 40) : bb_aI (mh S Le As Or M) 11 .int (nI k) = some (Or k) := aI_of (h := mh S Le As Or M) rfl hk (by decide)
theorem wOr {k : Nat} (hk : k < 40) (x : Int32) : bb_sV (mh S Le As Or M) 11 .int (nI k) (.int x) = some (mh S Le As (updN Or k x) M) := (sI_of (h := mh S Le As Or M) rfl hk (by decide)).trans rfl
theorem mh_cong {S2 : Nat → Int32} (h : ∀ k, k < 161 → S k = S2 k) : mh S Le As Or M = mh S2 Le As Or M := by
  unfold mh
  rw [show fnI 161 S = fnI 161 S2 from fnI_cong h]
end MH
theorem ix4 (m : Nat) : (4 : Int32) + nI m = nI (4 + m) := nI_add 4 m
theorem ix10 (m : Nat) : (10 : Int32) + nI m = nI (10 + m) := nI_add 10 m
theorem ix16 (m : Nat) : (16 : Int32) + nI m = nI (16 + m) := nI_add 16 m
theorem ix22 (m t : Nat) : (22 : Int32) + 3 * nI m + nI t = nI (22 + 3 * m + t) := by
  rw [show (3 : Int32) * nI m = nI (3 * m) from pk_mul 3 m, show (22 : Int32) + nI (3 * m) = nI (22 + 3 * m) from nI_add 22 _, nI_add]
/-! what the model reads off -/
section MR
variable {S Le As Or : Nat → Int32} {M : Mx} {R : Rl} {B : Bn}
theorem isMan_ok (hR : Mr S R) (x : Int32) : m_X8_isMan 0 x (mh S Le As Or M) = some (inB x 0 (nI R.1 - 1), mh S Le As Or M) := by
  unfold m_X8_isMan
  rw [g80, bsome, rS0, bsome, hR.1, in_ok, bsome]
  exact rz_in _ _ _ _
def lastS (sv : Nat → Nat) (m : Nat) : Nat → Nat → Int32 → Int32
  | _, 0, a => a
  | j, t + 1, a => lastS sv m (j + 1) t (if sv j = m then nI j else a)
theorem lastS_none {sv : Nat → Nat} {m : Nat} : ∀ (t j : Nat) (a : Int32), (∀ i, j ≤ i → i < j + t → sv i ≠ m) → lastS sv m j t a = a := by
  intro t
  induction t with
  | zero => intro j a _; rfl
  | succ t ih =>
    intro j a h
    show lastS sv m (j + 1) t (if sv j = m then nI j else a) = a
    rw [if_neg (h j (Nat.le_refl _) (by omega))]
    exact ih _ _ (fun i h1 h2 => h i (by omega) (by omega))
theorem lastS_at {sv : Nat → Nat} {m i : Nat} : ∀ (t j : Nat) (a : Int32), j ≤ i → i < j + t → sv i = m → (∀ q, j ≤ q → q < j + t → sv q = m → q = i) → lastS sv m j t a = nI i := by
  intro t
  induction t with
  | zero => intro j a h1 h2; omega
  | succ t ih =>
    intro j a h1 h2 h3 h4
    show lastS sv m (j + 1) t (if sv j = m then nI j else a) = nI i
    by_cases e : i = j
    · subst e
      rw [if_pos h3]
      refine lastS_none t _ _ (fun q g1 g2 e => ?_)
      have := h4 q (by omega) (by omega) e
      omega
    · exact ih _ _ (by omega) (by omega) h3 (fun q g1 g2 e => h4 q (by omega) (by omega) e)
theorem seatOf8_loop {n : Nat} (hB : Mb S n B) (hk : B.2.2.1 ≤ 6) (hs : ∀ i, i < B.2.2.1 → B.2.1 i < 6) {m : Nat} (hm : m < 6) : ∀ (t j f : Nat) (a : Int32), j + t = B.2.2.1 → t < f → m_X8_seatOf_5 f 0 (nI m) a (nI j) (mh S Le As Or M) = some (lastS B.2.1 m j t a, mh S Le As Or M) := by
  intro t
  induction t with
  | zero =>
    intro j f a hj hf
    obtain ⟨g, rfl⟩ := fuel_s hf
    unfold m_X8_seatOf_5
    rw [g80, bsome, rS1, bsome, hB.1, if_pos (nI_le (by omega) (by omega))]
    rfl
  | succ t ih =>
    intro j f a hj hf
    obtain ⟨g, rfl⟩ := fuel_s hf
    have h1 := hs j (by omega)
    unfold m_X8_seatOf_5 m_X8_seatOf_33
    rw [g80, bsome, rS1, bsome, hB.1, if_neg (nI_ge (by omega) (by omega)), bsome, ix10, rS (by omega), bsome, hB.2.2.2.2 j (by omega), ite_e (by omega) (by omega), nI_1, ih (j + 1) g _ (by omega) (by omega), ih (j + 1) g _ (by omega) (by omega)]
    show _ = some (lastS B.2.1 m (j + 1) t (if B.2.1 j = m then nI j else a), mh S Le As Or M)
    split <;> rfl
theorem seatOf8_ok {n : Nat} (hB : Mb S n B) (hW : Wb n B) (hn : n ≤ 6) {m : Nat} (hm : m < 6) : m_X8_seatOf 0 (nI m) (mh S Le As Or M) = some (sp_seat B.2.1 m 0 B.2.2.1, mh S Le As Or M) := by
  obtain ⟨-, w1, w2, w3, -⟩ := hW
  unfold m_X8_seatOf
  rw [show (0 : Int32) = nI 0 from rfl, seatOf8_loop hB (by omega) (fun i hi => by have := w2 i hi; omega) hm B.2.2.1 0 1000 (-4) (by omega) (by omega)]
  rcases seat_or B.2.1 m B.2.2.1 with ⟨i, h1, h2, h3, h4⟩ | ⟨h1, h2⟩
  · rw [h4, lastS_at B.2.2.1 0 _ (Nat.zero_le _) (by omega) h2 (fun q g1 g2 e => w3 q i (by omega) h1 (e.trans h2.symm))]
  · rw [h2, lastS_none B.2.2.1 0 _ (fun i g1 g2 => h1 i (by omega))]
theorem onSeat_ok {n : Nat} (hB : Mb S n B) (hk : B.2.2.1 ≤ 6) (x : Int32) : m_X8_onSeat 0 x (mh S Le As Or M) = some (onD (-4) B.2.1 B.2.2.1 x, mh S Le As Or M) := by
  unfold m_X8_onSeat
  rw [g80, bsome, rS1, bsome, hB.1, in_ok, bsome]
  dsimp only
  rcases place_or x B.2.2.1 with ⟨j, hj, rfl⟩ | q
  · rw [show inB (nI j) 0 (nI B.2.2.1 - 1) = 1 from inB_in (c := 0) (by omega) (by omega), if_neg (by decide), g80, bsome, ix10, rS (by omega), bsome, hB.2.2.2.2 j hj, onD_in hj (by omega)]
    rfl
  · rw [show inB x 0 (nI B.2.2.1 - 1) = 0 from inB_out (c := 0) (by omega) (by decide) (fun j hj => q j (by omega)), if_pos rfl, onD_out (by omega) q]
    rfl
theorem bench_loop {n : Nat} (hB : Mb S n B) (hk : B.2.2.1 ≤ 6) : ∀ (t j f : Nat) (w : Int32), j + t = B.2.2.1 → t < f → m_X8_bench_4 f 0 w (nI j) (mh S Le As Or M) = some (sp_who B.2.1 j t w, mh S Le As Or M) := by
  intro t
  induction t with
  | zero =>
    intro j f w hj hf
    obtain ⟨g, rfl⟩ := fuel_s hf
    unfold m_X8_bench_4
    rw [g80, bsome, rS1, bsome, hB.1, if_pos (nI_le (by omega) (by omega))]
    rfl
  | succ t ih =>
    intro j f w hj hf
    obtain ⟨g, rfl⟩ := fuel_s hf
    unfold m_X8_bench_4
    rw [g80, bsome, rS1, bsome, hB.1, if_neg (nI_ge (by omega) (by omega)), bsome, ix10, rS (by omega), bsome, hB.2.2.2.2 j (by omega), nI_1, ih (j + 1) g _ (by omega) (by omega)]
    rfl
theorem bench_ok {n : Nat} (hB : Mb S n B) (hk : B.2.2.1 ≤ 6) : m_X8_bench 0 (mh S Le As Or M) = some (sp_who B.2.1 0 B.2.2.1 0, mh S Le As Or M) := bench_loop hB hk B.2.2.1 0 1000 0 (by omega) (by omega)
theorem isTaken8_loop (hR : Mr S R) (hO : okR R) {t x : Nat} (ht : t < 3) (hx : x < 100) : ∀ (k j f : Nat) (a : Bool), j + k = R.1 → k < f → m_X8_isTaken_5 f 0 (nI t) (nI x) (bI a) (nI j) (mh S Le As Or M) = some (bI (a || anyN (fun m => R.2.2.1 t m == x) j k), mh S Le As Or M) := by
  obtain ⟨o1, o2, o3, o4⟩ := hO
  intro k
  induction k with
  | zero =>
    intro j f a hj hf
    obtain ⟨g, rfl⟩ := fuel_s hf
    unfold m_X8_isTaken_5
    rw [g80, bsome, rS0, bsome, hR.1, if_pos (nI_le (by omega) (by omega)), rz_b]
    show some (bI a, _) = some (bI (a || false), _)
    rw [Bool.or_false]
  | succ k ih =>
    intro j f a hj hf
    obtain ⟨g, rfl⟩ := fuel_s hf
    unfold m_X8_isTaken_5 m_X8_isTaken_38 m_X8_isTaken_43
    have h1 := o3 t ht j (by omega)
    rw [g80, bsome, rS0, bsome, hR.1, if_neg (nI_ge (by omega) (by omega)), ite_b, bsome, ix22, rS (by omega), bsome, hR.2.2 j (by omega) t ht, ite_e (by omega) (by omega), nI_1, show (1 : Int32) = bI true from rfl, show (0 : Int32) = bI false from rfl, ih (j + 1) g _ (by omega) (by omega), ih (j + 1) g _ (by omega) (by omega)]
    show _ = some (bI (a || ((R.2.2.1 t j == x) || anyN (fun m => R.2.2.1 t m == x) (j + 1) k)), mh S Le As Or M)
    cases a with
    | true => rfl
    | false =>
      by_cases e : R.2.2.1 t j = x
      · rw [if_neg (by decide), if_pos e, beq_iff_eq.mpr e]
        rfl
      · rw [if_neg (by decide), if_neg e, beq_eq_false_iff_ne.mpr e]
        rfl
theorem isTaken8_ok (hR : Mr S R) (hO : okR R) {t x : Nat} (ht : t < 3) (hx : x < 100) : m_X8_isTaken 0 (nI t) (nI x) (mh S Le As Or M) = some (bI (takN R.2.2.1 R.1 t x), mh S Le As Or M) := isTaken8_loop hR hO ht hx R.1 0 1000 false (by omega) (by have := hO.1; omega)
theorem stood_in (hR : Mr S R) (hO : okR R) {t a b : Nat} (ht : t < 3) (ha : a < 100) (hb : b < 100) {xa xb : Int32} {by0 : Bool} {k5 : Nat → Int32 → Int32 → Int32 → Int32 → bb_H → Option (Int32 × bb_H)} : ∀ (k j f : Nat) (c : Bool), j + k = R.1 → k < f → m_X8_stoodBy_49 k5 f 0 xa xb (bI by0) (nI t) (nI a) (nI b) (bI c) (nI j) (mh S Le As Or M) = k5 0 xa xb (bI (by0 || (c && allN (fun m => !btw (R.2.2.1 t m) a b) j k))) (nI (t + 1)) (mh S Le As Or M) := by
  obtain ⟨o1, o2, o3, o4⟩ := hO
  intro k
  induction k with
  | zero =>
    intro j f c hj hf
    obtain ⟨g, rfl⟩ := fuel_s hf
    unfold m_X8_stoodBy_49 m_X8_stoodBy_132 m_X8_stoodBy_137
    rw [g80, bsome, rS0, bsome, hR.1, if_pos (nI_le (by omega) (by omega)), ite_b, ite_b, nI_1]
    show _ = k5 0 xa xb (bI (by0 || (c && true))) _ _
    cases by0 <;> cases c <;> rfl
  | succ k ih =>
    intro j f c hj hf
    obtain ⟨g, rfl⟩ := fuel_s hf
    have h1 := o3 t ht j (by omega)
    unfold m_X8_stoodBy_49 m_X8_stoodBy_96 m_X8_stoodBy_110 m_X8_stoodBy_114 m_X8_stoodBy_115
    rw [g80, bsome, rS0, bsome, hR.1, if_neg (nI_ge (by omega) (by omega)), bsome, ix22, rS (by omega), bsome, hR.2.2 j (by omega) t ht, ite_b, ite_le (by omega) (by omega), ite_le (by omega) (by omega), ite_lt (by omega) (by omega), ite_lt (by omega) (by omega), nI_1, show (1 : Int32) = bI true from rfl, show (0 : Int32) = bI false from rfl, ih (j + 1) g _ (by omega) (by omega), ih (j + 1) g _ (by omega) (by omega)]
    show _ = k5 0 xa xb (bI (by0 || (c && ((!btw (R.2.2.1 t j) a b) && allN (fun m => !btw (R.2.2.1 t m) a b) (j + 1) k)))) _ _
    generalize R.2.2.1 t j = v
    cases c with
    | false => rfl
    | true =>
      rw [if_pos rfl]
      by_cases e : btw v a b = true
      · rw [e]
        unfold btw at e
        simp only [Bool.or_eq_true, Bool.and_eq_true, decide_eq_true_eq] at e
        by_cases q : v ≤ a
        · rw [if_pos q, if_neg (by omega), if_pos (by omega)]
          rfl
        · rw [if_neg q, if_pos (by omega)]
          rfl
      · rw [Bool.eq_false_iff.mpr e]
        unfold btw at e
        simp only [Bool.or_eq_true, Bool.and_eq_true, decide_eq_true_eq] at e
        by_cases q : v ≤ a
        · rw [if_pos q]
          by_cases w : v ≤ b
          · rw [if_pos w]
            rfl
          · rw [if_neg w, if_neg (by omega)]
            rfl
        · rw [if_neg q, if_neg (by omega)]
          by_cases w : v ≤ b
          · rw [if_pos w]
            rfl
          · rw [if_neg w, if_neg (by omega)]
            rfl
theorem stood_step (hR : Mr S R) (hO : okR R) {a b t f : Nat} {by0 : Bool} (ht : t < 3) (ha : a < R.1) (hb : b < R.1) : m_X8_stoodBy_5 (f + 1) 0 (nI a) (nI b) (bI by0) (nI t) (mh S Le As Or M) = m_X8_stoodBy_5 f 0 (nI a) (nI b) (bI (by0 || nbt (R.2.2.1 t) R.1 (R.2.2.1 t a) (R.2.2.1 t b))) (nI (t + 1)) (mh S Le As Or M) := by
  have o1 := hO.1
  have h1 := hO.2.2.1 t ht a (by omega)
  have h2 := hO.2.2.1 t ht b (by omega)
  conv => lhs; unfold m_X8_stoodBy_5
  rw [if_neg (show ¬ (3 : Int32) ≤ nI t from Lge 3 ht (by decide)), g80, bsome, ix22, rS (by omega), bsome, bsome, ix22, rS (by omega), bsome, hR.2.2 a ha t ht, hR.2.2 b hb t ht, show (1 : Int32) = bI true from rfl, show (0 : Int32) = nI 0 from rfl, stood_in hR hO ht (by omega) (by omega) R.1 0 1000 true (by omega) (by omega)]
  rfl
theorem stoodBy_ok (hR : Mr S R) (hO : okR R) {a b : Nat} (ha : a < R.1) (hb : b < R.1) : m_X8_stoodBy 0 (nI a) (nI b) (mh S Le As Or M) = some (bI (tog R.1 R.2.2.1 a b), mh S Le As Or M) := by
  unfold m_X8_stoodBy
  show m_X8_stoodBy_5 (999 + 1) 0 (nI a) (nI b) (bI false) (nI 0) (mh S Le As Or M) = some (bI (nbt (R.2.2.1 0) R.1 (R.2.2.1 0 a) (R.2.2.1 0 b) || (nbt (R.2.2.1 1) R.1 (R.2.2.1 1 a) (R.2.2.1 1 b) || (nbt (R.2.2.1 2) R.1 (R.2.2.1 2 a) (R.2.2.1 2 b) || false))), mh S Le As Or M)
  rw [stood_step hR hO (by decide) ha hb, show (999 : Nat) = 998 + 1 from rfl, stood_step hR hO (by decide) ha hb, show (998 : Nat) = 997 + 1 from rfl, stood_step hR hO (by decide) ha hb, show (997 : Nat) = 996 + 1 from rfl]
  unfold m_X8_stoodBy_5
  rw [if_pos (by decide), rz_b, Bool.or_false, Bool.false_or, Bool.or_assoc]
theorem allStood_loop (hR : Mr S R) (hO : okR R) {m : Nat} (hm : m < R.1) : ∀ (k j f w : Nat), j + k = R.1 → k < f → m_X8_allStoodBy_4 f 0 (nI m) (nI w) (nI j) (mh S Le As Or M) = some (nI (sbS R.1 R.2.2.1 m j k w), mh S Le As Or M) := by
  have o1 := hO.1
  intro k
  induction k with
  | zero =>
    intro j f w hj hf
    obtain ⟨g, rfl⟩ := fuel_s hf
    unfold m_X8_allStoodBy_4
    rw [g80, bsome, rS0, bsome, hR.1, if_pos (nI_le (by omega) (by omega))]
    rfl
  | succ k ih =>
    intro j f w hj hf
    obtain ⟨g, rfl⟩ := fuel_s hf
    unfold m_X8_allStoodBy_4 m_X8_allStoodBy_35 m_X8_allStoodBy_36
    rw [g80, bsome, rS0, bsome, hR.1, if_neg (nI_ge (by omega) (by omega)), ite_e (by omega) (by omega), g8r, stoodBy_ok hR hO hm (by omega), bsome]
    dsimp only
    rw [ite_b, one_shl (by omega), show (0 : Int32) = nI 0 from rfl, or_nI, or_nI, nI_1, ih (j + 1) g _ (by omega) (by omega), ih (j + 1) g _ (by omega) (by omega), Nat.or_zero]
    show _ = some (nI (sbS R.1 R.2.2.1 m (j + 1) k (if j ≠ m ∧ tog R.1 R.2.2.1 m j = true then w ||| 2 ^ j else w)), mh S Le As Or M)
    by_cases e : j = m
    · rw [if_pos e, if_neg (fun z => z.1 e)]
    · rw [if_neg e]
      cases q : tog R.1 R.2.2.1 m j with
      | true => rw [if_pos rfl, if_pos ⟨e, rfl⟩]
      | false => rw [if_neg (by decide), if_neg (fun z => absurd z.2 (by decide))]
theorem allStood_ok (hR : Mr S R) (hO : okR R) {m : Nat} (hm : m < R.1) : m_X8_allStoodBy 0 (nI m) (mh S Le As Or M) = some (nI (sbN R.1 R.2.2.1 m), mh S Le As Or M) := allStood_loop hR hO hm R.1 0 1000 0 (by omega) (by have := hO.1; omega)
/-! neighbours -/
theorem onD_bf4 {sv : Nat → Nat} {n j : Nat} (h : j < n) (hn : n < 2 ^ 30) : onD (-4) sv n (nI j - 1) = match bfO sv j with | none => -4 | some q => nI q := by
  unfold bfO
  by_cases q : j = 0
  · subst q
    rw [if_pos rfl]
    rfl
  · rw [if_neg q, show nI j - 1 = nI (j - 1) from pk_sub (b := 1) (by omega), onD_in (by omega) hn]
theorem onD_af4 {sv : Nat → Nat} {n j : Nat} (h : j < n) (hn : n < 2 ^ 30) : onD (-4) sv n (nI j + 1) = match afO sv n j with | none => -4 | some q => nI q := by
  unfold afO
  rw [nI_1]
  by_cases q : j + 1 < n
  · rw [if_pos q, onD_in q hn]
  · rw [if_neg q, onD_out hn (fun i hi e => by
      rw [nI_eq (by omega) (by omega)] at e
      omega)]
theorem nI_m4 {q : Nat} (h : q < 2 ^ 31) : ¬ nI q = -4 := nI_neg_ne (b := 4) h (by decide) (by decide)
theorem allSit_in {n : Nat} (hB : Mb S n B) (hW : Wb n B) (hn : n ≤ 6) {m i : Nat} (hm : m < 6) (hi : i < B.2.2.1) (he : sp_seat B.2.1 m 0 B.2.2.1 = nI i) : m_X8_allSitBy 0 (nI m) (mh S Le As Or M) = some (nI (setO (bfO B.2.1 i) ||| setO (afO B.2.1 B.2.2.1 i)), mh S Le As Or M) := by
  have w1 := hW.2.1
  have w2 : ∀ i, i < B.2.2.1 → B.2.1 i < 6 := fun i hi => by have := hW.2.2.1 i hi; omega
  have hb := bfO_lt w2 hi
  have ha := afO_lt (n := B.2.2.1) (j := i) w2
  unfold m_X8_allSitBy
  rw [g8r, seatOf8_ok hB hW hn hm, bsome, he]
  dsimp only
  rw [if_neg (nI_m4 (by omega)), g8r, onSeat_ok hB (by omega), bsome]
  dsimp only
  rw [g8r, onSeat_ok hB (by omega), bsome, onD_bf4 hi (by omega), onD_af4 hi (by omega)]
  unfold m_X8_allSitBy_44 m_X8_allSitBy_59
  cases e1 : bfO B.2.1 i with
  | none =>
    dsimp only
    rw [if_pos rfl]
    cases e2 : afO B.2.1 B.2.2.1 i with
    | none => rfl
    | some q2 =>
      dsimp only
      have := ha q2 e2
      rw [if_neg (nI_m4 (by omega)), one_shl (by omega), show (0 : Int32) = nI 0 from rfl, or_nI]
      rfl
  | some q1 =>
    dsimp only
    have := hb q1 e1
    rw [if_neg (nI_m4 (by omega))]
    cases e2 : afO B.2.1 B.2.2.1 i with
    | none =>
      dsimp only
      rw [if_pos rfl, one_shl (by omega), show (0 : Int32) = nI 0 from rfl, or_nI]
      rfl
    | some q2 =>
      dsimp only
      have := ha q2 e2
      rw [if_neg (nI_m4 (by omega)), one_shl (by omega), one_shl (by omega), or_nI]
      rfl
theorem allSit_out {n : Nat} (hB : Mb S n B) (hW : Wb n B) (hn : n ≤ 6) {m : Nat} (hm : m < 6) (he : sp_seat B.2.1 m 0 B.2.2.1 = -4) : m_X8_allSitBy 0 (nI m) (mh S Le As Or M) = some (0, mh S Le As Or M) := by
  unfold m_X8_allSitBy
  rw [g8r, seatOf8_ok hB hW hn hm, bsome, he]
  dsimp only
  rw [if_pos rfl]
end MR
