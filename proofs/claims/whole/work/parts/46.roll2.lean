/-! THE ROLL, written -/
theorem set_keep {h : bb_H} {i j : Nat} {x c : bb_C} (hij : i ≠ j) (e : h[j]? = some c) : (h.set i x).set j c = h.set i x := set_self (by rw [List.getElem?_set_ne hij]; exact e)
def rlSet (h : bb_H) (r : Nat) (R : Rl) : bb_H := ((((((h.set r (rlO r R)).set (r + 1) (.inl .int, fnI 6 (nF R.2.1))).set (r + 2) (.inl (.array .int), [.ref (r + 3), .ref (r + 4), .ref (r + 5)])).set (r + 3) (.inl .int, fnI 6 (nF (R.2.2.1 0)))).set (r + 4) (.inl .int, fnI 6 (nF (R.2.2.1 1)))).set (r + 5) (.inl .int, fnI 6 (nF (R.2.2.1 2)))).set (r + 6) (.inl .int, fnI 6 (nF R.2.2.2))
theorem rlSet_len (h : bb_H) (r : Nat) (R : Rl) : (rlSet h r R).length = h.length := by simp [rlSet]
theorem rlSet_ne {h : bb_H} {r i : Nat} {R : Rl} (h1 : i < r ∨ r + 7 ≤ i) : (rlSet h r R)[i]? = h[i]? := by
  unfold rlSet
  rw [List.getElem?_set_ne (by omega), List.getElem?_set_ne (by omega), List.getElem?_set_ne (by omega), List.getElem?_set_ne (by omega), List.getElem?_set_ne (by omega), List.getElem?_set_ne (by omega), List.getElem?_set_ne (by omega)]
theorem rlSet_at {h : bb_H} {r : Nat} {R : Rl} (hl : r + 6 < h.length) : rlAt (rlSet h r R) r R := by
  unfold rlSet rlAt
  refine ⟨?_, ?_, ?_, ?_, ?_, ?_, ?_⟩
  · rw [List.getElem?_set_ne (by omega), List.getElem?_set_ne (by omega), List.getElem?_set_ne (by omega), List.getElem?_set_ne (by omega), List.getElem?_set_ne (by omega), List.getElem?_set_ne (by omega), List.getElem?_set_self (by omega)]
  · rw [List.getElem?_set_ne (by omega), List.getElem?_set_ne (by omega), List.getElem?_set_ne (by omega), List.getElem?_set_ne (by omega), List.getElem?_set_ne (by omega), List.getElem?_set_self (by simp only [List.length_set]; omega)]
  · rw [List.getElem?_set_ne (by omega), List.getElem?_set_ne (by omega), List.getElem?_set_ne (by omega), List.getElem?_set_ne (by omega), List.getElem?_set_self (by simp only [List.length_set]; omega)]
  · rw [List.getElem?_set_ne (by omega), List.getElem?_set_ne (by omega), List.getElem?_set_ne (by omega), List.getElem?_set_self (by simp only [List.length_set]; omega)]
  · rw [List.getElem?_set_ne (by omega), List.getElem?_set_ne (by omega), List.getElem?_set_self (by simp only [List.length_set]; omega)]
  · rw [List.getElem?_set_ne (by omega), List.getElem?_set_self (by simp only [List.length_set]; omega)]
  · rw [List.getElem?_set_self (by simp only [List.length_set]; omega)]
theorem rlSet_rl {h : bb_H} {r : Nat} (hl : r + 6 < h.length) (R R' : Rl) : rlSet (rlSet h r R) r R' = rlSet h r R' := by
  apply List.ext_getElem?
  intro j
  by_cases hj : j < r ∨ r + 7 ≤ j
  · rw [rlSet_ne hj, rlSet_ne hj, rlSet_ne hj]
  · have a1 := rlSet_at (R := R') (h := rlSet h r R) (r := r) (by rw [rlSet_len]; exact hl)
    have a2 := rlSet_at (R := R') (h := h) (r := r) hl
    rcases (show j = r ∨ j = r + 1 ∨ j = r + 2 ∨ j = r + 3 ∨ j = r + 4 ∨ j = r + 5 ∨ j = r + 6 by omega) with rfl | rfl | rfl | rfl | rfl | rfl | rfl
    · rw [a1.1, a2.1]
    · rw [a1.2.1, a2.2.1]
    · rw [a1.2.2.1, a2.2.2.1]
    · rw [a1.2.2.2.1, a2.2.2.2.1]
    · rw [a1.2.2.2.2.1, a2.2.2.2.2.1]
    · rw [a1.2.2.2.2.2.1, a2.2.2.2.2.2.1]
    · rw [a1.2.2.2.2.2.2, a2.2.2.2.2.2.2]
section RLW
variable {h : bb_H} {r n : Nat} {kd sb : Nat → Nat} {pl : Nat → Nat → Nat}
theorem rlAt.len {R : Rl} (A : rlAt h r R) : r + 6 < h.length := (List.getElem?_eq_some_iff.mp A.2.2.2.2.2.2).1
theorem rlAt.eq {R : Rl} (A : rlAt h r R) : rlSet h r R = h := by
  unfold rlSet
  rw [set_self A.1, set_self A.2.1, set_self A.2.2.1, set_self A.2.2.2.1, set_self A.2.2.2.2.1, set_self A.2.2.2.2.2.1, set_self A.2.2.2.2.2.2]
theorem rlAt.set {R : Rl} (A : rlAt h r R) (R' : Rl) : rlAt (rlSet h r R') r R' := rlSet_at A.len
theorem bnAt.rl {b : Nat} {B : Bn} {R : Rl} (A : bnAt h b B) (hd : b + 3 ≤ r ∨ r + 7 ≤ b) : bnAt (rlSet h r R) b B := ⟨by rw [rlSet_ne (by omega)]; exact A.1, by rw [rlSet_ne (by omega)]; exact A.2.1, by rw [rlSet_ne (by omega)]; exact A.2.2⟩
theorem rlAt.rl {r2 : Nat} {R R2 : Rl} (A : rlAt h r R) (hd : r + 7 ≤ r2 ∨ r2 + 7 ≤ r) : rlAt (rlSet h r2 R2) r R := A.keep (fun i h1 h2 => rlSet_ne (by omega))
theorem rlAt.p0 (A : rlAt h r (n, kd, pl, sb)) (x : Nat) : bb_pI h r 3 0 (nI x) = some (rlSet h r (x, kd, pl, sb)) := by
  rw [pI_of A.1 (Nat.le_of_ble_eq_true rfl)]
  congr 1
  unfold rlSet
  dsimp only
  rw [set_keep (by omega) A.2.1, set_keep (by omega) A.2.2.1, set_keep (by omega) A.2.2.2.1, set_keep (by omega) A.2.2.2.2.1, set_keep (by omega) A.2.2.2.2.2.1, set_keep (by omega) A.2.2.2.2.2.2]
  rfl
theorem rlAt.wk (A : rlAt h r (n, kd, pl, sb)) {k : Nat} (hk : k < 6) (x : Nat) : bb_sV h (r + 1) .int (nI k) (.int (nI x)) = some (rlSet h r (n, updN kd k x, pl, sb)) := by
  rw [sI_of A.2.1 hk (by decide), updN_nF]
  congr 1
  unfold rlSet
  dsimp only
  rw [set_self (show h[r]? = some (rlO r (n, updN kd k x, pl, sb)) from A.1), set_keep (by omega) A.2.2.1, set_keep (by omega) A.2.2.2.1, set_keep (by omega) A.2.2.2.2.1, set_keep (by omega) A.2.2.2.2.2.1, set_keep (by omega) A.2.2.2.2.2.2]
theorem rlAt.wb (A : rlAt h r (n, kd, pl, sb)) {k : Nat} (hk : k < 6) (x : Nat) : bb_sV h (r + 6) .int (nI k) (.int (nI x)) = some (rlSet h r (n, kd, pl, updN sb k x)) := by
  rw [sI_of A.2.2.2.2.2.2 hk (by decide), updN_nF]
  congr 1
  unfold rlSet
  dsimp only
  rw [set_self (show h[r]? = some (rlO r (n, kd, pl, updN sb k x)) from A.1), set_self A.2.1, set_self A.2.2.1, set_self A.2.2.2.1, set_self A.2.2.2.2.1, set_self A.2.2.2.2.2.1]
theorem rlAt.wp (A : rlAt h r (n, kd, pl, sb)) {t k : Nat} (ht : t < 3) (hk : k < 6) (x : Nat) : bb_sV h (r + 3 + t) .int (nI k) (.int (nI x)) = some (rlSet h r (n, kd, updN pl t (updN (pl t) k x), sb)) := by
  rcases (show t = 0 ∨ t = 1 ∨ t = 2 by omega) with rfl | rfl | rfl
  · rw [sI_of A.2.2.2.1 hk (by decide), updN_nF]
    congr 1
    unfold rlSet
    dsimp only
    rw [set_self (show h[r]? = some (rlO r (n, kd, updN pl 0 (updN (pl 0) k x), sb)) from A.1), set_self A.2.1, set_self A.2.2.1, show updN pl 0 (updN (pl 0) k x) 0 = updN (pl 0) k x from rfl, show updN pl 0 (updN (pl 0) k x) 1 = pl 1 from rfl, show updN pl 0 (updN (pl 0) k x) 2 = pl 2 from rfl, set_keep (by omega) A.2.2.2.2.1, set_keep (by omega) A.2.2.2.2.2.1, set_keep (by omega) A.2.2.2.2.2.2]
  · rw [sI_of A.2.2.2.2.1 hk (by decide), updN_nF]
    congr 1
    unfold rlSet
    dsimp only
    rw [set_self (show h[r]? = some (rlO r (n, kd, updN pl 1 (updN (pl 1) k x), sb)) from A.1), set_self A.2.1, set_self A.2.2.1, show updN pl 1 (updN (pl 1) k x) 0 = pl 0 from rfl, show updN pl 1 (updN (pl 1) k x) 1 = updN (pl 1) k x from rfl, show updN pl 1 (updN (pl 1) k x) 2 = pl 2 from rfl, set_self A.2.2.2.1, set_keep (by omega) A.2.2.2.2.2.1, set_keep (by omega) A.2.2.2.2.2.2]
  · rw [sI_of A.2.2.2.2.2.1 hk (by decide), updN_nF]
    congr 1
    unfold rlSet
    dsimp only
    rw [set_self (show h[r]? = some (rlO r (n, kd, updN pl 2 (updN (pl 2) k x), sb)) from A.1), set_self A.2.1, set_self A.2.2.1, show updN pl 2 (updN (pl 2) k x) 0 = pl 0 from rfl, show updN pl 2 (updN (pl 2) k x) 1 = pl 1 from rfl, show updN pl 2 (updN (pl 2) k x) 2 = updN (pl 2) k x from rfl, set_self A.2.2.2.1, set_self A.2.2.2.2.1, set_keep (by omega) A.2.2.2.2.2.2]
/-- only the first six places of each row, and three rows, count -/
theorem rlSet_cong {kd2 sb2 : Nat → Nat} {pl2 : Nat → Nat → Nat} (h1 : ∀ k, k < 6 → kd k = kd2 k) (h2 : ∀ t, t < 3 → ∀ k, k < 6 → pl t k = pl2 t k) (h3 : ∀ k, k < 6 → sb k = sb2 k) : rlSet h r (n, kd, pl, sb) = rlSet h r (n, kd2, pl2, sb2) := by
  unfold rlSet
  dsimp only
  rw [show fnI 6 (nF kd) = fnI 6 (nF kd2) from fnI_cong (fun k hk => by unfold nF; rw [h1 k hk]), show fnI 6 (nF sb) = fnI 6 (nF sb2) from fnI_cong (fun k hk => by unfold nF; rw [h3 k hk]), show fnI 6 (nF (pl 0)) = fnI 6 (nF (pl2 0)) from fnI_cong (fun k hk => by unfold nF; rw [h2 0 (by decide) k hk]), show fnI 6 (nF (pl 1)) = fnI 6 (nF (pl2 1)) from fnI_cong (fun k hk => by unfold nF; rw [h2 1 (by decide) k hk]), show fnI 6 (nF (pl 2)) = fnI 6 (nF (pl2 2)) from fnI_cong (fun k hk => by unfold nF; rw [h2 2 (by decide) k hk])]
  rfl
end RLW
section CHR
variable {s k : St} {kf : Int32} {T : Tp} {X : Nat → Sh} {tr : Bn} {gu : Rl} {O : Od} {ch : Nat → Nat}
theorem sR2 (R : Rl) : rlSet (chp s k kf T X tr gu O ch) 2 R = chp (R, s.2) k kf T X tr gu O ch := rfl
theorem sR39 (R : Rl) : rlSet (chp s k kf T X tr gu O ch) 39 R = chp s (R, k.2) kf T X tr gu O ch := rfl
theorem sR77 (R : Rl) : rlSet (chp s k kf T X tr gu O ch) 77 R = chp s k kf (T.1, T.2.1, R, T.2.2.2) X tr gu O ch := rfl
theorem sR89 (R : Rl) : rlSet (chp s k kf T X tr gu O ch) 89 R = chp s k kf T X tr R O ch := rfl
end CHR
/-! any, all, over a stretch of numbers -/
def bI (b : Bool) : Int32 := if b then 1 else 0
theorem bI_t : bI true = 1 := rfl
theorem bI_f : bI false = 0 := rfl
theorem rz_b (b : Bool) (h : bb_H) : bb_rz (bI b) h = some (bI b, h) := by cases b <;> rfl
theorem ite_b {α : Type} (b : Bool) (x y : α) : (if bI b = 0 then x else y) = if b then y else x := by cases b <;> rfl
def anyN (p : Nat → Bool) : Nat → Nat → Bool
  | _, 0 => false
  | j, k + 1 => p j || anyN p (j + 1) k
def allN (p : Nat → Bool) : Nat → Nat → Bool
  | _, 0 => true
  | j, k + 1 => p j && allN p (j + 1) k
theorem anyN_iff (p : Nat → Bool) : ∀ k j, anyN p j k = true ↔ ∃ i, j ≤ i ∧ i < j + k ∧ p i = true := by
  intro k
  induction k with
  | zero =>
    intro j
    constructor
    · intro h
      exact absurd (show false = true from h) (by decide)
    · rintro ⟨i, h1, h2, -⟩
      omega
  | succ k ih =>
    intro j
    show (p j || anyN p (j + 1) k) = true ↔ _
    rw [Bool.or_eq_true, ih]
    constructor
    · rintro (h | ⟨i, h1, h2, h3⟩)
      · exact ⟨j, Nat.le_refl _, by omega, h⟩
      · exact ⟨i, by omega, by omega, h3⟩
    · rintro ⟨i, h1, h2, h3⟩
      by_cases e : i = j
      · subst e
        exact Or.inl h3
      · exact Or.inr ⟨i, by omega, by omega, h3⟩
theorem allN_iff (p : Nat → Bool) : ∀ k j, allN p j k = true ↔ ∀ i, j ≤ i → i < j + k → p i = true := by
  intro k
  induction k with
  | zero =>
    intro j
    exact ⟨fun _ i h1 h2 => by omega, fun _ => rfl⟩
  | succ k ih =>
    intro j
    show (p j && allN p (j + 1) k) = true ↔ _
    rw [Bool.and_eq_true, ih]
    constructor
    · rintro ⟨h1, h2⟩ i h3 h4
      by_cases e : i = j
      · subst e
        exact h1
      · exact h2 i (by omega) (by omega)
    · intro h1
      exact ⟨h1 j (Nat.le_refl _) (by omega), fun i h3 h4 => h1 i (by omega) (by omega)⟩
theorem anyN_cong {p q : Nat → Bool} : ∀ k j, (∀ i, j ≤ i → i < j + k → p i = q i) → anyN p j k = anyN q j k := by
  intro k
  induction k with
  | zero => intro j _; rfl
  | succ k ih =>
    intro j h
    show (p j || anyN p (j + 1) k) = (q j || anyN q (j + 1) k)
    rw [h j (Nat.le_refl _) (by omega), ih (j + 1) (fun i h1 h2 => h i (by omega) (by omega))]
theorem allN_cong {p q : Nat → Bool} : ∀ k j, (∀ i, j ≤ i → i < j + k → p i = q i) → allN p j k = allN q j k := by
  intro k
  induction k with
  | zero => intro j _; rfl
  | succ k ih =>
    intro j h
    show (p j && allN p (j + 1) k) = (q j && allN q (j + 1) k)
    rw [h j (Nat.le_refl _) (by omega), ih (j + 1) (fun i h1 h2 => h i (by omega) (by omega))]
/-! what the roll answers -/
def takN (pl : Nat → Nat → Nat) (n t x : Nat) : Bool := anyN (fun m => pl t m == x) 0 n
def btw (v a b : Nat) : Bool := (decide (a < v) && decide (v < b)) || (decide (b < v) && decide (v < a))
def nbt (f : Nat → Nat) (n a b : Nat) : Bool := allN (fun m => !btw (f m) a b) 0 n
def tog (n : Nat) (pl : Nat → Nat → Nat) (a b : Nat) : Bool := anyN (fun t => nbt (pl t) n (pl t a) (pl t b)) 0 3
def sbS (n : Nat) (pl : Nat → Nat → Nat) (m : Nat) : Nat → Nat → Nat → Nat
  | _, 0, w => w
  | j, k + 1, w => sbS n pl m (j + 1) k (if j ≠ m ∧ tog n pl m j = true then w ||| 2 ^ j else w)
section RLM
variable {h : bb_H} {r n : Nat} {kd sb : Nat → Nat} {pl : Nat → Nat → Nat}
theorem has_ok3 (A : rlAt h r (n, kd, pl, sb)) (x : Int32) : m_X3_has r x h = some (inB x 0 (nI n - 1), h) := by
  unfold m_X3_has
  rw [A.g0, bsome, within_ok, bsome]
  exact rz_in _ _ _ _
theorem isTaken_loop (A : rlAt h r (n, kd, pl, sb)) (hn : n ≤ 6) (hp : ∀ t, t < 3 → ∀ m, m < 6 → pl t m < 100) {t x : Nat} (ht : t < 3) (hx : x < 100) : ∀ (k j f : Nat), j + k = n → k < f → m_X3_isTaken_2 f r (nI t) (nI x) (nI j) h = some (bI (anyN (fun m => pl t m == x) j k), h) := by
  intro k
  induction k with
  | zero =>
    intro j f hj hf
    obtain ⟨g, rfl⟩ := fuel_s hf
    unfold m_X3_isTaken_2
    rw [A.g0, bsome, if_pos (nI_le (by omega) (by omega))]
    rfl
  | succ k ih =>
    intro j f hj hf
    obtain ⟨g, rfl⟩ := fuel_s hf
    unfold m_X3_isTaken_2
    have h1 := hp t ht j (by omega)
    rw [A.g0, bsome, if_neg (nI_ge (by omega) (by omega)), A.g2, bsome, A.ar ht, bsome, A.ap ht (by omega), bsome, ite_e (by omega) (by omega), nI_1, ih (j + 1) g (by omega) (by omega)]
    show _ = some (bI ((pl t j == x) || anyN (fun m => pl t m == x) (j + 1) k), h)
    by_cases e : pl t j = x
    · rw [if_pos e, beq_iff_eq.mpr e]
      rfl
    · rw [if_neg e, beq_eq_false_iff_ne.mpr e]
      rfl
theorem isTaken_ok (A : rlAt h r (n, kd, pl, sb)) (hn : n ≤ 6) (hp : ∀ t, t < 3 → ∀ m, m < 6 → pl t m < 100) {t x : Nat} (ht : t < 3) (hx : x < 100) : m_X3_isTaken r (nI t) (nI x) h = some (bI (takN pl n t x), h) := isTaken_loop A hn hp ht hx n 0 1000 (by omega) (by omega)
theorem isTakenAny_ok (A : rlAt h r (n, kd, pl, sb)) (hn : n ≤ 6) (hp : ∀ t, t < 3 → ∀ m, m < 6 → pl t m < 100) {x : Nat} (hx : x < 100) : m_X3_isTakenAtAnyHour r (nI x) h = some (bI (takN pl n 0 x || (takN pl n 1 x || takN pl n 2 x)), h) := by
  have e0 := isTaken_ok A hn hp (t := 0) (by decide) hx
  have e1 := isTaken_ok A hn hp (t := 1) (by decide) hx
  have e2 := isTaken_ok A hn hp (t := 2) (by decide) hx
  unfold m_X3_isTakenAtAnyHour m_X3_isTakenAtAnyHour_2
  rw [if_neg (by decide), A.rcv, show m_X3_isTaken r 0 (nI x) h = _ from e0, bsome]
  dsimp only
  rw [ite_b]
  cases takN pl n 0 x with
  | true => rfl
  | false =>
    rw [if_neg (by decide)]
    unfold m_X3_isTakenAtAnyHour_2
    rw [if_neg (by decide), A.rcv, show m_X3_isTaken r (0 + 1) (nI x) h = _ from e1, bsome]
    dsimp only
    rw [ite_b]
    cases takN pl n 1 x with
    | true => rfl
    | false =>
      rw [if_neg (by decide)]
      unfold m_X3_isTakenAtAnyHour_2
      rw [if_neg (by decide), A.rcv, show m_X3_isTaken r (0 + 1 + 1) (nI x) h = _ from e2, bsome]
      dsimp only
      rw [ite_b]
      cases takN pl n 2 x with
      | true => rfl
      | false => rfl
theorem placeNext_ok (A : rlAt h r (n, kd, pl, sb)) (hn : n < 6) {t : Nat} (ht : t < 3) (x : Nat) : m_X3_placeNext r (nI t) (nI x) h = some (rlSet h r (n, kd, updN pl t (updN (pl t) n x), sb)) := by
  unfold m_X3_placeNext
  rw [A.g0, bsome, if_neg (show ¬ (6 : Int32) ≤ nI n from Lge 6 hn (by decide)), A.g2, bsome, A.ar ht, bsome, bsome, A.wp ht hn, bsome]
  rfl
/-- the next man's place at each hour -/
def pl3 (pl : Nat → Nat → Nat) (n a b c : Nat) : Nat → Nat → Nat := updN (updN (updN pl 0 (updN (pl 0) n a)) 1 (updN (pl 1) n b)) 2 (updN (pl 2) n c)
theorem placeNum_ok (A : rlAt h r (n, kd, pl, sb)) (hn : n < 6) : m_X3_placeNextByNumber r h = some (rlSet h r (n, kd, pl3 pl n n n n, sb)) := by
  unfold m_X3_placeNextByNumber m_X3_placeNextByNumber_2
  rw [if_neg (by decide), A.g0, bsome, A.rcv, show m_X3_placeNext r 0 (nI n) h = _ from placeNext_ok A hn (t := 0) (by decide) n, bsome]
  have A1 := A.set (n, kd, updN pl 0 (updN (pl 0) n n), sb)
  unfold m_X3_placeNextByNumber_2
  rw [if_neg (by decide), A1.g0, bsome, A1.rcv, show m_X3_placeNext r (0 + 1) (nI n) _ = _ from placeNext_ok A1 hn (t := 1) (by decide) n, bsome, rlSet_rl A.len]
  have A2 := A.set (n, kd, updN (updN pl 0 (updN (pl 0) n n)) 1 (updN (updN pl 0 (updN (pl 0) n n) 1) n n), sb)
  unfold m_X3_placeNextByNumber_2
  rw [if_neg (by decide), A2.g0, bsome, A2.rcv, show m_X3_placeNext r (0 + 1 + 1) (nI n) _ = _ from placeNext_ok A2 hn (t := 2) (by decide) n, bsome, rlSet_rl A.len]
  rfl
theorem adm_ok (A : rlAt h r (n, kd, pl, sb)) (hn : n < 6) (x : Nat) : m_X3_adm r (nI x) h = some (rlSet h r (n + 1, updN kd n x, pl, sb)) := by
  unfold m_X3_adm
  rw [A.g0, bsome, if_neg (show ¬ (6 : Int32) ≤ nI n from Lge 6 hn (by decide)), A.g1, bsome, bsome, A.wk hn, bsome]
  have A1 := A.set (n, updN kd n x, pl, sb)
  rw [A1.g0, bsome, nI_1, A1.p0, bsome, rlSet_rl A.len]
  rfl
theorem min_nI {a b : Nat} (ha : a < 2 ^ 31) (hb : b < 2 ^ 31) : bb_min (nI a) (nI b) = nI (min a b) := by
  unfold bb_min
  rw [ite_lt hb ha]
  by_cases q : b < a
  · rw [if_pos q, Nat.min_eq_right (by omega)]
  · rw [if_neg q, Nat.min_eq_left (by omega)]
theorem max_nI {a b : Nat} (ha : a < 2 ^ 31) (hb : b < 2 ^ 31) : bb_max (nI a) (nI b) = nI (max a b) := by
  unfold bb_max
  rw [ite_lt ha hb]
  by_cases q : a < b
  · rw [if_pos q, Nat.max_eq_right (by omega)]
  · rw [if_neg q, Nat.max_eq_left (by omega)]
theorem nobody_loop (A : rlAt h r (n, kd, pl, sb)) (hn : n ≤ 6) (hp : ∀ t, t < 3 → ∀ m, m < 6 → pl t m < 100) {t a b : Nat} (ht : t < 3) (ha : a < 100) (hb : b < 100) : ∀ (k j f : Nat), j + k = n → k < f → m_X3_isNobodyBetween_17 f r (r + 3 + t) (nI (min a b)) (nI (max a b)) (nI j) h = some (bI (allN (fun m => !btw (pl t m) a b) j k), h) := by
  intro k
  induction k with
  | zero =>
    intro j f hj hf
    obtain ⟨g, rfl⟩ := fuel_s hf
    unfold m_X3_isNobodyBetween_17
    rw [A.g0, bsome, if_pos (nI_le (by omega) (by omega))]
    rfl
  | succ k ih =>
    intro j f hj hf
    obtain ⟨g, rfl⟩ := fuel_s hf
    unfold m_X3_isNobodyBetween_17 m_X3_isNobodyBetween_46
    have h1 := hp t ht j (by omega)
    rw [A.g0, bsome, if_neg (nI_ge (by omega) (by omega)), A.ap ht (by omega), bsome, bsome, ite_le (by omega) (by omega), ite_le (by omega) (by omega), nI_1, ih (j + 1) g (by omega) (by omega)]
    show _ = some (bI ((!btw (pl t j) a b) && allN (fun m => !btw (pl t m) a b) (j + 1) k), h)
    by_cases e : btw (pl t j) a b = true
    · rw [e]
      unfold btw at e
      simp only [Bool.or_eq_true, Bool.and_eq_true, decide_eq_true_eq] at e
      rw [if_neg (by omega), if_neg (by omega)]
      rfl
    · rw [Bool.eq_false_iff.mpr e]
      unfold btw at e
      simp only [Bool.or_eq_true, Bool.and_eq_true, decide_eq_true_eq] at e
      by_cases q : pl t j ≤ min a b
      · rw [if_pos q]
        rfl
      · rw [if_neg q, if_pos (by omega)]
        rfl
theorem nobody_ok (A : rlAt h r (n, kd, pl, sb)) (hn : n ≤ 6) (hp : ∀ t, t < 3 → ∀ m, m < 6 → pl t m < 100) {t a b : Nat} (ht : t < 3) (ha : a < 100) (hb : b < 100) : m_X3_isNobodyBetween r (r + 3 + t) (nI a) (nI b) h = some (bI (nbt (pl t) n a b), h) := by
  unfold m_X3_isNobodyBetween
  rw [min_nI (by omega) (by omega), max_nI (by omega) (by omega)]
  exact nobody_loop A hn hp ht ha hb n 0 1000 (by omega) (by omega)
theorem together_step (A : rlAt h r (n, kd, pl, sb)) (hn : n ≤ 6) (hp : ∀ t, t < 3 → ∀ m, m < 6 → pl t m < 100) {a b t f : Nat} (ht : t < 3) (ha : a < 6) (hb : b < 6) : m_X3_wereTogether_2 (f + 1) r (nI a) (nI b) (nI t) h = if nbt (pl t) n (pl t a) (pl t b) then some (1, h) else m_X3_wereTogether_2 f r (nI a) (nI b) (nI (t + 1)) h := by
  conv => lhs; unfold m_X3_wereTogether_2
  rw [if_neg (show ¬ (3 : Int32) ≤ nI t from Lge 3 ht (by decide)), A.g2]
  simp only [A.g2, A.ar ht, A.ap ht ha, A.ap ht hb, bsome, A.rcv, nobody_ok A hn hp ht (hp t ht a ha) (hp t ht b hb), ite_b, nI_1]
theorem together_ok (A : rlAt h r (n, kd, pl, sb)) (hn : n ≤ 6) (hp : ∀ t, t < 3 → ∀ m, m < 6 → pl t m < 100) {a b : Nat} (ha : a < 6) (hb : b < 6) : m_X3_wereTogether r (nI a) (nI b) h = some (bI (tog n pl a b), h) := by
  unfold m_X3_wereTogether
  show m_X3_wereTogether_2 (999 + 1) r (nI a) (nI b) (nI 0) h = some (bI (nbt (pl 0) n (pl 0 a) (pl 0 b) || (nbt (pl 1) n (pl 1 a) (pl 1 b) || (nbt (pl 2) n (pl 2 a) (pl 2 b) || false))), h)
  rw [together_step A hn hp (by decide) ha hb, show (999 : Nat) = 998 + 1 from rfl, together_step A hn hp (by decide) ha hb, show (998 : Nat) = 997 + 1 from rfl, together_step A hn hp (by decide) ha hb]
  cases nbt (pl 0) n (pl 0 a) (pl 0 b) with
  | true => rfl
  | false =>
    cases nbt (pl 1) n (pl 1 a) (pl 1 b) with
    | true => rfl
    | false =>
      cases nbt (pl 2) n (pl 2 a) (pl 2 b) with
      | true => rfl
      | false => rfl
end RLM
