/-! the order by which most are left: the same from the other end -/
def rq (b : Bool) (B B2 : Bn) : Prop := B2.1 = B.1 ∧ B2.2.2 = B.2.2 ∧ ∀ i, i < B.2.2.1 → B2.2.1 i = B.2.1 (if b then B.2.2.1 - 1 - i else i)
theorem lossN_comm (kd sb : Nat → Nat) (y m : Nat) (a b : Option Nat) : lossN kd sb y m a b = lossN kd sb y m b a := by
  unfold lossN
  have e1 : (if a = none ∨ b = none then (1 : Nat) else 0) = if b = none ∨ a = none then 1 else 0 := by
    by_cases q : a = none ∨ b = none
    · rw [if_pos q, if_pos q.symm]
    · rw [if_neg q, if_neg (fun z => q z.symm)]
  rw [e1, Nat.or_comm (setO a) (setO b)]
theorem losN_rq {kd sb : Nat → Nat} {b : Bool} {n : Nat} {B B2 : Bn} (h : rq b B B2) (W : Wb n B) (W2 : Wb n B2) (m : Nat) : losN kd sb B2 m = losN kd sb B m := by
  obtain ⟨h1, h2, h3⟩ := h
  have hk : B2.2.2.1 = B.2.2.1 := by rw [h2]
  have hy : B2.2.2.2.1 = B.2.2.2.1 := by rw [h2]
  by_cases q : ∃ i, i < B2.2.2.1 ∧ B2.2.1 i = m
  · obtain ⟨i, hi, rfl⟩ := q
    rw [losN_in W2 hi]
    rw [hk] at hi
    have h3i := h3 i hi
    cases b with
    | false =>
      rw [if_neg (by decide)] at h3i
      rw [h3i, losN_in W hi, hy, hk]
      congr 1
      · unfold bfO
        by_cases c : i = 0
        · rw [if_pos c, if_pos c]
        · rw [if_neg c, if_neg c, h3 (i - 1) (by omega)]
          rfl
      · unfold afO
        by_cases c : i + 1 < B.2.2.1
        · rw [if_pos c, if_pos c, h3 (i + 1) c]
          rfl
        · rw [if_neg c, if_neg c]
    | true =>
      rw [if_pos rfl] at h3i
      rw [h3i, losN_in W (show B.2.2.1 - 1 - i < B.2.2.1 by omega), hy, hk, lossN_comm]
      congr 1
      · unfold bfO afO
        by_cases c : i + 1 < B.2.2.1
        · rw [if_pos c, if_neg (by omega), h3 (i + 1) c, if_pos rfl, show B.2.2.1 - 1 - (i + 1) = B.2.2.1 - 1 - i - 1 by omega]
        · rw [if_neg c, if_pos (by omega)]
      · unfold bfO afO
        by_cases c : i = 0
        · rw [if_pos c, if_neg (by omega)]
        · rw [if_neg c, if_pos (by omega), h3 (i - 1) (by omega), if_pos rfl, show B.2.2.1 - 1 - (i - 1) = B.2.2.1 - 1 - i + 1 by omega]
  · rw [losN_out (fun i hi e => q ⟨i, hi, e⟩), losN_out (fun i hi e => ?_)]
    cases b with
    | false =>
      have h3i := h3 i hi
      rw [if_neg (by decide)] at h3i
      exact q ⟨i, by omega, h3i.trans e⟩
    | true =>
      have h3i := h3 (B.2.2.1 - 1 - i) (by omega)
      rw [if_pos rfl, show B.2.2.1 - 1 - (B.2.2.1 - 1 - i) = i by omega] at h3i
      exact q ⟨B.2.2.1 - 1 - i, by omega, h3i.trans e⟩
theorem map_rev (sv : Nat → Nat) (k : Nat) : (List.range k).map (fun i => sv (k - 1 - i)) = ((List.range k).map sv).reverse := by
  apply List.ext_getElem?
  intro i
  by_cases hi : i < k
  · rw [List.getElem?_reverse (by simpa using hi)]
    simp [hi]
    rw [List.getElem?_range (by omega)]
    rfl
  · rw [List.getElem?_eq_none (by simp; omega), List.getElem?_eq_none (by simp; omega)]
theorem kpt_rq {lw : Nat → Nat} {b : Bool} {B B2 : Bn} (h : rq b B B2) : kpt lw B2.2.1 B.2.2.1 = if b then (kpt lw B.2.1 B.2.2.1).reverse else kpt lw B.2.1 B.2.2.1 := by
  obtain ⟨h1, h2, h3⟩ := h
  unfold kpt
  cases b with
  | false =>
    rw [if_neg (by decide), List.map_congr_left (g := B.2.1) (fun i hi => by
      have := h3 i (List.mem_range.mp hi)
      rw [if_neg (by decide)] at this
      exact this)]
  | true =>
    rw [if_pos rfl, List.map_congr_left (g := fun i => B.2.1 (B.2.2.1 - 1 - i)) (fun i hi => by
      have := h3 i (List.mem_range.mp hi)
      rw [if_pos rfl] at this
      exact this), map_rev, List.filter_reverse]
theorem yr_rq {kd sb : Nat → Nat} {b : Bool} {n : Nat} {B B2 : Bn} (h : rq b B B2) (W : Wb n B) (W2 : Wb n B2) : rq b (yrB kd sb B) (yrB kd sb B2) := by
  have hl : lvY kd sb B2 = lvY kd sb B := by
    funext m
    unfold lvY
    rw [h.1, losN_rq h W W2]
  have hk : B2.2.2.1 = B.2.2.1 := by rw [h.2.1]
  have hy : B2.2.2.2 = B.2.2.2 := by rw [h.2.1]
  have hp := kpt_rq (lw := lvY kd sb B) h
  obtain ⟨a1, a2, a3⟩ := yrB_char (kd := kd) (sb := sb) W
  obtain ⟨b1, b2, b3⟩ := yrB_char (kd := kd) (sb := sb) W2
  rw [hl, hk, hp] at b2 b3
  have hlen : (if b then (kpt (lvY kd sb B) B.2.1 B.2.2.1).reverse else kpt (lvY kd sb B) B.2.1 B.2.2.1).length = (kpt (lvY kd sb B) B.2.1 B.2.2.1).length := by
    cases b with
    | false => rfl
    | true => rw [if_pos rfl, List.length_reverse]
  rw [hlen] at b2 b3
  refine ⟨?_, ?_, fun i hi => ?_⟩
  · rw [yr_lv W, yr_lv W2, hl]
  · have e1 : (yrB kd sb B2).2.2.2 = (yrB kd sb B).2.2.2 := by
      show (B2.2.2.2.1 + 1, B2.2.2.2.2) = (B.2.2.2.1 + 1, B.2.2.2.2)
      rw [hy]
    have e2 : (yrB kd sb B2).2.2.1 = (yrB kd sb B).2.2.1 := by rw [a2, b2]
    exact Prod.ext e2 e1
  · rw [a2] at hi ⊢
    rw [b3 i hi]
    cases b with
    | false =>
      rw [if_neg (by decide), if_neg (by decide), a3 i hi]
    | true =>
      rw [if_pos rfl, if_pos rfl, a3 _ (by omega), List.getD_eq_getElem?_getD, List.getD_eq_getElem?_getD, List.getElem?_reverse (by omega)]
theorem yrs_rq {kd sb : Nat → Nat} {b : Bool} {n : Nat} : ∀ (t : Nat) (B B2 : Bn), rq b B B2 → Wb n B → Wb n B2 → B.2.2.2.1 + t < 100000 → rq b (yrs kd sb t B) (yrs kd sb t B2) := by
  intro t
  induction t with
  | zero => intro B B2 h _ _ _; exact h
  | succ t ih =>
    intro B B2 h W W2 hy
    have hy2 : B2.2.2.2.1 = B.2.2.2.1 := by rw [h.2.1]
    exact ih _ _ (yr_rq h W W2) (Wb_yr W (by omega)) (Wb_yr W2 (by omega)) (show B.2.2.2.1 + 1 + t < 100000 by omega)
/-- how an order fares: how many are left, and their lives -/
def ouB (kd sb : Nat → Nat) (t n : Nat) (B : Bn) : Nat × Nat := ((yrs kd sb t B).2.2.1, lsum (yrs kd sb t B).1 0 n 0)
theorem ouB_rq {kd sb : Nat → Nat} {b : Bool} {n t : Nat} {B B2 : Bn} (h : rq b B B2) (W : Wb n B) (W2 : Wb n B2) (hy : B.2.2.2.1 + t < 100000) : ouB kd sb t n B2 = ouB kd sb t n B := by
  obtain ⟨h1, h2, -⟩ := yrs_rq (kd := kd) (sb := sb) t B B2 h W W2 hy
  unfold ouB
  rw [h1, h2]
/-! folds over the orders -/
def bet (o : Nat × Nat) : Option (Nat × Nat) → Bool
  | none => true
  | some a => decide (a.1 < o.1) || (decide (o.1 = a.1) && decide (a.2 < o.2))
def lF (out : List Nat → Nat × Nat) : List (List Nat) → Option (Nat × Nat) × List Nat → Option (Nat × Nat) × List Nat
  | [], a => a
  | l :: ls, a => lF out ls (if bet (out l) a.1 then (some (out l), l) else a)
def cF (out : List Nat → Nat × Nat) : List (List Nat) → Option (Nat × Nat) × List Nat → Option (Nat × Nat) × List Nat
  | [], a => a
  | l :: ls, a => cF out ls (if trd l then a else if bet (out l) a.1 then (some (out l), l) else a)
def gF (out : List Nat → Nat × Nat) (x : Int32) : List (List Nat) → Option (Nat × Nat) × Int32 → Option (Nat × Nat) × Int32
  | [], a => a
  | l :: ls, a => gF out x ls (if bet (out l) a.1 then (some (out l), onLx l x) else a)
theorem gF_lF (out : List Nat → Nat × Nat) (x : Int32) : ∀ (ls : List (List Nat)) (o : Option (Nat × Nat)) (b : List Nat), gF out x ls (o, onLx b x) = ((lF out ls (o, b)).1, onLx (lF out ls (o, b)).2 x) := by
  intro ls
  induction ls with
  | nil => intro o b; rfl
  | cons l ls ih =>
    intro o b
    show gF out x ls (if bet (out l) o then (some (out l), onLx l x) else (o, onLx b x)) = ((lF out ls (if bet (out l) o then (some (out l), l) else (o, b))).1, onLx (lF out ls (if bet (out l) o then (some (out l), l) else (o, b))).2 x)
    split
    · exact ih _ _
    · exact ih _ _
theorem lF_out (out : List Nat → Nat × Nat) : ∀ (ls : List (List Nat)) (b : List Nat), (lF out ls (some (out b), b)).1 = some (out (lF out ls (some (out b), b)).2) := by
  intro ls
  induction ls with
  | nil => intro b; rfl
  | cons l ls ih =>
    intro b
    show (lF out ls (if bet (out l) (some (out b)) then (some (out l), l) else (some (out b), b))).1 = some (out (lF out ls (if bet (out l) (some (out b)) then (some (out l), l) else (some (out b), b))).2)
    split
    · exact ih _
    · exact ih _
theorem cdL_inj : ∀ (a b : List Nat), a.length = b.length → (∀ x, x ∈ a → x < 8) → (∀ x, x ∈ b → x < 8) → cdL a = cdL b → a = b := by
  intro a
  induction a with
  | nil => intro b h _ _ _; cases b with
    | nil => rfl
    | cons c b => simp at h
  | cons x a ih =>
    intro b h h1 h2 e
    cases b with
    | nil => simp at h
    | cons c b =>
      have e2 : x + 8 * cdL a = c + 8 * cdL b := e
      have q1 := h1 x List.mem_cons_self
      have q2 := h2 c List.mem_cons_self
      have e3 : x = c := by omega
      have e4 : cdL a = cdL b := by omega
      rw [e3, ih b (by simpa using h) (fun z hz => h1 z (List.mem_cons_of_mem _ hz)) (fun z hz => h2 z (List.mem_cons_of_mem _ hz)) e4]
theorem inL_mem {c : Nat} : ∀ {l : List Nat}, inL c l = true → c ∈ l := by
  intro l
  induction l with
  | nil => intro h; cases h
  | cons a l ih =>
    intro h
    unfold inL at h
    rw [Bool.or_eq_true] at h
    rcases h with h | h
    · rw [Nat.eq_of_beq_eq_true h]
      exact List.mem_cons_self
    · exact List.mem_cons_of_mem _ (ih h)
theorem bet_f {o a : Nat × Nat} : bet o (some a) = false ↔ ¬ (a.1 < o.1 ∨ (o.1 = a.1 ∧ a.2 < o.2)) := by
  unfold bet
  rw [Bool.eq_false_iff, ne_eq, Bool.or_eq_true, Bool.and_eq_true, decide_eq_true_eq, decide_eq_true_eq, decide_eq_true_eq]
theorem lF_cF {out : List Nat → Nat × Nat} {k0 : Nat} {P : List Nat → Prop} (hP : ∀ l, P l → l.length = k0 ∧ ∀ x, x ∈ l → x < 8) (hrev : ∀ l, P l → P l.reverse ∧ out l.reverse = out l) : ∀ (ls : List (List Nat)) (seen : List Nat) (a : Nat × Nat) (b : List Nat), (∀ l, l ∈ ls → P l) → mir seen ls = true → (∀ c, c ∈ seen → ∃ l, P l ∧ cdL l = c ∧ bet (out l) (some a) = false) → lF out ls (some a, b) = cF out ls (some a, b) := by
  intro ls
  induction ls with
  | nil => intro seen a b _ _ _; rfl
  | cons l ls ih =>
    intro seen a b hl hm hs
    have hPl := hl l List.mem_cons_self
    show lF out ls (if bet (out l) (some a) then (some (out l), l) else (some a, b)) = cF out ls (if trd l then (some a, b) else if bet (out l) (some a) then (some (out l), l) else (some a, b))
    unfold mir at hm
    by_cases c : trd l = true
    · rw [if_pos c, Bool.and_eq_true] at hm
      rw [if_pos c]
      obtain ⟨l2, p2, e2, n2⟩ := hs _ (inL_mem hm.1)
      obtain ⟨r1, r2⟩ := hrev l hPl
      obtain ⟨u1, u2⟩ := hP _ p2
      obtain ⟨v1, v2⟩ := hP _ r1
      have := cdL_inj _ _ (u1.trans v1.symm) u2 v2 e2
      rw [this, r2] at n2
      rw [if_neg (by rw [n2]; decide)]
      exact ih seen a b (fun z hz => hl z (List.mem_cons_of_mem _ hz)) hm.2 hs
    · rw [if_neg c] at hm
      rw [if_neg c]
      by_cases z : bet (out l) (some a) = true
      · rw [if_pos z]
        refine ih _ _ _ (fun z hz => hl z (List.mem_cons_of_mem _ hz)) hm (fun c hc => ?_)
        rcases List.mem_cons.mp hc with rfl | hc
        · exact ⟨l, hPl, rfl, bet_f.mpr (by omega)⟩
        · obtain ⟨l2, p2, e2, n2⟩ := hs c hc
          refine ⟨l2, p2, e2, bet_f.mpr ?_⟩
          have z2 := bet_f.mp n2
          have z3 : ¬ bet (out l) (some a) = false := by rw [z]; decide
          rw [bet_f] at z3
          omega
      · rw [if_neg z]
        refine ih _ _ _ (fun z hz => hl z (List.mem_cons_of_mem _ hz)) hm (fun c hc => ?_)
        rcases List.mem_cons.mp hc with rfl | hc
        · exact ⟨l, hPl, rfl, Bool.eq_false_iff.mpr z⟩
        · exact hs c hc
