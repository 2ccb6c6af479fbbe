/-! ORDERS, one behind the other by numbers -/
def sw2 (f : Nat → Nat) (a b : Nat) : Nat → Nat := updN (updN f a (f b)) b (f a)
/-- the last rise below r -/
def rsN (f : Nat → Nat) : Nat → Option Nat
  | 0 => none
  | r + 1 => if f r ≤ f (r + 1) then some r else rsN f r
/-- the last place behind r with no less -/
def otN (f : Nat → Nat) (r : Nat) : Nat → Nat
  | 0 => 0
  | o + 1 => if o + 1 ≤ r + 1 then o + 1 else if f r ≤ f (o + 1) then o + 1 else otN f r o
/-- a stretch turned round -/
def rvN : Nat → Nat → Nat → (Nat → Nat) → (Nat → Nat)
  | 0, _, _, f => f
  | t + 1, lo, hi, f => if hi ≤ lo then f else rvN t (lo + 1) (hi - 1) (sw2 f lo hi)
def nxt (n : Nat) (f : Nat → Nat) : Option (Nat → Nat) := match rsN f (n - 1) with
  | none => none
  | some r => some (rvN 6 (r + 1) (n - 1) (sw2 f r (otN f r (n - 1))))
def rpr (n : Nat) (f : Nat → Nat) : List Nat := (List.range n).map f
def nxtL (l : List Nat) : Option (List Nat) := (nxt l.length (fun i => l.getD i 0)).map (rpr l.length)
theorem rpr_len (n : Nat) (f : Nat → Nat) : (rpr n f).length = n := by simp [rpr]
theorem rpr_at {n i : Nat} {f : Nat → Nat} (h : i < n) : (rpr n f).getD i 0 = f i := by simp [rpr, h]
theorem rpr_cong {n : Nat} {f g : Nat → Nat} (h : ∀ i, i < n → f i = g i) : rpr n f = rpr n g := List.map_congr_left (fun i hi => h i (List.mem_range.mp hi))
theorem rpr_inj {n : Nat} {f g : Nat → Nat} (h : rpr n f = rpr n g) : ∀ i, i < n → f i = g i := fun i hi => by rw [← rpr_at (f := f) hi, ← rpr_at (f := g) hi, h]
theorem sw2_cong {n a b : Nat} {f g : Nat → Nat} (h : ∀ i, i < n → f i = g i) (ha : a < n) (hb : b < n) : ∀ i, i < n → sw2 f a b i = sw2 g a b i := by
  intro i hi
  unfold sw2 updN
  rw [h a ha, h b hb, h i hi]
theorem rsN_lt {f : Nat → Nat} : ∀ {r q : Nat}, rsN f r = some q → q < r := by
  intro r
  induction r with
  | zero => intro q h; cases h
  | succ r ih =>
    intro q h
    unfold rsN at h
    split at h
    · cases h; omega
    · have := ih h; omega
theorem rsN_cong {n : Nat} {f g : Nat → Nat} (h : ∀ i, i < n → f i = g i) : ∀ r, r < n → rsN f r = rsN g r := by
  intro r
  induction r with
  | zero => intro _; rfl
  | succ r ih =>
    intro hr
    unfold rsN
    rw [h r (by omega), h (r + 1) hr, ih (by omega)]
theorem otN_cong {n : Nat} {f g : Nat → Nat} (h : ∀ i, i < n → f i = g i) {r : Nat} (hr : r < n) : ∀ o, o < n → otN f r o = otN g r o := by
  intro o
  induction o with
  | zero => intro _; rfl
  | succ o ih =>
    intro ho
    unfold otN
    rw [h r hr, h (o + 1) ho, ih (by omega)]
theorem otN_le {f : Nat → Nat} {r : Nat} : ∀ o, otN f r o ≤ o := by
  intro o
  induction o with
  | zero => exact Nat.le_refl _
  | succ o ih =>
    unfold otN
    split
    · exact Nat.le_refl _
    · split
      · exact Nat.le_refl _
      · omega
theorem rvN_cong {n : Nat} : ∀ (t lo hi : Nat) (f g : Nat → Nat), hi < n → (∀ i, i < n → f i = g i) → ∀ i, i < n → rvN t lo hi f i = rvN t lo hi g i := by
  intro t
  induction t with
  | zero => intro lo hi f g _ h; exact h
  | succ t ih =>
    intro lo hi f g hh h
    unfold rvN
    by_cases c : hi ≤ lo
    · rw [if_pos c, if_pos c]; exact h
    · rw [if_neg c, if_neg c]
      exact ih _ _ _ _ (by omega) (sw2_cong h (by omega) (by omega))
theorem nxt_cong {n : Nat} {f g : Nat → Nat} (h : ∀ i, i < n → f i = g i) : (nxt n f).map (rpr n) = (nxt n g).map (rpr n) := by
  cases n with
  | zero => rfl
  | succ n =>
    unfold nxt
    rw [rsN_cong h (n + 1 - 1) (by omega)]
    cases e : rsN g (n + 1 - 1) with
    | none => rfl
    | some r =>
      have hr := rsN_lt e
      dsimp only
      rw [otN_cong h (show r < n + 1 by omega) (n + 1 - 1) (by omega)]
      show some _ = some _
      congr 1
      refine rpr_cong (rvN_cong 6 _ _ _ _ (by omega) (sw2_cong h (by omega) ?_))
      have := otN_le (f := g) (r := r) (n + 1 - 1)
      omega
theorem nxtL_ok {n : Nat} {f : Nat → Nat} : nxtL (rpr n f) = (nxt n f).map (rpr n) := by
  unfold nxtL
  rw [rpr_len]
  exact nxt_cong (fun i hi => rpr_at hi)
/-- all orders from this on -/
def itr : Nat → List Nat → Option (List (List Nat))
  | 0, _ => none
  | t + 1, l => match nxtL l with
    | none => some [l]
    | some l2 => match itr t l2 with
      | none => none
      | some ls => some (l :: ls)
def srt (w : Nat) : List Nat := (List.range 6).filter (fun m => w.testBit m)
def ndL : List Nat → Bool
  | [] => true
  | a :: l => !l.elem a && ndL l
def okL (w n : Nat) (l : List Nat) : Bool := l.length == n && (l.all (fun m => w.testBit m) && ndL l)
def trd (l : List Nat) : Bool := decide (1 < l.length) && decide (l.getD (l.length - 1) 0 < l.getD 0 0)
def cdL : List Nat → Nat
  | [] => 0
  | a :: l => a + 8 * cdL l
def inL (c : Nat) : List Nat → Bool
  | [] => false
  | a :: l => Nat.beq c a || inL c l
/-- each that is turned round is seen before, the other way -/
def mir : List Nat → List (List Nat) → Bool
  | _, [] => true
  | seen, l :: ls => if trd l then inL (cdL l.reverse) seen && mir seen ls else mir (cdL l :: seen) ls
def chkW (w : Nat) : Bool := match itr 720 (srt w) with
  | none => false
  | some ls => ls.all (okL w (srt w).length) && (mir [] ls && !trd (srt w))
set_option maxRecDepth 100000 in
set_option maxHeartbeats 4000000 in
theorem chk_all : (List.range 64).all chkW = true := by decide +kernel
