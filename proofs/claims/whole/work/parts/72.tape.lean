/-! THE TAPE, read: letters, blanks, digits -/
def hrC (L : Nat → Nat) (len p : Nat) : Int32 := if p < len then nI (L p) else 0
def ltM (L : Nat → Nat) (len p : Nat) : Int32 := if p < len then nI (L p) else -1
def isD (L : Nat → Nat) (len p : Nat) : Bool := decide (p < len) && (decide (48 ≤ L p) && decide (L p ≤ 57))
def okT (L : Nat → Nat) (len : Nat) : Prop := len ≤ 70 ∧ ∀ i, i < len → 32 ≤ L i ∧ L i ≤ 126
theorem isD_f {L : Nat → Nat} {len p : Nat} (h : isD L len p = true) : p < len ∧ 48 ≤ L p ∧ L p ≤ 57 := by
  unfold isD at h
  rw [Bool.and_eq_true, Bool.and_eq_true] at h
  exact ⟨of_decide_eq_true h.1, of_decide_eq_true h.2.1, of_decide_eq_true h.2.2⟩
theorem inB_n {v a b : Nat} (hv : v < 2 ^ 31) (ha : a < 2 ^ 31) (hb : b < 2 ^ 31) : inB (nI v) (nI a) (nI b) = bI (decide (a ≤ v) && decide (v ≤ b)) := by
  unfold inB
  rw [ite_lt hv ha, ite_lt hb hv]
  by_cases c1 : a ≤ v
  · rw [if_neg (by omega), decide_eq_true c1]
    by_cases c2 : v ≤ b
    · rw [if_neg (by omega), decide_eq_true c2]; rfl
    · rw [if_pos (by omega), decide_eq_false c2]; rfl
  · rw [if_pos (by omega), decide_eq_false c1]; rfl
theorem inB_hr {L : Nat → Nat} {len p : Nat} (hT : okT L len) : inB (hrC L len p) 48 57 = bI (isD L len p) := by
  unfold hrC isD
  by_cases c : p < len
  · have h1 := hT.2 p c
    rw [if_pos c, decide_eq_true c]
    exact inB_n (a := 48) (b := 57) (by omega) (by decide) (by decide)
  · rw [if_neg c, decide_eq_false c]; rfl
theorem inB_lt {L : Nat → Nat} {len p : Nat} (hT : okT L len) : inB (ltM L len p) 48 57 = bI (isD L len p) := by
  unfold ltM isD
  by_cases c : p < len
  · have h1 := hT.2 p c
    rw [if_pos c, decide_eq_true c]
    exact inB_n (a := 48) (b := 57) (by omega) (by decide) (by decide)
  · rw [if_neg c, decide_eq_false c]; rfl
theorem rc_ok {v : Nat} (hv : v < 65536) (h : bb_H) : bb_rc (nI v) h = some (nI v, h) := by
  unfold bb_rc
  rw [if_pos (pk_charN hv).1]
/-- behind blanks -/
def skN (L : Nat → Nat) : Nat → Nat → Nat
  | 0, p => p
  | t + 1, p => if L p = 32 then skN L t (p + 1) else p
def sk (L : Nat → Nat) (len p : Nat) : Nat := skN L (len - p) p
theorem skN_le (L : Nat → Nat) : ∀ t p, skN L t p ≤ p + t := by
  intro t
  induction t with
  | zero => intro p; exact Nat.le_refl _
  | succ t ih =>
    intro p
    have := ih (p + 1)
    show (if L p = 32 then skN L t (p + 1) else p) ≤ p + (t + 1)
    split <;> omega
theorem sk_le {L : Nat → Nat} {len p : Nat} (h : p ≤ len) : sk L len p ≤ len := by
  have := skN_le L (len - p) p
  unfold sk
  omega
theorem flt_all : ∀ e, e < 71 → ¬ ((-20 : Int32) - nI e) = 0 := by decide +kernel
theorem b_t : ¬ bI true = 0 := by decide
section TPC
variable {s k : St} {kf : Int32} {X : Nat → Sh} {tr : Bn} {gu : Rl} {O : Od} {ch : Nat → Nat} {L lv : Nat → Nat} {len p : Nat} {R : Rl} {ft : Int32}
theorem k1 : bb_gI (chp s k kf (L, len, R, lv, p, ft) X tr gu O ch) 75 6 1 = some (nI len) := rfl
theorem k2 : bb_gR (chp s k kf (L, len, R, lv, p, ft) X tr gu O ch) 75 6 2 = some 77 := rfl
theorem k3 : bb_gR (chp s k kf (L, len, R, lv, p, ft) X tr gu O ch) 75 6 3 = some 84 := rfl
theorem k4 : bb_gI (chp s k kf (L, len, R, lv, p, ft) X tr gu O ch) 75 6 4 = some (nI p) := rfl
theorem k5 : bb_gI (chp s k kf (L, len, R, lv, p, ft) X tr gu O ch) 75 6 5 = some ft := rfl
theorem k1w : bb_pI (chp s k kf (L, len, R, lv, p, ft) X tr gu O ch) 75 6 1 0 = some (chp s k kf (L, 0, R, lv, p, ft) X tr gu O ch) := rfl
theorem k4w (x : Nat) : bb_pI (chp s k kf (L, len, R, lv, p, ft) X tr gu O ch) 75 6 4 (nI x) = some (chp s k kf (L, len, R, lv, x, ft) X tr gu O ch) := rfl
theorem k4z : bb_pI (chp s k kf (L, len, R, lv, p, ft) X tr gu O ch) 75 6 4 0 = some (chp s k kf (L, len, R, lv, 0, ft) X tr gu O ch) := rfl
theorem k5w (x : Int32) : bb_pI (chp s k kf (L, len, R, lv, p, ft) X tr gu O ch) 75 6 5 x = some (chp s k kf (L, len, R, lv, p, x) X tr gu O ch) := rfl
theorem kL {i : Nat} (hi : i < 70) : bb_aI (chp s k kf (L, len, R, lv, p, ft) X tr gu O ch) 76 .char (nI i) = some (nI (L i)) := rt hi
theorem kR : rlAt (chp s k kf (L, len, R, lv, p, ft) X tr gu O ch) 77 R := cR77
theorem kRs (R2 : Rl) : rlSet (chp s k kf (L, len, R, lv, p, ft) X tr gu O ch) 77 R2 = chp s k kf (L, len, R2, lv, p, ft) X tr gu O ch := rfl
theorem kR0 : bb_pI (chp s k kf (L, len, R, lv, p, ft) X tr gu O ch) 77 3 0 0 = some (chp s k kf (L, len, (0, R.2), lv, p, ft) X tr gu O ch) := rfl
theorem kVw {i : Nat} (hi : i < 6) (x : Nat) : bb_sV (chp s k kf (L, len, R, lv, p, ft) X tr gu O ch) 84 .int (nI i) (.int (nI x)) = some (chp s k kf (L, len, R, updN lv i x, p, ft) X tr gu O ch) := wtl hi x
theorem here_ok (hT : okT L len) : m_X6_here 75 (chp s k kf (L, len, R, lv, p, ft) X tr gu O ch) = some (hrC L len p, chp s k kf (L, len, R, lv, p, ft) X tr gu O ch) ∨ 2 ^ 30 ≤ p := by
  have h70 := hT.1
  by_cases b : 2 ^ 30 ≤ p
  · exact Or.inr b
  · refine Or.inl ?_
    unfold m_X6_here m_X6_here_39 m_X6_here_40 hrC
    rw [k4, bsome, if_neg (nI_pos (by omega)), bsome, k1, bsome, ite_le (by omega) (by omega)]
    by_cases c : p < len
    · have h1 := hT.2 p c
      rw [if_neg (by omega), if_pos c, bsome, if_neg (show ¬ (70 : Int32) ≤ nI p from Lge 70 (by omega) (by decide)), ct0, bsome, bsome, kL (by omega), bsome, rc_ok (by omega)]
    · rw [if_pos (by omega), if_neg c]
      exact rc_ok (v := 0) (by decide) _
theorem hereL (hT : okT L len) (hp : p ≤ len) : m_X6_here 75 (chp s k kf (L, len, R, lv, p, ft) X tr gu O ch) = some (hrC L len p, chp s k kf (L, len, R, lv, p, ft) X tr gu O ch) := (here_ok hT).resolve_right (by have := hT.1; omega)
theorem skip_loop (hT : okT L len) : ∀ (t p f : Nat), p + t = len → t < f → m_X6_skipBlanks_0 f 75 (chp s k kf (L, len, R, lv, p, ft) X tr gu O ch) = some (chp s k kf (L, len, R, lv, skN L t p, ft) X tr gu O ch) := by
  have h70 := hT.1
  intro t
  induction t with
  | zero =>
    intro p f hp hf
    obtain ⟨f, rfl⟩ := fuel_s hf
    unfold m_X6_skipBlanks_0
    rw [k4, bsome, k1, bsome, if_pos (nI_le (by omega) (by omega))]
    rfl
  | succ t ih =>
    intro p f hp hf
    obtain ⟨f, rfl⟩ := fuel_s hf
    have h1 := hT.2 p (by omega)
    unfold m_X6_skipBlanks_0 m_X6_skipBlanks_33
    rw [k4, bsome, k1, bsome, if_neg (nI_ge (by omega) (by omega)), ctr, hereL hT (by omega), bsome]
    dsimp only
    rw [show hrC L len p = nI (L p) from if_pos (by omega), show (32 : Int32) = nI 32 from rfl, ite_e (by omega) (by decide), k4, bsome, nI_1, k4w, bsome, ih (p + 1) f (by omega) (by omega)]
    show _ = some (chp s k kf (L, len, R, lv, (if L p = 32 then skN L t (p + 1) else p), ft) X tr gu O ch)
    split <;> rfl
theorem skipB_ok (hT : okT L len) (hp : p ≤ len) : m_X6_skipBlanks 75 (chp s k kf (L, len, R, lv, p, ft) X tr gu O ch) = some (chp s k kf (L, len, R, lv, sk L len p, ft) X tr gu O ch) := skip_loop hT (len - p) p 1000 (by omega) (by have := hT.1; omega)
theorem isDigit_ok (hT : okT L len) (hp : p ≤ len) : m_X6_isDigit 75 (chp s k kf (L, len, R, lv, p, ft) X tr gu O ch) = some (bI (isD L len p), chp s k kf (L, len, R, lv, p, ft) X tr gu O ch) := by
  unfold m_X6_isDigit
  rw [ctr, hereL hT hp, bsome]
  dsimp only
  rw [within_ok, bsome]
  dsimp only
  rw [inB_hr hT]
  exact rz_b _ _
theorem readDigit_ok (hT : okT L len) (hd : isD L len p = true) : m_X6_readDigit 75 (chp s k kf (L, len, R, lv, p, ft) X tr gu O ch) = some (nI (L p - 48), chp s k kf (L, len, R, lv, p + 1, ft) X tr gu O ch) := by
  obtain ⟨h1, h2, h3⟩ := isD_f hd
  unfold m_X6_readDigit
  rw [ctr, hereL hT (by omega), bsome]
  dsimp only
  rw [show hrC L len p = nI (L p) from if_pos h1, k4, bsome, nI_1, k4w, bsome, show (48 : Int32) = nI 48 from rfl, pk_sub h2]
theorem faultAt_ok (e : Nat) : m_X6_faultAt 75 (nI e) (chp s k kf (L, len, R, lv, p, ft) X tr gu O ch) = some (chp s k kf (L, len, R, lv, p, -20 - nI e) X tr gu O ch) := by
  unfold m_X6_faultAt
  rw [k5w, bsome]
theorem life48_ok {q l : Nat} (hl : l < 1000) : m_X6_readLife_48 75 (nI q) (nI l) (chp s k kf (L, len, R, lv, p, ft) X tr gu O ch) = some (nI l, chp s k kf (L, len, R, lv, p, if 1 ≤ l ∧ l ≤ 60 then ft else -20 - nI q) X tr gu O ch) := by
  unfold m_X6_readLife_48 m_X6_readLife_63
  rw [within_ok, bsome]
  dsimp only
  rw [show inB (nI l) 1 60 = _ from inB_n (a := 1) (b := 60) (by omega) (by decide) (by decide), ite_b]
  by_cases c : 1 ≤ l ∧ l ≤ 60
  · rw [decide_eq_true c.1, decide_eq_true c.2, if_pos c]; rfl
  · rw [if_neg (fun z => c (by
      rw [Bool.and_eq_true] at z
      exact ⟨of_decide_eq_true z.1, of_decide_eq_true z.2⟩)), ctr, faultAt_ok, bsome, if_neg c]
def lfP (L : Nat → Nat) (len q : Nat) : Nat × Nat := if isD L len (q + 1) then (10 * (L q - 48) + (L (q + 1) - 48), q + 2) else (L q - 48, q + 1)
theorem lfP_lt {q : Nat} (h : isD L len q = true) : (lfP L len q).1 < 1000 ∧ (lfP L len q).2 ≤ len := by
  obtain ⟨h1, h2, h3⟩ := isD_f h
  unfold lfP
  by_cases c : isD L len (q + 1) = true
  · obtain ⟨g1, g2, g3⟩ := isD_f c
    rw [if_pos c]
    exact ⟨by show 10 * (L q - 48) + (L (q + 1) - 48) < 1000; omega, by show q + 2 ≤ len; omega⟩
  · rw [if_neg c]
    exact ⟨by show L q - 48 < 1000; omega, by show q + 1 ≤ len; omega⟩
theorem readLife_no (hT : okT L len) (hp : p ≤ len) (h : ¬ isD L len (sk L len p) = true) : m_X6_readLife 75 (chp s k kf (L, len, R, lv, p, ft) X tr gu O ch) = some (0, chp s k kf (L, len, R, lv, sk L len p, -20 - nI (sk L len p)) X tr gu O ch) := by
  unfold m_X6_readLife
  rw [ctr, skipB_ok hT hp, bsome, k4, bsome, ctr, isDigit_ok hT (sk_le hp), bsome]
  dsimp only
  rw [Bool.eq_false_iff.mpr h, if_pos (show bI false = 0 from rfl), k4, bsome, ctr, faultAt_ok, bsome]
theorem readLife_yes (hT : okT L len) (hp : p ≤ len) (h : isD L len (sk L len p) = true) : m_X6_readLife 75 (chp s k kf (L, len, R, lv, p, ft) X tr gu O ch) = some (nI (lfP L len (sk L len p)).1, chp s k kf (L, len, R, lv, (lfP L len (sk L len p)).2, if 1 ≤ (lfP L len (sk L len p)).1 ∧ (lfP L len (sk L len p)).1 ≤ 60 then ft else -20 - nI (sk L len p)) X tr gu O ch) := by
  have hl := lfP_lt h
  obtain ⟨h1, h2, h3⟩ := isD_f h
  have hb : ¬ bI (isD L len (sk L len p)) = 0 := by rw [h]; decide
  unfold m_X6_readLife
  rw [ctr, skipB_ok hT hp, bsome, k4, bsome, ctr, isDigit_ok hT (sk_le hp), bsome]
  dsimp only
  rw [if_neg hb, ctr, readDigit_ok hT h, bsome]
  dsimp only
  rw [ctr, isDigit_ok hT (by omega), bsome]
  dsimp only
  unfold lfP at hl ⊢
  by_cases c : isD L len (sk L len p + 1) = true
  · rw [if_pos c] at hl ⊢
    have hc : ¬ bI (isD L len (sk L len p + 1)) = 0 := by rw [c]; decide
    rw [if_neg hc, ctr, readDigit_ok hT c, bsome]
    dsimp only
    rw [show (10 : Int32) * nI (L (sk L len p) - 48) = nI (10 * (L (sk L len p) - 48)) from pk_mul 10 _, nI_add]
    exact life48_ok hl.1
  · rw [if_neg c] at hl ⊢
    rw [Bool.eq_false_iff.mpr c, if_pos (show bI false = 0 from rfl)]
    exact life48_ok hl.1
end TPC
/-! the model's -/
section TPM
variable {S Le As Oo Im tp dr Sz Ln : Nat → Int32} {kp ty at_ : Int32} {It Mv : Nat → Int64} {L : Nat → Nat} {len p : Nat}
theorem q4 : bb_gI (mh S Le As Oo (Im, kp, tp, ty, dr, at_, It, Mv, Sz, Ln)) 0 8 4 = some ty := rfl
theorem q6 : bb_gI (mh S Le As Oo (Im, kp, tp, ty, dr, at_, It, Mv, Sz, Ln)) 0 8 6 = some at_ := rfl
theorem q4w (x : Int32) : bb_pI (mh S Le As Oo (Im, kp, tp, ty, dr, at_, It, Mv, Sz, Ln)) 0 8 4 x = some (mh S Le As Oo (Im, kp, tp, x, dr, at_, It, Mv, Sz, Ln)) := rfl
theorem q6w (x : Int32) : bb_pI (mh S Le As Oo (Im, kp, tp, ty, dr, at_, It, Mv, Sz, Ln)) 0 8 6 x = some (mh S Le As Oo (Im, kp, tp, ty, dr, x, It, Mv, Sz, Ln)) := rfl
theorem rTp {i : Nat} (hi : i < 70) : bb_aI (mh S Le As Oo (Im, kp, tp, ty, dr, at_, It, Mv, Sz, Ln)) 3 .int (nI i) = some (tp i) := aI_of (h := mh S Le As Oo (Im, kp, tp, ty, dr, at_, It, Mv, Sz, Ln)) rfl hi (by decide)
theorem rDr {i : Nat} (hi : i < 40) : bb_aI (mh S Le As Oo (Im, kp, tp, ty, dr, at_, It, Mv, Sz, Ln)) 4 .int (nI i) = some (dr i) := aI_of (h := mh S Le As Oo (Im, kp, tp, ty, dr, at_, It, Mv, Sz, Ln)) rfl hi (by decide)
theorem wDr {i : Nat} (hi : i < 40) (v : Int32) : bb_sV (mh S Le As Oo (Im, kp, tp, ty, dr, at_, It, Mv, Sz, Ln)) 4 .int (nI i) (.int v) = some (mh S Le As Oo (Im, kp, tp, ty, updN dr i v, at_, It, Mv, Sz, Ln)) := (sI_of (h := mh S Le As Oo (Im, kp, tp, ty, dr, at_, It, Mv, Sz, Ln)) rfl hi (by decide)).trans rfl
theorem letterAt_ok (hT : okT L len) (hM : ∀ i, i < len → tp i = nI (L i)) (hp : p ≤ len) : m_X8_letterAt 0 (nI p) (mh S Le As Oo (Im, kp, tp, nI len, dr, at_, It, Mv, Sz, Ln)) = some (ltM L len p, mh S Le As Oo (Im, kp, tp, nI len, dr, at_, It, Mv, Sz, Ln)) := by
  have h70 := hT.1
  unfold m_X8_letterAt m_X8_letterAt_18 ltM
  rw [q4, bsome, ite_le (by omega) (by omega)]
  by_cases c : p < len
  · rw [if_neg (by omega), g83, bsome, rTp (by omega), bsome, hM p c, if_pos c]
  · rw [if_pos (by omega), if_neg c]
theorem skips_loop (hT : okT L len) (hM : ∀ i, i < len → tp i = nI (L i)) : ∀ (t p f : Nat), p + t = len → t < f → m_X8_skips_0 f 0 (mh S Le As Oo (Im, kp, tp, nI len, dr, nI p, It, Mv, Sz, Ln)) = some (ltM L len (skN L t p), mh S Le As Oo (Im, kp, tp, nI len, dr, nI (skN L t p), It, Mv, Sz, Ln)) := by
  have h70 := hT.1
  intro t
  induction t with
  | zero =>
    intro p f hp hf
    obtain ⟨f, rfl⟩ := fuel_s hf
    unfold m_X8_skips_0
    rw [q6, bsome, g8r, letterAt_ok hT hM (by omega), bsome]
    dsimp only
    rw [if_neg (show ¬ ltM L len p = 32 from by unfold ltM; rw [if_neg (by omega)]; decide), q6, bsome, g8r, letterAt_ok hT hM (by omega), bsome]
    rfl
  | succ t ih =>
    intro p f hp hf
    obtain ⟨f, rfl⟩ := fuel_s hf
    have h1 := hT.2 p (by omega)
    have e : ltM L len p = nI (L p) := if_pos (by omega)
    unfold m_X8_skips_0
    rw [q6, bsome, g8r, letterAt_ok hT hM (by omega), bsome]
    dsimp only
    rw [e]
    show _ = some (ltM L len (if L p = 32 then skN L t (p + 1) else p), mh S Le As Oo (Im, kp, tp, nI len, dr, nI (if L p = 32 then skN L t (p + 1) else p), It, Mv, Sz, Ln))
    by_cases c : L p = 32
    · rw [if_pos c, if_pos (show nI (L p) = 32 by rw [c]; rfl), q6, bsome, nI_1, q6w, bsome, ih (p + 1) f (by omega) (by omega)]
    · rw [if_neg c, if_neg (show ¬ nI (L p) = 32 from fun z => c ((nI_eq (b := 32) (by omega) (by decide)).mp z)), q6, bsome, g8r, letterAt_ok hT hM (by omega), bsome]
theorem skips_ok (hT : okT L len) (hM : ∀ i, i < len → tp i = nI (L i)) (hp : p ≤ len) : m_X8_skips 0 (mh S Le As Oo (Im, kp, tp, nI len, dr, nI p, It, Mv, Sz, Ln)) = some (ltM L len (sk L len p), mh S Le As Oo (Im, kp, tp, nI len, dr, nI (sk L len p), It, Mv, Sz, Ln)) := skips_loop hT hM (len - p) p 1000 (by omega) (by have := hT.1; omega)
theorem isDigit8_ok (x : Int32) (h : bb_H) : m_X8_isDigit x h = some (inB x 48 57, h) := by
  unfold m_X8_isDigit
  rw [in_ok, bsome]
  exact rz_in _ _ _ _
theorem told_loop {n t x : Nat} {pl : Nat → Nat → Nat} (hn : n ≤ 6) (ht : t < 3) (hx : x < 100) (hp : ∀ m, m < n → pl t m < 100) (hd : ∀ m, m < n → dr (22 + 3 * m + t) = nI (pl t m)) : ∀ (c j f : Nat) (a : Bool), j + c = n → c < f → m_X8_isTold_6 f 0 (nI n) (nI t) (nI x) (bI a) (nI j) (mh S Le As Oo (Im, kp, tp, ty, dr, at_, It, Mv, Sz, Ln)) = some (bI (a || anyN (fun m => pl t m == x) j c), mh S Le As Oo (Im, kp, tp, ty, dr, at_, It, Mv, Sz, Ln)) := by
  intro c
  induction c with
  | zero =>
    intro j f a hj hf
    obtain ⟨f, rfl⟩ := fuel_s hf
    unfold m_X8_isTold_6
    rw [if_pos (nI_le (by omega) (by omega)), rz_b]
    show some (bI a, _) = some (bI (a || false), _)
    rw [Bool.or_false]
  | succ c ih =>
    intro j f a hj hf
    obtain ⟨f, rfl⟩ := fuel_s hf
    have h1 := hp j (by omega)
    unfold m_X8_isTold_6 m_X8_isTold_35 m_X8_isTold_40
    rw [if_neg (nI_ge (by omega) (by omega)), ite_b, g85, bsome, ix22, rDr (by omega), bsome, hd j (by omega), ite_e (by omega) (by omega), nI_1, show (1 : Int32) = bI true from rfl, show (0 : Int32) = bI false from rfl, ih (j + 1) f _ (by omega) (by omega), ih (j + 1) f _ (by omega) (by omega)]
    show _ = some (bI (a || ((pl t j == x) || anyN (fun m => pl t m == x) (j + 1) c)), mh S Le As Oo (Im, kp, tp, ty, dr, at_, It, Mv, Sz, Ln))
    cases a with
    | true => rfl
    | false =>
      by_cases e : pl t j = x
      · rw [if_neg (by decide), if_pos e, beq_iff_eq.mpr e]
        rfl
      · rw [if_neg (by decide), if_neg e, beq_eq_false_iff_ne.mpr e]
        rfl
theorem told_ok {n t x : Nat} {pl : Nat → Nat → Nat} (hn : n ≤ 6) (ht : t < 3) (hx : x < 100) (hp : ∀ m, m < n → pl t m < 100) (hd : ∀ m, m < n → dr (22 + 3 * m + t) = nI (pl t m)) : m_X8_isTold 0 (nI n) (nI t) (nI x) (mh S Le As Oo (Im, kp, tp, ty, dr, at_, It, Mv, Sz, Ln)) = some (bI (takN pl n t x), mh S Le As Oo (Im, kp, tp, ty, dr, at_, It, Mv, Sz, Ln)) := told_loop hn ht hx hp hd n 0 1000 false (by omega) (by omega)
end TPM
/-- the letter of a kind -/
def kbV (x : Int32) : Int32 := if x = 112 then 0 else if x = 104 then 1 else if x = 117 then 2 else if x = 100 then 3 else if x = 114 then 4 else -4
theorem kindBy_ok (x : Int32) (h : bb_H) : m_X8_kindBy x h = some (kbV x, h) := by
  unfold m_X8_kindBy m_X8_kindBy_52 kbV
  split
  · rfl
  · split
    · rfl
    · split
      · rfl
      · split
        · rfl
        · split <;> rfl
theorem kind_all : ∀ v, v < 127 → (bb_kix (nI v) = -1 ∧ kbV (nI v) = -4) ∨ ∃ c, c < 5 ∧ bb_kix (nI v) = nI c ∧ kbV (nI v) = nI c := by decide +kernel
theorem kind_or {L : Nat → Nat} {len p : Nat} (hT : okT L len) : (bb_kix (hrC L len p) = -1 ∧ kbV (ltM L len p) = -4) ∨ (p < len ∧ ∃ c, c < 5 ∧ bb_kix (hrC L len p) = nI c ∧ kbV (ltM L len p) = nI c) := by
  unfold hrC ltM
  by_cases c : p < len
  · have h1 := hT.2 p c
    rw [if_pos c, if_pos c]
    rcases kind_all (L p) (by omega) with h | h
    · exact Or.inl h
    · exact Or.inr ⟨c, h⟩
  · rw [if_neg c, if_neg c]
    exact Or.inl ⟨by decide, by decide⟩
