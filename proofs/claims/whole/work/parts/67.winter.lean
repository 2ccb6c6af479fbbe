/-! winter -/
theorem pow_loop {h : bb_H} {a e : Nat} (he : e < 100) : ∀ (t j f w : Nat), j + t = e → t < f → m_X7_power_4 f (nI a) (nI e) (nI w) (nI j) h = some (nI (w * a ^ t), h) := by
  intro t
  induction t with
  | zero =>
    intro j f w hj hf
    obtain ⟨g, rfl⟩ := fuel_s hf
    unfold m_X7_power_4
    rw [if_pos (nI_le (by omega) (by omega)), Nat.pow_zero, Nat.mul_one]
  | succ t ih =>
    intro j f w hj hf
    obtain ⟨g, rfl⟩ := fuel_s hf
    unfold m_X7_power_4
    rw [if_neg (nI_ge (by omega) (by omega)), pk_mul, nI_1, ih (j + 1) g _ (by omega) (by omega), Nat.pow_succ, Nat.mul_assoc, Nat.mul_comm a]
theorem power_ok {h : bb_H} {a e : Nat} (he : e < 100) : m_X7_power (nI a) (nI e) h = some (nI (a ^ e), h) := by
  have e2 := pow_loop (h := h) (a := a) he e 0 1000 1 (by omega) (by omega)
  rw [Nat.one_mul] at e2
  exact e2
/-! the common divisor -/
theorem gcd_step {a b : Nat} : Nat.gcd a b = Nat.gcd b (a % b) := by rw [Nat.gcd_comm a b, Nat.gcd_rec b a, Nat.gcd_comm]
theorem half {b r : Nat} (h0 : 0 < r) (hr : r < b) : 2 * (b % r) < b := by
  have h1 := Nat.mod_lt b h0
  have h2 : b % r ≤ b - r := by
    rw [Nat.mod_eq_sub_mod (Nat.le_of_lt hr)]
    exact Nat.mod_le _ _
  omega
theorem comm_loop {h : bb_H} : ∀ (n a b s f : Nat), b < 2 ^ n → a < 2 ^ 31 → n ≤ 31 → s + 2 * n ≤ 90 → 2 * n < f → m_X7_commonDivisor_7 f (nI a) (nI b) (nI s) h = some (nI (Nat.gcd a b), h) := by
  intro n
  induction n with
  | zero =>
    intro a b s f hb ha hn hs hf
    obtain ⟨g, rfl⟩ := fuel_s hf
    obtain rfl : b = 0 := by
      rw [Nat.pow_zero] at hb
      omega
    unfold m_X7_commonDivisor_7 m_X7_commonDivisor_34
    rw [if_neg (show ¬ (100 : Int32) ≤ nI s from Lge 100 (by omega) (by decide)), if_pos (show nI 0 = (0 : Int32) from rfl), Nat.gcd_zero_right]
  | succ n ih =>
    intro a b s f hb ha hn hs hf
    obtain ⟨f, rfl⟩ := fuel_s hf
    obtain ⟨f, rfl⟩ := fuel_s (show 0 < f by omega)
    have hb31 : b < 2 ^ 31 := Nat.lt_of_lt_of_le hb (Nat.pow_le_pow_right (by decide) hn)
    unfold m_X7_commonDivisor_7 m_X7_commonDivisor_34
    rw [if_neg (show ¬ (100 : Int32) ≤ nI s from Lge 100 (by omega) (by decide))]
    by_cases z : b = 0
    · subst z
      rw [if_pos (show nI 0 = (0 : Int32) from rfl), Nat.gcd_zero_right]
    · have zb : ¬ nI b = (0 : Int32) := fun w => z ((nI_eq (b := 0) hb31 (by decide)).mp w)
      rw [if_neg zb, if_neg zb, pk_rem ha (by omega) hb31, nI_1]
      have hr : a % b < b := Nat.mod_lt _ (by omega)
      unfold m_X7_commonDivisor_7 m_X7_commonDivisor_34
      rw [if_neg (show ¬ (100 : Int32) ≤ nI (s + 1) from Lge 100 (by omega) (by decide))]
      by_cases z2 : a % b = 0
      · rw [z2, if_pos (show nI 0 = (0 : Int32) from rfl), gcd_step, z2, Nat.gcd_zero_right]
      · have zr : ¬ nI (a % b) = (0 : Int32) := fun w => z2 ((nI_eq (b := 0) (by omega) (by decide)).mp w)
        have hh := half (show 0 < a % b by omega) hr
        rw [Nat.pow_succ] at hb
        rw [if_neg zr, if_neg zr, pk_rem hb31 (by omega) (by omega), nI_1, ih (a % b) (b % (a % b)) (s + 1 + 1) f (by omega) (by omega) (by omega) (by omega) (by omega), gcd_step (a := a) (b := b), gcd_step (a := b) (b := a % b)]
theorem eu_loop {h : bb_H} {x3 : Int32} {A Bw : Nat} : ∀ (n a b f : Nat), b < 2 ^ n → a < 2 ^ 31 → n ≤ 31 → 2 * n < f → 0 < Nat.gcd a b → Nat.gcd a b < 2 ^ 31 → m_X8_winter_236 f x3 (nI A) (nI Bw) (nI a) (nI b) h = some (if x3 = 0 then nI A / nI (Nat.gcd a b) else nI Bw / nI (Nat.gcd a b), h) := by
  intro n
  induction n with
  | zero =>
    intro a b f hb ha hn hf h0 hg
    obtain ⟨g, rfl⟩ := fuel_s hf
    obtain rfl : b = 0 := by
      rw [Nat.pow_zero] at hb
      omega
    rw [Nat.gcd_zero_right] at h0 hg ⊢
    have za : ¬ nI a = (0 : Int32) := fun w => by
      have := (nI_eq (b := 0) hg (by decide)).mp w
      omega
    unfold m_X8_winter_236 m_X8_winter_276
    rw [if_pos (by decide), if_neg za, if_neg za]
    split <;> rfl
  | succ n ih =>
    intro a b f hb ha hn hf h0 hg
    obtain ⟨f, rfl⟩ := fuel_s hf
    obtain ⟨f, rfl⟩ := fuel_s (show 0 < f by omega)
    have hb31 : b < 2 ^ 31 := Nat.lt_of_lt_of_le hb (Nat.pow_le_pow_right (by decide) hn)
    unfold m_X8_winter_236 m_X8_winter_276
    rw [le0 hb31]
    by_cases z : b = 0
    · subst z
      rw [Nat.gcd_zero_right] at h0 hg ⊢
      have za : ¬ nI a = (0 : Int32) := fun w => by
        have := (nI_eq (b := 0) hg (by decide)).mp w
        omega
      rw [if_pos rfl, if_neg za, if_neg za]
      split <;> rfl
    · have zb : ¬ nI b = (0 : Int32) := fun w => z ((nI_eq (b := 0) hb31 (by decide)).mp w)
      rw [if_neg z, if_neg zb, pk_rem ha (by omega) hb31]
      have hr : a % b < b := Nat.mod_lt _ (by omega)
      rw [gcd_step] at h0 hg ⊢
      unfold m_X8_winter_236 m_X8_winter_276
      rw [le0 (by omega)]
      by_cases z2 : a % b = 0
      · rw [z2, Nat.gcd_zero_right] at h0 hg ⊢
        rw [if_pos rfl, if_neg zb, if_neg zb]
        split <;> rfl
      · have zr : ¬ nI (a % b) = (0 : Int32) := fun w => z2 ((nI_eq (b := 0) (by omega) (by decide)).mp w)
        have hh := half (show 0 < a % b by omega) hr
        rw [Nat.pow_succ] at hb
        rw [gcd_step] at h0 hg ⊢
        rw [if_neg z2, if_neg zr, pk_rem hb31 (by omega) (by omega), ih (a % b) (b % (a % b)) f (by omega) (by omega) (by omega) (by omega) h0 hg]
/-! those left, beside their own -/
def alB (P : Nat → Nat → Bool) (sv : Nat → Nat) (m : Nat) : Nat → Nat → Option Nat → Bool
  | _, 0, _ => true
  | j, t + 1, o => if m.testBit j then (match o with | none => true | some q => P q (sv j)) && alB P sv m (j + 1) t (some (sv j)) else alB P sv m (j + 1) t o
section AL
variable {s k : St} {kf : Int32} {T : Tp} {X : Nat → Sh} {tr : Bn} {gu : Rl} {O : Od} {ch : Nat → Nat}
theorem allBy_loop (wR : Wr s.1) (wB : Wb s.1.1 s.2.1) {m : Nat} (hm : m < 64) : ∀ (t j f : Nat) (o : Option Nat), j + t = s.2.1.2.2.1 → t < f → (∀ q, o = some q → ∃ i, i < j ∧ s.2.1.2.1 i = q) → m_X7_areAllByTheirOwn_4 f 0 (nI m) (encO o) (nI j) (chp s k kf T X tr gu O ch) = some (bI (alB (tog s.1.1 s.1.2.2.1) s.2.1.2.1 m j t o), chp s k kf T X tr gu O ch) := by
  have A := cB9 (s := s) (k := k) (kf := kf) (T := T) (X := X) (tr := tr) (gu := gu) (O := O) (ch := ch)
  have AR := cR2 (s := s) (k := k) (kf := kf) (T := T) (X := X) (tr := tr) (gu := gu) (O := O) (ch := ch)
  have k6 := wB.1.1
  have o1 := wR.1.1
  intro t
  induction t with
  | zero =>
    intro j f o hj hf ho
    obtain ⟨g, rfl⟩ := fuel_s hf
    unfold m_X7_areAllByTheirOwn_4
    rw [c70, bsome, c11, bsome, A.G2, bsome, if_pos (nI_le (by omega) (by omega))]
    rfl
  | succ t ih =>
    intro j f o hj hf ho
    obtain ⟨g, rfl⟩ := fuel_s hf
    have s1 := wB.2.2.1 j (by omega)
    have s6 := wB.1.2.2.1 j (by omega)
    have h67 : m_X7_areAllByTheirOwn_67 (m_X7_areAllByTheirOwn_4 g) 0 (nI m) (nI j) (nI (s.2.1.2.1 j)) (chp s k kf T X tr gu O ch) = some (bI (alB (tog s.1.1 s.1.2.2.1) s.2.1.2.1 m (j + 1) t (some (s.2.1.2.1 j))), chp s k kf T X tr gu O ch) := by
      unfold m_X7_areAllByTheirOwn_67 m_X7_areAllByTheirOwn_70
      rw [nI_1, show nI (s.2.1.2.1 j) = encO (some (s.2.1.2.1 j)) from rfl, ih (j + 1) g _ (by omega) (by omega) (fun q e => by cases e; exact ⟨j, by omega, rfl⟩)]
    unfold m_X7_areAllByTheirOwn_4
    rw [c70, bsome, c11, bsome, A.G2, bsome, if_neg (nI_ge (by omega) (by omega)), holds_ok, bsome]
    dsimp only
    rw [bit_ite hm (by omega)]
    conv => rhs; unfold alB
    cases hb : m.testBit j with
    | false =>
      rw [if_neg (by decide), if_neg (by decide)]
      unfold m_X7_areAllByTheirOwn_70
      rw [nI_1, ih (j + 1) g o (by omega) (by omega) (fun q e => by
        obtain ⟨i, hi, e2⟩ := ho q e
        exact ⟨i, by omega, e2⟩)]
    | true =>
      rw [if_pos rfl, if_pos rfl, c70, bsome, c11, bsome, A.G1, bsome, A.AS (by omega), bsome]
      cases o with
      | none =>
        rw [if_pos (show encO none = -1 from rfl), h67]
        rfl
      | some q =>
        obtain ⟨i, hi, rfl⟩ := ho q rfl
        have q1 := wB.2.2.1 i (by omega)
        have q6 := wB.1.2.2.1 i (by omega)
        rw [if_neg (show ¬ encO (some (s.2.1.2.1 i)) = -1 from nI_m1 (by omega)), bsome, c10, bsome, AR.G3, bsome, show encO (some (s.2.1.2.1 i)) = nI (s.2.1.2.1 i) from rfl, AR.AB q6, bsome, holds_ok, bsome]
        dsimp only
        rw [bit_ite (wR.1.2.2.2 _ q6) s6, h67, wR.2 _ q1, sbN_bit, decide_eq_true s1, decide_eq_true (show s.2.1.2.1 j ≠ s.2.1.2.1 i from fun e => by
          have := wB.2.2.2.1 j i (by omega) (by omega) e
          omega), Bool.true_and, Bool.true_and]
        cases tog s.1.1 s.1.2.2.1 (s.2.1.2.1 i) (s.2.1.2.1 j) <;> rfl
/-- what a mask weighs -/
def wgt (P : Nat → Nat → Bool) (sv : Nat → Nat) (k0 n c m : Nat) : Nat := if decide (n ≤ pc6 m) && alB P sv m 0 k0 none then (10 - c) ^ pc6 m * c ^ (k0 - pc6 m) else 0
def wgS (P : Nat → Nat → Bool) (sv : Nat → Nat) (k0 n c : Nat) : Nat → Nat → Nat → Nat
  | _, 0, w => w
  | m, t + 1, w => wgS P sv k0 n c (m + 1) t (w + wgt P sv k0 n c m)
theorem cnS_le {m : Nat} : ∀ (t j : Nat), cnS m j t ≤ t := by
  intro t
  induction t with
  | zero => intro j; exact Nat.le_refl _
  | succ t ih =>
    intro j
    have := ih (j + 1)
    unfold cnS
    split <;> omega
theorem pc6_k {m k0 : Nat} (hk : k0 ≤ 6) (hm : m < 2 ^ k0) : pc6 m = cnS m 0 k0 := by
  have h64 : (2 : Nat) ^ k0 ≤ 64 := Nat.pow_le_pow_right (n := 2) (by decide) hk
  rw [pc6_cn m (by omega), show 6 = k0 + (6 - k0) by omega, cnS_split, cnS_z (6 - k0) _ (fun i hi => bit_hi hm (by omega)), Nat.add_zero]
theorem weight_loop (wR : Wr s.1) (wB : Wb s.1.1 s.2.1) {n c : Nat} (hn : n ≤ 6) (hc : c ≤ 10) : ∀ (t m f w : Nat), m + t = 2 ^ s.2.1.2.2.1 → t < f → m_X7_weightOfWinters_17 f 0 (nI n) (nI c) (nI s.2.1.2.2.1) (nI w) (nI m) (chp s k kf T X tr gu O ch) = some (nI (wgS (tog s.1.1 s.1.2.2.1) s.2.1.2.1 s.2.1.2.2.1 n c m t w), chp s k kf T X tr gu O ch) := by
  have k6 := wB.1.1
  have h64 : (2 : Nat) ^ s.2.1.2.2.1 ≤ 64 := Nat.pow_le_pow_right (n := 2) (by decide) k6
  intro t
  induction t with
  | zero =>
    intro m f w hm hf
    obtain ⟨g, rfl⟩ := fuel_s hf
    unfold m_X7_weightOfWinters_17
    rw [one_shl (by omega), if_pos (nI_le (by omega) (by omega))]
    rfl
  | succ t ih =>
    intro m f w hm hf
    obtain ⟨g, rfl⟩ := fuel_s hf
    have hpk := pc6_k (m := m) k6 (by omega)
    have hpl := cnS_le (m := m) s.2.1.2.2.1 0
    rw [← hpk] at hpl
    have hal := allBy_loop (k := k) (kf := kf) (T := T) (X := X) (tr := tr) (gu := gu) (O := O) (ch := ch) wR wB (m := m) (by omega) s.2.1.2.2.1 0 1000 none (by omega) (by omega) (fun q e => by cases e)
    unfold m_X7_weightOfWinters_17 m_X7_weightOfWinters_70
    rw [one_shl (by omega), if_neg (nI_ge (by omega) (by omega)), bitCount_ok (by omega), bsome]
    dsimp only
    rw [ite_lt (by omega) (by omega), c7r]
    unfold m_X7_areAllByTheirOwn
    rw [show m_X7_areAllByTheirOwn_4 1000 0 (nI m) (-1) 0 (chp s k kf T X tr gu O ch) = _ from hal, bsome]
    dsimp only
    rw [ite_b, show (10 : Int32) - nI c = nI (10 - c) from pk_sub (a := 10) hc, power_ok (by omega), bsome]
    dsimp only
    rw [pk_sub hpl, power_ok (by omega), bsome]
    dsimp only
    rw [pk_mul, nI_add, nI_1, ih (m + 1) g _ (by omega) (by omega), ih (m + 1) g _ (by omega) (by omega)]
    show _ = some (nI (wgS (tog s.1.1 s.1.2.2.1) s.2.1.2.1 s.2.1.2.2.1 n c (m + 1) t (w + wgt (tog s.1.1 s.1.2.2.1) s.2.1.2.1 s.2.1.2.2.1 n c m)), chp s k kf T X tr gu O ch)
    unfold wgt
    by_cases z : pc6 m < n
    · rw [if_pos z, decide_eq_false (by omega), Bool.false_and, if_neg (by decide)]
      rfl
    · rw [if_neg z, decide_eq_true (by omega), Bool.true_and]
      cases alB (tog s.1.1 s.1.2.2.1) s.2.1.2.1 m 0 s.2.1.2.2.1 none with
      | true => rfl
      | false =>
        rw [if_neg (by decide), if_neg (by decide)]
        rfl
end AL
def prd (a c m : Nat) : Nat → Nat → Nat → Nat
  | _, 0, w => w
  | j, t + 1, w => prd a c m (j + 1) t (w * (if m.testBit j then a else c))
theorem prd_eq {a c m : Nat} : ∀ (t j w : Nat), prd a c m j t w = w * (a ^ cnS m j t * c ^ (t - cnS m j t)) := by
  intro t
  induction t with
  | zero =>
    intro j w
    show w = w * (a ^ 0 * c ^ (0 - 0))
    simp
  | succ t ih =>
    intro j w
    have hl := cnS_le (m := m) t (j + 1)
    show prd a c m (j + 1) t (w * (if m.testBit j then a else c)) = w * (a ^ ((if m.testBit j then 1 else 0) + cnS m (j + 1) t) * c ^ (t + 1 - ((if m.testBit j then 1 else 0) + cnS m (j + 1) t)))
    rw [ih]
    by_cases q : m.testBit j = true
    · rw [if_pos q, if_pos q, show t + 1 - (1 + cnS m (j + 1) t) = t - cnS m (j + 1) t by omega, Nat.pow_add, Nat.pow_one, Nat.mul_assoc, Nat.mul_assoc]
    · rw [if_neg q, if_neg q, Nat.zero_add, show t + 1 - cnS m (j + 1) t = (t - cnS m (j + 1) t) + 1 by omega, Nat.pow_succ, Nat.mul_assoc]
      congr 1
      rw [Nat.mul_left_comm, Nat.mul_comm c]
section WM
variable {S Le As Oo : Nat → Int32} {M : Mx} {R : Rl} {B : Bn} {k67 : Nat → Int32 → Int32 → Int32 → Int32 → Int32 → Int32 → bb_H → Option (Int32 × bb_H)}
def encN : Option Nat → Int32
  | none => -4
  | some q => nI q
theorem win106_loop (mR : Mr S R) (mB : Mb S R.1 B) (wR : Wr R) (wB : Wb R.1 B) {c m n w : Nat} {x3 x5 : Int32} (hc : c ≤ 10) (hm : m < 64) : ∀ (t j f its : Nat) (o : Option Nat) (z : Bool), j + t = B.2.2.1 → t < f → (∀ q, o = some q → q < R.1) → m_X8_winter_106 k67 f 0 (nI n) (nI c) x3 (nI w) x5 (nI m) (nI its) (encN o) (bI z) (nI j) (mh S Le As Oo M) = k67 0 (nI n) (nI c) x3 (nI (w + if z && alB (tog R.1 R.2.2.1) B.2.1 m j t o then prd (10 - c) c m j t its else 0)) x5 (nI (m + 1)) (mh S Le As Oo M) := by
  have k6 := wB.1.1
  have o1 := wR.1.1
  intro t
  induction t with
  | zero =>
    intro j f its o z hj hf ho
    obtain ⟨g, rfl⟩ := fuel_s hf
    unfold m_X8_winter_106 m_X8_winter_219
    rw [g80, bsome, rS1, bsome, mB.1, if_pos (nI_le (by omega) (by omega)), ite_b, nI_1, nI_add, show nI w + 0 = nI (w + 0) from nI_add w 0]
    show _ = k67 0 (nI n) (nI c) x3 (nI (w + if z && true then its else 0)) x5 (nI (m + 1)) (mh S Le As Oo M)
    cases z <;> rfl
  | succ t ih =>
    intro j f its o z hj hf ho
    obtain ⟨g, rfl⟩ := fuel_s hf
    have s1 := wB.2.2.1 j (by omega)
    have h186 : ∀ (its2 : Nat) (z2 : Bool), m_X8_winter_186 k67 (m_X8_winter_106 k67 g) 0 (nI n) (nI c) x3 (nI w) x5 (nI m) (nI its2) (nI j) (bI z2) (mh S Le As Oo M) = k67 0 (nI n) (nI c) x3 (nI (w + if z2 && alB (tog R.1 R.2.2.1) B.2.1 m (j + 1) t (some (B.2.1 j)) then prd (10 - c) c m (j + 1) t its2 else 0)) x5 (nI (m + 1)) (mh S Le As Oo M) := fun its2 z2 => by
      unfold m_X8_winter_186 m_X8_winter_200
      rw [g80, bsome, ix10, rS (by omega), bsome, mB.2.2.2.2 j (by omega), nI_1, show nI (B.2.1 j) = encN (some (B.2.1 j)) from rfl, ih (j + 1) g its2 _ z2 (by omega) (by omega) (fun q e => by cases e; exact s1)]
    have h181 : ∀ its2, m_X8_winter_181 k67 (m_X8_winter_106 k67 g) 0 (nI n) (nI c) x3 (nI w) x5 (nI m) (nI its2) (nI j) (mh S Le As Oo M) = _ := fun its2 => h186 its2 true
    have h185 : ∀ its2, m_X8_winter_185 k67 (m_X8_winter_106 k67 g) 0 (nI n) (nI c) x3 (nI w) x5 (nI m) (nI its2) (nI j) (mh S Le As Oo M) = _ := fun its2 => h186 its2 false
    unfold m_X8_winter_106
    rw [g80, bsome, rS1, bsome, mB.1, if_neg (nI_ge (by omega) (by omega)), has_ok, bsome]
    dsimp only
    rw [bit_ite hm (by omega)]
    conv => rhs; unfold alB prd
    unfold m_X8_winter_137
    rw [has_ok, bsome, bsome]
    dsimp only
    rw [bit_ite hm (by omega), bit_ite hm (by omega)]
    cases hb : m.testBit j with
    | false =>
      rw [if_neg (show ¬ (false = true) by decide), if_neg (show ¬ (false = true) by decide)]
      rw [if_neg (show ¬ (false = true) by decide), if_neg (show ¬ (false = true) by decide)]
      unfold m_X8_winter_200
      rw [pk_mul, nI_1, ih (j + 1) g _ o z (by omega) (by omega) ho]
    | true =>
      rw [if_pos rfl, if_pos rfl, if_pos rfl, if_pos rfl, show (10 : Int32) - nI c = nI (10 - c) from pk_sub (a := 10) hc, pk_mul, ite_b, h185, h181]
      cases z with
      | false => rfl
      | true =>
        rw [if_pos rfl]
        cases o with
        | none =>
          rw [if_pos (show encN none = -4 from rfl)]
          rfl
        | some q =>
          have hq := ho q rfl
          rw [if_neg (show ¬ encN (some q) = -4 from nI_m4 (by omega)), g80, bsome, ix10, rS (by omega), bsome, mB.2.2.2.2 j (by omega), g8r, show encN (some q) = nI q from rfl, stoodBy_ok mR wR.1 hq s1, bsome]
          dsimp only
          rw [ite_b, h185, h181]
          by_cases e : tog R.1 R.2.2.1 q (B.2.1 j) = true
          · simp [e]
          · simp [e]
theorem win67_loop (mR : Mr S R) (mB : Mb S R.1 B) (wR : Wr R) (wB : Wb R.1 B) {c n : Nat} {x3 : Int32} {Bw : Nat} (hn : n ≤ 6) (hc : c ≤ 10) : ∀ (t m f w : Nat), m + t = 2 ^ B.2.2.1 → t < f → m_X8_winter_67 f 0 (nI n) (nI c) x3 (nI w) (nI Bw) (nI m) (mh S Le As Oo M) = m_X8_winter_236 1000 x3 (nI (wgS (tog R.1 R.2.2.1) B.2.1 B.2.2.1 n c m t w)) (nI Bw) (nI (wgS (tog R.1 R.2.2.1) B.2.1 B.2.2.1 n c m t w)) (nI Bw) (mh S Le As Oo M) := by
  have k6 := wB.1.1
  have h64 : (2 : Nat) ^ B.2.2.1 ≤ 64 := Nat.pow_le_pow_right (n := 2) (by decide) k6
  intro t
  induction t with
  | zero =>
    intro m f w hm hf
    obtain ⟨g, rfl⟩ := fuel_s hf
    unfold m_X8_winter_67
    rw [g80, bsome, rS1, bsome, mB.1, one_shl (by omega), if_pos (nI_le (by omega) (by omega))]
    rfl
  | succ t ih =>
    intro m f w hm hf
    obtain ⟨g, rfl⟩ := fuel_s hf
    have hpk := pc6_k (m := m) k6 (by omega)
    have hpl := cnS_le (m := m) B.2.2.1 0
    have h101 : ∀ z : Bool, m_X8_winter_101 (m_X8_winter_67 g) 0 (nI n) (nI c) x3 (nI w) (nI Bw) (nI m) 1 (-4) (bI z) (mh S Le As Oo M) = m_X8_winter_67 g 0 (nI n) (nI c) x3 (nI (w + if z && alB (tog R.1 R.2.2.1) B.2.1 m 0 B.2.2.1 none then prd (10 - c) c m 0 B.2.2.1 1 else 0)) (nI Bw) (nI (m + 1)) (mh S Le As Oo M) := fun z =>
      win106_loop (k67 := m_X8_winter_67 g) mR mB wR wB hc (by omega) B.2.2.1 0 1000 1 none z (by omega) (by omega) (fun q e => by cases e)
    unfold m_X8_winter_67
    rw [g80, bsome, rS1, bsome, mB.1, one_shl (by omega), if_neg (nI_ge (by omega) (by omega)), ones_ok (by omega), bsome]
    dsimp only
    rw [ite_lt (by omega) (by omega), show m_X8_winter_101 (m_X8_winter_67 g) 0 (nI n) (nI c) x3 (nI w) (nI Bw) (nI m) 1 (-4) 0 (mh S Le As Oo M) = _ from h101 false, show m_X8_winter_101 (m_X8_winter_67 g) 0 (nI n) (nI c) x3 (nI w) (nI Bw) (nI m) 1 (-4) 1 (mh S Le As Oo M) = _ from h101 true, ih (m + 1) g _ (by omega) (by omega), ih (m + 1) g _ (by omega) (by omega)]
    have e : wgS (tog R.1 R.2.2.1) B.2.1 B.2.2.1 n c m (t + 1) w = wgS (tog R.1 R.2.2.1) B.2.1 B.2.2.1 n c (m + 1) t (w + wgt (tog R.1 R.2.2.1) B.2.1 B.2.2.1 n c m) := rfl
    rw [e, prd_eq, Nat.one_mul, ← hpk]
    unfold wgt
    by_cases z : pc6 m < n
    · rw [if_pos z, decide_eq_false (by omega)]
    · rw [if_neg z, decide_eq_true (by omega)]
theorem win40_loop (mB : Mb S R.1 B) (k6 : B.2.2.1 ≤ 6) {n c : Nat} {x3 : Int32} : ∀ (t j f w : Nat), j + t = B.2.2.1 → t < f → m_X8_winter_40 f 0 (nI n) (nI c) x3 0 (nI w) (nI j) (mh S Le As Oo M) = m_X8_winter_67 1000 0 (nI n) (nI c) x3 0 (nI (w * 10 ^ t)) 0 (mh S Le As Oo M) := by
  intro t
  induction t with
  | zero =>
    intro j f w hj hf
    obtain ⟨g, rfl⟩ := fuel_s hf
    unfold m_X8_winter_40
    rw [g80, bsome, rS1, bsome, mB.1, if_pos (nI_le (by omega) (by omega)), Nat.pow_zero, Nat.mul_one]
  | succ t ih =>
    intro j f w hj hf
    obtain ⟨g, rfl⟩ := fuel_s hf
    unfold m_X8_winter_40
    rw [g80, bsome, rS1, bsome, mB.1, if_neg (nI_ge (by omega) (by omega)), show nI w * 10 = nI (w * 10) from pk_mul w 10, nI_1, ih (j + 1) g _ (by omega) (by omega), Nat.pow_succ, Nat.mul_assoc, Nat.mul_comm 10]
end WM
theorem wgt_le {P : Nat → Nat → Bool} {sv : Nat → Nat} {k0 n c m : Nat} (hk : k0 ≤ 6) (hc : c ≤ 10) (hm : m < 2 ^ k0) : wgt P sv k0 n c m ≤ 1000000 := by
  unfold wgt
  split
  · have hp : pc6 m ≤ k0 := by
      rw [pc6_k hk hm]
      exact cnS_le _ _
    have a1 : (10 - c) ^ pc6 m ≤ 10 ^ pc6 m := Nat.pow_le_pow_left (by omega) _
    have a2 : c ^ (k0 - pc6 m) ≤ 10 ^ (k0 - pc6 m) := Nat.pow_le_pow_left hc _
    have a3 : 10 ^ pc6 m * 10 ^ (k0 - pc6 m) = 10 ^ k0 := by
      rw [← Nat.pow_add, show pc6 m + (k0 - pc6 m) = k0 by omega]
    have a4 : (10 : Nat) ^ k0 ≤ 10 ^ 6 := Nat.pow_le_pow_right (by decide) hk
    have a5 := Nat.mul_le_mul a1 a2
    rw [a3] at a5
    exact Nat.le_trans a5 a4
  · exact Nat.zero_le _
theorem wgS_le {P : Nat → Nat → Bool} {sv : Nat → Nat} {k0 n c : Nat} (hk : k0 ≤ 6) (hc : c ≤ 10) : ∀ (t m w : Nat), m + t ≤ 2 ^ k0 → wgS P sv k0 n c m t w ≤ w + 1000000 * t := by
  intro t
  induction t with
  | zero => intro m w _; exact Nat.le_refl _
  | succ t ih =>
    intro m w hm
    have a := wgt_le (P := P) (sv := sv) (n := n) hk hc (show m < 2 ^ k0 by omega)
    have b := ih (m + 1) (w + wgt P sv k0 n c m) (by omega)
    show wgS P sv k0 n c (m + 1) t (w + wgt P sv k0 n c m) ≤ _
    omega
theorem sim_winter_ok : sim_winter RR := by
  intro hX hM x1 x2 x3 h0
  have h1 := h0
  obtain ⟨s, k, kf, T, X, tr, gu, O, ch, S, Le, As, Oo, M, rfl, rfl, hS, hD⟩ := h1
  rcases inB_or x1 (lo := 0) (hi := 6) 0 6 rfl rfl (by decide) (by decide) with e1 | ⟨n, -, hn, rfl, e1⟩
  · refine ⟨-1, _, _, ?_, ?_, h0⟩
    · unfold m_X7_winter
      rw [within_ok, bsome, e1]
      rfl
    · unfold m_X8_winter
      rw [in_ok, bsome, e1]
      rfl
  · rcases inB_or x2 (lo := 0) (hi := 10) 0 10 rfl rfl (by decide) (by decide) with e2 | ⟨c, -, hc, rfl, e2⟩
    · refine ⟨-1, _, _, ?_, ?_, h0⟩
      · unfold m_X7_winter
        rw [within_ok, bsome, e1, if_neg one_ne, within_ok, bsome, e2]
        rfl
      · unfold m_X8_winter
        rw [in_ok, bsome, e1, if_neg one_ne, in_ok, bsome, e2]
        rfl
    · rcases inB_or x3 (lo := 0) (hi := 1) 0 1 rfl rfl (by decide) (by decide) with e3 | ⟨q, -, hq, rfl, e3⟩
      · refine ⟨-1, _, _, ?_, ?_, h0⟩
        · unfold m_X7_winter
          rw [within_ok, bsome, e1, if_neg one_ne, within_ok, bsome, e2, if_neg one_ne, within_ok, bsome, e3]
          rfl
        · unfold m_X8_winter
          rw [in_ok, bsome, e1, if_neg one_ne, in_ok, bsome, e2, if_neg one_ne, in_ok, bsome, e3]
          rfl
      · have wB := hS.2.2.2.1
        have wR := hS.2.2.1
        have k6 : s.2.1.2.2.1 ≤ 6 := wB.1.1
        have h64 : (2 : Nat) ^ s.2.1.2.2.1 ≤ 64 := Nat.pow_le_pow_right (n := 2) (by decide) k6
        have h10 : (10 : Nat) ^ s.2.1.2.2.1 ≤ 10 ^ 6 := Nat.pow_le_pow_right (by decide) k6
        have h10p : 0 < (10 : Nat) ^ s.2.1.2.2.1 := Nat.pow_pos (by decide)
        have hA := wgS_le (P := tog s.1.1 s.1.2.2.1) (sv := s.2.1.2.1) (n := n) k6 hc (2 ^ s.2.1.2.2.1) 0 0 (by omega)
        have eX := weight_loop (k := k) (kf := kf) (T := T) (X := X) (tr := tr) (gu := gu) (O := O) (ch := ch) wR wB hn hc (2 ^ s.2.1.2.2.1) 0 1000 0 (by omega) (by omega)
        have eM1 := win40_loop (Le := Le) (As := As) (Oo := Oo) (M := M) hS.2.1 k6 (n := n) (c := c) (x3 := nI q) s.2.1.2.2.1 0 1000 1 (by omega) (by omega)
        have eM2 := win67_loop (Le := Le) (As := As) (Oo := Oo) (M := M) (x3 := nI q) (Bw := 10 ^ s.2.1.2.2.1) hS.1 hS.2.1 wR wB hn hc (2 ^ s.2.1.2.2.1) 0 1000 0 (by omega) (by omega)
        rw [Nat.one_mul] at eM1
        obtain ⟨A, hAe⟩ : ∃ A, wgS (tog s.1.1 s.1.2.2.1) s.2.1.2.1 s.2.1.2.2.1 n c 0 (2 ^ s.2.1.2.2.1) 0 = A := ⟨_, rfl⟩
        obtain ⟨Bw, hBe⟩ : ∃ Bw, (10 : Nat) ^ s.2.1.2.2.1 = Bw := ⟨_, rfl⟩
        rw [hAe] at hA eX eM2
        rw [hBe] at eM1 eM2 h10 h10p
        have hB31 : Bw < 2 ^ 21 := Nat.lt_of_le_of_lt h10 (by decide)
        have hA31 : A < 2 ^ 31 := by omega
        have g0 : 0 < Nat.gcd A Bw := Nat.gcd_pos_of_pos_right _ h10p
        have gl : Nat.gcd A Bw ≤ Bw := Nat.gcd_le_right _ h10p
        have cX := comm_loop (h := chp s k kf T X tr gu O ch) 21 A Bw 0 1000 hB31 hA31 (by decide) (by decide) (by decide)
        have cM := eu_loop (h := mh S Le As Oo M) (x3 := nI q) (A := A) (Bw := Bw) 21 A Bw 1000 hB31 hA31 (by decide) (by decide) g0 (by omega)
        have zg : ¬ nI (Nat.gcd A Bw) = (0 : Int32) := fun w => by
          have := (nI_eq (b := 0) (by omega) (by decide)).mp w
          omega
        refine ⟨if nI q = 0 then nI A / nI (Nat.gcd A Bw) else nI Bw / nI (Nat.gcd A Bw), _, _, ?_, ?_, h0⟩
        · unfold m_X7_winter m_X7_weightOfWinters m_X7_winter_83 m_X7_commonDivisor
          rw [within_ok, bsome, e1, if_neg one_ne, within_ok, bsome, e2, if_neg one_ne, within_ok, bsome, e3, if_neg one_ne, c7r, c70, bsome, c11, bsome, (cB9).G2, bsome]
          rw [show m_X7_weightOfWinters_17 1000 0 (nI n) (nI c) (nI s.2.1.2.2.1) 0 0 (chp s k kf T X tr gu O ch) = _ from eX, bsome]
          dsimp only
          rw [c70, bsome, c11, bsome, (cB9).G2, bsome, show m_X7_power 10 (nI s.2.1.2.2.1) (chp s k kf T X tr gu O ch) = some (nI (10 ^ s.2.1.2.2.1), _) from power_ok (a := 10) (by omega), bsome, hBe]
          dsimp only
          rw [show m_X7_commonDivisor_7 1000 (nI A) (nI Bw) 0 (chp s k kf T X tr gu O ch) = _ from cX, bsome]
          dsimp only
          rw [if_pos (show (0 : Int32) < nI (Nat.gcd A Bw) from nI_lt (a := 0) g0 (by omega)), if_neg zg, if_neg zg]
          split <;> rfl
        · unfold m_X8_winter
          rw [in_ok, bsome, e1, if_neg one_ne, in_ok, bsome, e2, if_neg one_ne, in_ok, bsome, e3, if_neg one_ne]
          refine Eq.trans (show m_X8_winter_40 1000 0 (nI n) (nI c) (nI q) 0 1 0 (mh S Le As Oo M) = _ from eM1) ?_
          exact Eq.trans eM2 cM
