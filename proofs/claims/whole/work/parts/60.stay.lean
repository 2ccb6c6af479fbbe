/-! who could stay: the class's chains, the model's masks -/
section CHN
variable {s k : St} {kf : Int32} {T : Tp} {X : Nat → Sh} {tr : Bn} {gu : Rl} {O : Od}
theorem rch {ch : Nat → Nat} {i : Nat} (hi : i < 6) : bb_aI (chp s k kf T X tr gu O ch) 99 .int (nI i) = some (nI (ch i)) := aI_of (h := chp s k kf T X tr gu O ch) (f := nF ch) rfl hi (by decide)
theorem wch {ch : Nat → Nat} {i : Nat} (hi : i < 6) (x : Nat) : bb_sV (chp s k kf T X tr gu O ch) 99 .int (nI i) (.int (nI x)) = some (chp s k kf T X tr gu O (updN ch i x)) := by
  rw [sI_of (h := chp s k kf T X tr gu O ch) (f := nF ch) (n := 6) rfl hi (by decide), updN_nF]
  rfl
/-- the chain from a seat on -/
def chN (p : Nat → Nat) (k0 i : Nat) : Nat := 1 + mxN p (i + 1) (k0 - (i + 1)) (p i + 1)
theorem mxN_le {p : Nat → Nat} : ∀ (t j u : Nat), mxN p j t u ≤ t := by
  intro t
  induction t with
  | zero => intro j u; exact Nat.le_refl _
  | succ t ih =>
    intro j u
    have a := ih (j + 1) u
    have b := ih (j + 1) (p j + 1)
    unfold mxN
    split <;> omega
theorem meas_in (hR : okR s.1) (hB : okB s.2.1) {t : Nat} (ht : t < 3) {i : Nat} (hi : i < s.2.1.2.2.1) {L : Nat} (hL : L ≤ 6) {k18 : Nat → Nat → Nat → Int32 → Int32 → bb_H → Option (Int32 × bb_H)} {ch : Nat → Nat} (hch : ∀ j, i < j → j < s.2.1.2.2.1 → ch j = chN (pS s.1 s.2.1 t) s.2.1.2.2.1 j) : ∀ (u j f w : Nat), j + u = s.2.1.2.2.1 → i < j → u < f → w ≤ 6 → m_X7_measureChains_32 k18 f 0 (2 + 3 + t) 9 (nI L) (nI i) (nI w) (nI j) (chp s k kf T X tr gu O ch) = k18 0 (2 + 3 + t) 9 (nI (max L (max w (mxN (pS s.1 s.2.1 t) j u (pS s.1 s.2.1 t i + 1)) + 1))) (nI i + (-1)) (chp s k kf T X tr gu O (updN ch i (max w (mxN (pS s.1 s.2.1 t) j u (pS s.1 s.2.1 t i + 1)) + 1))) := by
  have k6 := hB.1
  have A := cB9 (s := s) (k := k) (kf := kf) (T := T) (X := X) (tr := tr) (gu := gu) (O := O) (ch := ch)
  have AR := cR2 (s := s) (k := k) (kf := kf) (T := T) (X := X) (tr := tr) (gu := gu) (O := O) (ch := ch)
  intro u
  induction u with
  | zero =>
    intro j f w hj hij hf hw
    obtain ⟨g, rfl⟩ := fuel_s hf
    unfold m_X7_measureChains_32
    rw [A.G2, bsome, if_pos (nI_le (by omega) (by omega)), c78, bsome, nI_1, wch (by omega), bsome, c78, bsome, rch (by omega), bsome, updN_s, max_nI (by omega) (by omega)]
    show _ = k18 0 (2 + 3 + t) 9 (nI (max L (max w 0 + 1))) _ (chp s k kf T X tr gu O (updN ch i (max w 0 + 1)))
    rw [Nat.max_zero]
  | succ u ih =>
    intro j f w hj hij hf hw
    obtain ⟨g, rfl⟩ := fuel_s hf
    have s1 := hB.2.2.1 i hi
    have s2 := hB.2.2.1 j (by omega)
    have p1 := hR.2.2.1 t ht _ s1
    have p2 := hR.2.2.1 t ht _ s2
    have hc := hch j hij (by omega)
    have hcl : chN (pS s.1 s.2.1 t) s.2.1.2.2.1 j ≤ 6 := by
      unfold chN
      have := mxN_le (p := pS s.1 s.2.1 t) (s.2.1.2.2.1 - (j + 1)) (j + 1) (pS s.1 s.2.1 t j + 1)
      omega
    have hml := mxN_le (p := pS s.1 s.2.1 t) u (j + 1) (pS s.1 s.2.1 t i + 1)
    unfold m_X7_measureChains_32 m_X7_measureChains_76
    rw [A.G2, bsome, if_neg (nI_ge (by omega) (by omega)), A.G1, bsome, A.AS (by omega), bsome, AR.AP ht s2, bsome, bsome, A.AS (by omega), bsome, AR.AP ht s1, bsome, ite_le (by omega) (by omega), c78, bsome, rch (by omega), bsome, hc, max_nI (by omega) (by omega), nI_1, ih (j + 1) g _ (by omega) (by omega) (by omega) hw, ih (j + 1) g _ (by omega) (by omega) (by omega) (by omega)]
    have e : mxN (pS s.1 s.2.1 t) j (u + 1) (pS s.1 s.2.1 t i + 1) = max (mxN (pS s.1 s.2.1 t) (j + 1) u (pS s.1 s.2.1 t i + 1)) (if pS s.1 s.2.1 t i + 1 ≤ pS s.1 s.2.1 t j then chN (pS s.1 s.2.1 t) s.2.1.2.2.1 j else 0) := by
      unfold chN
      rw [show s.2.1.2.2.1 - (j + 1) = u by omega]
      rfl
    rw [e]
    by_cases q : s.1.2.2.1 t (s.2.1.2.1 j) ≤ s.1.2.2.1 t (s.2.1.2.1 i)
    · rw [if_pos q, if_neg (show ¬ pS s.1 s.2.1 t i + 1 ≤ pS s.1 s.2.1 t j from fun z => by unfold pS at z; omega), Nat.max_zero]
    · rw [if_neg q, if_pos (show pS s.1 s.2.1 t i + 1 ≤ pS s.1 s.2.1 t j from by unfold pS; omega), Nat.max_assoc, Nat.max_comm (chN _ _ _)]
theorem meas_out (hR : okR s.1) (hB : okB s.2.1) {t : Nat} (ht : t < 3) : ∀ (i f : Nat) (ch : Nat → Nat), i ≤ s.2.1.2.2.1 → i < f → (∀ j, i ≤ j → j < s.2.1.2.2.1 → ch j = chN (pS s.1 s.2.1 t) s.2.1.2.2.1 j) → ∃ ch2, m_X7_measureChains_18 f 0 (2 + 3 + t) 9 (nI (mxN (pS s.1 s.2.1 t) i (s.2.1.2.2.1 - i) 0)) (nI i - 1) (chp s k kf T X tr gu O ch) = some (nI (mxN (pS s.1 s.2.1 t) 0 s.2.1.2.2.1 0), chp s k kf T X tr gu O ch2) ∧ ∀ j, j < s.2.1.2.2.1 → ch2 j = chN (pS s.1 s.2.1 t) s.2.1.2.2.1 j := by
  have k6 := hB.1
  intro i
  induction i with
  | zero =>
    intro f ch hi hf hch
    obtain ⟨g, rfl⟩ := fuel_s hf
    refine ⟨ch, ?_, fun j hj => hch j (Nat.zero_le _) hj⟩
    unfold m_X7_measureChains_18
    rw [if_pos (show nI 0 - 1 < (0 : Int32) by decide), Nat.sub_zero]
  | succ i ih =>
    intro f ch hi hf hch
    obtain ⟨g, rfl⟩ := fuel_s hf
    have hcv : chN (pS s.1 s.2.1 t) s.2.1.2.2.1 i = max 0 (mxN (pS s.1 s.2.1 t) (i + 1) (s.2.1.2.2.1 - (i + 1)) (pS s.1 s.2.1 t i + 1)) + 1 := by
      unfold chN
      omega
    obtain ⟨ch2, e, h2⟩ := ih g (updN ch i (chN (pS s.1 s.2.1 t) s.2.1.2.2.1 i)) (by omega) (by omega) (fun j h1 h2 => by
      by_cases z : j = i
      · rw [z, updN_s]
      · rw [updN_n z]
        exact hch j (by omega) h2)
    refine ⟨ch2, ?_, h2⟩
    rw [← e]
    have hL := mxN_le (p := pS s.1 s.2.1 t) (s.2.1.2.2.1 - (i + 1)) (i + 1) 0
    conv => lhs; unfold m_X7_measureChains_18
    rw [nI_pred, if_neg (nI_pos (by omega)), nI_1, show (0 : Int32) = nI 0 from rfl, meas_in hR hB ht (by omega) (by omega) (fun j h1 h2 => hch j (by omega) h2) (s.2.1.2.2.1 - (i + 1)) (i + 1) 1000 0 (by omega) (by omega) (by omega) (by decide), ← hcv]
    have e3 : mxN (pS s.1 s.2.1 t) i (s.2.1.2.2.1 - i) 0 = max (mxN (pS s.1 s.2.1 t) (i + 1) (s.2.1.2.2.1 - (i + 1)) 0) (chN (pS s.1 s.2.1 t) s.2.1.2.2.1 i) := by
      rw [show s.2.1.2.2.1 - i = (s.2.1.2.2.1 - (i + 1)) + 1 by omega]
      show max _ (if 0 ≤ pS s.1 s.2.1 t i then _ else 0) = _
      rw [if_pos (Nat.zero_le _)]
      rfl
    rw [e3, show nI i + (-1) = nI i - 1 from by
      rw [Int32.sub_eq_add_neg]]
/-- those whom a mask of seats names -/
def orS (sv : Nat → Nat) (m : Nat) : Nat → Nat → Nat → Nat
  | _, 0, w => w
  | j, t + 1, w => orS sv m (j + 1) t (if m.testBit j then w ||| 2 ^ sv j else w)
theorem orS_cong {sv : Nat → Nat} {m m2 : Nat} : ∀ (t j w : Nat), (∀ i, j ≤ i → i < j + t → m.testBit i = m2.testBit i) → orS sv m j t w = orS sv m2 j t w := by
  intro t
  induction t with
  | zero => intro j w _; rfl
  | succ t ih =>
    intro j w h
    unfold orS
    rw [h j (Nat.le_refl _) (by omega)]
    exact ih _ _ (fun i a b => h i (by omega) (by omega))
theorem who_loop (hR : okR s.1) (hB : okB s.2.1) {t : Nat} (ht : t < 3) {ch : Nat → Nat} (hch : ∀ j, j < s.2.1.2.2.1 → ch j = chN (pS s.1 s.2.1 t) s.2.1.2.2.1 j) : ∀ (v j f L w u : Nat), j + v = s.2.1.2.2.1 → v < f → L ≤ 6 → u ≤ 100 → m_X7_whoCouldStay_23 f 0 (2 + 3 + t) 9 (nI L) (nI w) (nI u - 1) (nI j) (chp s k kf T X tr gu O ch) = some (nI (orS s.2.1.2.1 (grM (pS s.1 s.2.1 t) j v L u) j v w), chp s k kf T X tr gu O ch) := by
  have k6 := hB.1
  have A := cB9 (s := s) (k := k) (kf := kf) (T := T) (X := X) (tr := tr) (gu := gu) (O := O) (ch := ch)
  have AR := cR2 (s := s) (k := k) (kf := kf) (T := T) (X := X) (tr := tr) (gu := gu) (O := O) (ch := ch)
  intro v
  induction v with
  | zero =>
    intro j f L w u hj hf hL hu
    obtain ⟨g, rfl⟩ := fuel_s hf
    unfold m_X7_whoCouldStay_23
    rw [A.G2, bsome, if_pos (nI_le (by omega) (by omega))]
    rfl
  | succ v ih =>
    intro j f L w u hj hf hL hu
    obtain ⟨g, rfl⟩ := fuel_s hf
    have s1 := hB.2.2.1 j (by omega)
    have p1 := hR.2.2.1 t ht _ s1
    have hc := hch j (by omega)
    have hcn : chN (pS s.1 s.2.1 t) s.2.1.2.2.1 j = 1 + mxN (pS s.1 s.2.1 t) (j + 1) v (pS s.1 s.2.1 t j + 1) := by
      unfold chN
      rw [show s.2.1.2.2.1 - (j + 1) = v by omega]
    have hcl := mxN_le (p := pS s.1 s.2.1 t) v (j + 1) (pS s.1 s.2.1 t j + 1)
    have skip : ∀ z : Unit, ¬ (u ≤ pS s.1 s.2.1 t j ∧ 1 + mxN (pS s.1 s.2.1 t) (j + 1) v (pS s.1 s.2.1 t j + 1) = L) → m_X7_whoCouldStay_23 g 0 (2 + 3 + t) 9 (nI L) (nI w) (nI u - 1) (nI (j + 1)) (chp s k kf T X tr gu O ch) = some (nI (orS s.2.1.2.1 (grM (pS s.1 s.2.1 t) j (v + 1) L u) j (v + 1) w), chp s k kf T X tr gu O ch) := fun _ hn => by
      rw [ih (j + 1) g L w u (by omega) (by omega) hL hu, show grM (pS s.1 s.2.1 t) j (v + 1) L u = grM (pS s.1 s.2.1 t) (j + 1) v L u from by
        conv => lhs; unfold grM
        exact if_neg hn]
      conv => rhs; unfold orS
      rw [if_neg (by rw [grM_low _ _ _ _ _ (by omega)]; decide)]
    unfold m_X7_whoCouldStay_23 m_X7_whoCouldStay_83
    rw [A.G2, bsome, if_neg (nI_ge (by omega) (by omega)), A.G1, bsome, A.AS (by omega), bsome, nI_1, le0 (by omega)]
    by_cases c1 : L = 0
    · rw [if_pos c1]
      exact skip () (fun z => by omega)
    · rw [if_neg c1, AR.AP ht s1, bsome]
      by_cases c2 : s.1.2.2.1 t (s.2.1.2.1 j) + 1 ≤ u
      · rw [if_pos (Int32.le_iff_toInt_le.mpr (by rw [sub1I (by omega), nI_toInt (by omega)]; omega))]
        exact skip () (fun z => by unfold pS at z; omega)
      · rw [if_neg (fun z => by
          have z1 := Int32.le_iff_toInt_le.mp z
          rw [sub1I (by omega), nI_toInt (by omega)] at z1
          omega), c78, bsome, rch (by omega), bsome, hc, hcn, ite_e (by omega) (by omega)]
        by_cases c3 : 1 + mxN (pS s.1 s.2.1 t) (j + 1) v (pS s.1 s.2.1 t j + 1) = L
        · rw [if_pos c3, bsome, one_shl (by omega), or_nI, show nI L + (-1) = nI (L - 1) from by
            rw [← Int32.sub_eq_add_neg]
            exact pk_sub (b := 1) (by omega), show nI (s.1.2.2.1 t (s.2.1.2.1 j)) = nI (pS s.1 s.2.1 t j + 1) - 1 from (nI_pred _).symm, ih (j + 1) g _ _ _ (by omega) (by omega) (by omega) (by show s.1.2.2.1 t (s.2.1.2.1 j) + 1 ≤ 100; omega)]
          rw [show grM (pS s.1 s.2.1 t) j (v + 1) L u = 2 ^ j ||| grM (pS s.1 s.2.1 t) (j + 1) v (L - 1) (pS s.1 s.2.1 t j + 1) from by
            conv => lhs; unfold grM
            exact if_pos ⟨by unfold pS; omega, c3⟩]
          conv => rhs; unfold orS
          rw [if_pos (by rw [Nat.testBit_or, Nat.testBit_two_pow_self, Bool.true_or]), orS_cong v (j + 1) _ (m2 := grM (pS s.1 s.2.1 t) (j + 1) v (L - 1) (pS s.1 s.2.1 t j + 1)) (fun i h1 _ => or_bit_hi (by omega))]
        · rw [if_neg c3]
          exact skip () (fun z => c3 z.2)
theorem whoStay_ok (hR : okR s.1) (hB : okB s.2.1) {t : Nat} (ht : t < 3) {ch : Nat → Nat} : ∃ ch2, m_X7_whoCouldStay 0 (2 + 3 + t) (chp s k kf T X tr gu O ch) = some (nI (orS s.2.1.2.1 (grM (pS s.1 s.2.1 t) 0 s.2.1.2.2.1 (mxN (pS s.1 s.2.1 t) 0 s.2.1.2.2.1 0) 0) 0 s.2.1.2.2.1 0), chp s k kf T X tr gu O ch2) := by
  have k6 := hB.1
  obtain ⟨ch2, e, h2⟩ := meas_out (k := k) (kf := kf) (T := T) (X := X) (tr := tr) (gu := gu) (O := O) hR hB ht s.2.1.2.2.1 1000 ch (Nat.le_refl _) (by omega) (fun j h1 h2 => by omega)
  rw [Nat.sub_self] at e
  refine ⟨ch2, ?_⟩
  have hml := mxN_le (p := pS s.1 s.2.1 t) s.2.1.2.2.1 0 0
  unfold m_X7_whoCouldStay m_X7_measureChains
  rw [c70, bsome, c11, bsome, c7r, bsome, c11, bsome, (cB9).G2, bsome]
  rw [show m_X7_measureChains_18 1000 0 (2 + 3 + t) 9 0 (nI s.2.1.2.2.1 - 1) (chp s k kf T X tr gu O ch) = _ from e, bsome]
  dsimp only
  exact who_loop hR hB ht h2 s.2.1.2.2.1 0 1000 _ 0 0 (by omega) (by omega) (by omega) (by decide)
end CHN
/-! the model's -/
section MST
variable {S Le As Oo : Nat → Int32} {M : Mx} {R : Rl} {B : Bn}
theorem bitI_ite {α : Type} {s q : Nat} (hs : s < 2 ^ 31) (hq : q < 31) (x y : α) : (if hasB (nI s) (nI q) = 0 then x else y) = if s.testBit q then y else x := by
  rw [hasB_nI hs hq]
  cases s.testBit q <;> rfl
theorem isOrder_loop (mR : Mr S R) (mB : Mb S R.1 B) (wR : Wr R) (wB : Wb R.1 B) {t m : Nat} (ht : t < 3) (hm : m < 2 ^ 31) : ∀ (v j f u : Nat) (c : Bool), j + v = B.2.2.1 → v < f → u ≤ 100 → m_X8_isOrder_8 f 0 (nI m) (nI t) (bI c) (nI u - 1) (nI j) (mh S Le As Oo M) = some (bI (c && incB (fun i => m.testBit i) (pS R B t) j v u), mh S Le As Oo M) := by
  have k6 := wB.1.1
  have o1 := wR.1.1
  intro v
  induction v with
  | zero =>
    intro j f u c hj hf hu
    obtain ⟨g, rfl⟩ := fuel_s hf
    unfold m_X8_isOrder_8
    rw [g80, bsome, rS1, bsome, mB.1, if_pos (nI_le (by omega) (by omega)), rz_b]
    show _ = some (bI (c && true), _)
    rw [Bool.and_true]
  | succ v ih =>
    intro j f u c hj hf hu
    obtain ⟨g, rfl⟩ := fuel_s hf
    have p1 := wR.1.2.2.1 t ht _ (wB.1.2.2.1 j (by omega))
    have hpl := placeOn_ok (Le := Le) (As := As) (Oo := Oo) (M := M) mR mB o1 wB (show j < B.2.2.1 by omega) ht
    have p2 : pS R B t j < 10 := p1
    have f49 : ∀ z : Bool, m_X8_isOrder_49 (m_X8_isOrder_8 g) 0 (nI m) (nI t) (nI j) (bI z) (mh S Le As Oo M) = some (bI (z && incB (fun i => m.testBit i) (pS R B t) (j + 1) v (pS R B t j + 1)), mh S Le As Oo M) := fun z => by
      unfold m_X8_isOrder_49 m_X8_isOrder_59
      rw [g8r, hpl, bsome]
      dsimp only
      rw [nI_1, ← nI_pred (pS R B t j), ih (j + 1) g (pS R B t j + 1) z (by omega) (by omega) (by omega)]
    have f48 : m_X8_isOrder_48 (m_X8_isOrder_8 g) 0 (nI m) (nI t) (nI j) (mh S Le As Oo M) = some (bI false, mh S Le As Oo M) := by
      unfold m_X8_isOrder_48
      exact f49 false
    unfold m_X8_isOrder_8
    rw [g80, bsome, rS1, bsome, mB.1, if_neg (nI_ge (by omega) (by omega)), has_ok, bsome]
    dsimp only
    rw [bitI_ite hm (by omega)]
    conv => rhs; unfold incB
    cases hb : m.testBit j with
    | false =>
      rw [if_neg (by decide), if_neg (by decide)]
      unfold m_X8_isOrder_59
      rw [nI_1, ih (j + 1) g u c (by omega) (by omega) hu]
    | true =>
      rw [if_pos rfl, if_pos rfl, ite_b]
      cases c with
      | false =>
        rw [if_neg (by decide), f48]
        rfl
      | true =>
        rw [if_pos rfl, g8r, hpl, bsome]
        dsimp only
        by_cases q : u ≤ pS R B t j
        · rw [if_neg (fun z => by
            have z1 := Int32.le_iff_toInt_le.mp z
            rw [sub1I (by omega), nI_toInt (by omega)] at z1
            omega), decide_eq_true q]
          exact f49 true
        · rw [if_pos (Int32.le_iff_toInt_le.mpr (by rw [sub1I (by omega), nI_toInt (by omega)]; omega)), decide_eq_false q, f48]
          rfl
theorem isOrder_ok (mR : Mr S R) (mB : Mb S R.1 B) (wR : Wr R) (wB : Wb R.1 B) {t m : Nat} (ht : t < 3) (hm : m < 2 ^ 31) : m_X8_isOrder 0 (nI m) (nI t) (mh S Le As Oo M) = some (bI (incB (fun i => m.testBit i) (pS R B t) 0 B.2.2.1 0), mh S Le As Oo M) := by
  have k6 := wB.1.1
  exact isOrder_loop mR mB wR wB ht hm B.2.2.1 0 1000 0 true (by omega) (by omega) (by decide)
theorem isAhead_ok (s b : Nat) (h : bb_H) : m_X8_isAhead (nI s) (nI b) h = some (bI (ahd s b), h) := by
  unfold m_X8_isAhead m_X8_isAhead_18 ahd
  by_cases q : (((nI s ^^^ nI b) &&& (-(nI s ^^^ nI b))) &&& nI s) = 0
  · rw [if_pos q, decide_eq_true q]
    rfl
  · rw [if_neg q, decide_eq_false q]
    rfl
theorem stay112_loop (mB : Mb S R.1 B) (wB : Wb R.1 B) {b : Nat} (hb : b < 64) {x2 : Int32} : ∀ (v j f w : Nat), j + v = B.2.2.1 → v < f → m_X8_stay_112 f 0 x2 (nI b) (nI w) (nI j) (mh S Le As Oo M) = some (if x2 = 0 then nI (pc6 b) else nI (orS B.2.1 b j v w), mh S Le As Oo M) := by
  have k6 := wB.1.1
  intro v
  induction v with
  | zero =>
    intro j f w hj hf
    obtain ⟨g, rfl⟩ := fuel_s hf
    unfold m_X8_stay_112 m_X8_stay_172
    rw [g80, bsome, rS1, bsome, mB.1, if_pos (nI_le (by omega) (by omega)), ones_ok (by omega), bsome]
    split <;> rfl
  | succ v ih =>
    intro j f w hj hf
    obtain ⟨g, rfl⟩ := fuel_s hf
    have s1 := wB.1.2.2.1 j (by omega)
    unfold m_X8_stay_112 m_X8_stay_150
    rw [g80, bsome, rS1, bsome, mB.1, if_neg (nI_ge (by omega) (by omega)), has_ok, bsome]
    dsimp only
    rw [bitI_ite (by omega) (by omega), g80, bsome, ix10, rS (by omega), bsome, mB.2.2.2.2 j (by omega), one_shl (by omega), or_nI, show nI w ||| 0 = nI (w ||| 0) from or_nI w 0, Nat.or_zero, nI_1, ih (j + 1) g _ (by omega) (by omega), ih (j + 1) g _ (by omega) (by omega)]
    show _ = some (if x2 = 0 then nI (pc6 b) else nI (orS B.2.1 b (j + 1) v (if b.testBit j then w ||| 2 ^ B.2.1 j else w)), mh S Le As Oo M)
    cases b.testBit j <;> rfl
theorem stay25_loop (mR : Mr S R) (mB : Mb S R.1 B) (wR : Wr R) (wB : Wb R.1 B) {t : Nat} (ht : t < 3) {x2 : Int32} : ∀ (v m f b : Nat), m + v = 2 ^ B.2.2.1 → v < f → b < 2 ^ B.2.2.1 → m_X8_stay_25 f 0 (nI t) x2 (nI b) (nI m) (mh S Le As Oo M) = some (if x2 = 0 then nI (pc6 (bsM (pS R B t) B.2.2.1 m v b)) else nI (orS B.2.1 (bsM (pS R B t) B.2.2.1 m v b) 0 B.2.2.1 0), mh S Le As Oo M) := by
  have k6 := wB.1.1
  have h64 : (2 : Nat) ^ B.2.2.1 ≤ 64 := Nat.pow_le_pow_right (n := 2) (by decide) k6
  intro v
  induction v with
  | zero =>
    intro m f b hm hf hb
    obtain ⟨g, rfl⟩ := fuel_s hf
    unfold m_X8_stay_25
    rw [g80, bsome, rS1, bsome, mB.1, one_shl (by omega), if_pos (nI_le (by omega) (by omega)), show (0 : Int32) = nI 0 from rfl, stay112_loop mB wB (by omega) B.2.2.1 0 1000 0 (by omega) (by omega)]
    rfl
  | succ v ih =>
    intro m f b hm hf hb
    obtain ⟨g, rfl⟩ := fuel_s hf
    have kb := key_better m (by omega) b (by omega)
    have pm : pc6 m < 2 ^ 31 := by
      have : ∀ s, s < 64 → pc6 s < 7 := by decide +kernel
      have := this m (by omega)
      omega
    have pb : pc6 b < 2 ^ 31 := by
      have : ∀ s, s < 64 → pc6 s < 7 := by decide +kernel
      have := this b (by omega)
      omega
    have f76 : ∀ z : Bool, m_X8_stay_76 (m_X8_stay_25 g) 0 (nI t) x2 (nI b) (nI m) (bI z) (mh S Le As Oo M) = m_X8_stay_25 g 0 (nI t) x2 (nI (if z && incB (fun i => m.testBit i) (pS R B t) 0 B.2.2.1 0 then m else b)) (nI (m + 1)) (mh S Le As Oo M) := fun z => by
      unfold m_X8_stay_76 m_X8_stay_98 m_X8_stay_99
      rw [ite_b, g8r, isOrder_ok mR mB wR wB ht (by omega), bsome]
      dsimp only
      rw [ite_b, nI_1]
      cases z with
      | false => rfl
      | true =>
        cases incB (fun i => m.testBit i) (pS R B t) 0 B.2.2.1 0 <;> rfl
    have f71 : m_X8_stay_71 (m_X8_stay_25 g) 0 (nI t) x2 (nI b) (nI m) (mh S Le As Oo M) = _ := f76 true
    have f75 : m_X8_stay_75 (m_X8_stay_25 g) 0 (nI t) x2 (nI b) (nI m) (mh S Le As Oo M) = _ := f76 false
    have key0 : m_X8_stay_25 (g + 1) 0 (nI t) x2 (nI b) (nI m) (mh S Le As Oo M) = m_X8_stay_25 g 0 (nI t) x2 (nI (if decide (key b < key m) && incB (fun i => m.testBit i) (pS R B t) 0 B.2.2.1 0 then m else b)) (nI (m + 1)) (mh S Le As Oo M) := by
      rw [← kb]
      conv => lhs; unfold m_X8_stay_25
      rw [g80, bsome, rS1, bsome, mB.1, one_shl (by omega), if_neg (nI_ge (by omega) (by omega)), ones_ok (by omega), bsome]
      dsimp only
      rw [ones_ok (by omega), bsome]
      dsimp only
      rw [ones_ok (by omega), bsome]
      dsimp only
      rw [ones_ok (by omega), bsome]
      dsimp only
      rw [isAhead_ok, bsome]
      dsimp only
      rw [ite_b, ite_lt pb pm, ite_e pm pb, f71, f75]
      by_cases q : pc6 b < pc6 m
      · rw [if_pos q, decide_eq_true q]
        rfl
      · rw [if_neg q, decide_eq_false q]
        by_cases w : pc6 m = pc6 b
        · rw [if_pos w, decide_eq_true w]
          cases ahd m b <;> rfl
        · rw [if_neg w, decide_eq_false w]
          rfl
    rw [key0, ih (m + 1) g _ (by omega) (by omega) (by split <;> omega)]
    rfl
end MST
set_option maxRecDepth 100000 in
theorem pc6_add : ∀ w, w < 64 → ∀ q, q < 6 → w.testBit q = false → pc6 (w ||| 2 ^ q) = pc6 w + 1 := by decide +kernel
/-- how many a mask of seats names -/
def cnS (m : Nat) : Nat → Nat → Nat
  | _, 0 => 0
  | j, t + 1 => (if m.testBit j then 1 else 0) + cnS m (j + 1) t
theorem orS_pc {sv : Nat → Nat} {m k0 : Nat} (hs : ∀ i, i < k0 → sv i < 6) (hi : ∀ a b, a < k0 → b < k0 → sv a = sv b → a = b) : ∀ (t j w : Nat), j + t = k0 → w < 64 → (∀ i, j ≤ i → i < k0 → w.testBit (sv i) = false) → orS sv m j t w < 64 ∧ pc6 (orS sv m j t w) = pc6 w + cnS m j t := by
  intro t
  induction t with
  | zero => intro j w _ hw _; exact ⟨hw, rfl⟩
  | succ t ih =>
    intro j w hj hw h
    unfold orS cnS
    by_cases c : m.testBit j = true
    · rw [if_pos c, if_pos c]
      obtain ⟨a, b⟩ := ih (j + 1) (w ||| 2 ^ sv j) (by omega) (or_lt64 hw (hs j (by omega))) (fun i h1 h2 => by
        rw [Nat.testBit_or, h i (by omega) h2, Nat.testBit_two_pow_of_ne (fun e => by
          have := hi j i (by omega) h2 e
          omega)]
        rfl)
      refine ⟨a, ?_⟩
      rw [b, pc6_add w hw _ (hs j (by omega)) (h j (Nat.le_refl _) (by omega))]
      omega
    · rw [if_neg c, if_neg c, Nat.zero_add]
      exact ih (j + 1) w (by omega) hw (fun i h1 h2 => h i (by omega) h2)
theorem pc6_cn : ∀ m, m < 64 → pc6 m = cnS m 0 6 := by decide +kernel
theorem cnS_split {m : Nat} : ∀ (t u j : Nat), cnS m j (t + u) = cnS m j t + cnS m (j + t) u := by
  intro t
  induction t with
  | zero => intro u j; rw [Nat.zero_add, Nat.add_zero]; show _ = 0 + _; rw [Nat.zero_add]
  | succ t ih =>
    intro u j
    rw [show t + 1 + u = (t + u) + 1 by omega]
    show (if m.testBit j then 1 else 0) + cnS m (j + 1) (t + u) = (if m.testBit j then 1 else 0) + cnS m (j + 1) t + cnS m (j + (t + 1)) u
    rw [ih u (j + 1), show j + 1 + t = j + (t + 1) by omega]
    omega
theorem cnS_z {m : Nat} : ∀ (t j : Nat), (∀ i, j ≤ i → m.testBit i = false) → cnS m j t = 0 := by
  intro t
  induction t with
  | zero => intro j _; rfl
  | succ t ih =>
    intro j h
    unfold cnS
    rw [h j (Nat.le_refl _), ih (j + 1) (fun i a => h i (by omega))]
    rfl
theorem sim_stay_ok : sim_stay RR := by
  intro hX hM x1 x2 h0
  have h1 := h0
  obtain ⟨s, k, kf, T, X, tr, gu, O, ch, S, Le, As, Oo, M, rfl, rfl, hS, hD⟩ := h1
  have AR := cR2 (s := s) (k := k) (kf := kf) (T := T) (X := X) (tr := tr) (gu := gu) (O := O) (ch := ch)
  rcases inB_or x1 (lo := 0) (hi := 2) 0 2 rfl rfl (by decide) (by decide) with e1 | ⟨t, -, ht, rfl, e1⟩
  · refine ⟨-1, _, _, ?_, ?_, h0⟩
    · unfold m_X7_stay m_X7_isHour
      rw [within_ok, bsome, rz_in, bsome, e1]
      rfl
    · unfold m_X8_stay
      rw [in_ok, bsome, e1]
      rfl
  · rcases inB_or x2 (lo := 0) (hi := 1) 0 1 rfl rfl (by decide) (by decide) with e2 | ⟨q, -, hq, rfl, e2⟩
    · refine ⟨-1, _, _, ?_, ?_, h0⟩
      · unfold m_X7_stay m_X7_isHour
        rw [within_ok, bsome, rz_in, bsome, e1, if_neg one_ne, within_ok, bsome, e2]
        rfl
      · unfold m_X8_stay
        rw [in_ok, bsome, e1, if_neg one_ne, in_ok, bsome, e2]
        rfl
    · have ht3 : t < 3 := by omega
      have wB := hS.2.2.2.1
      have k6 : s.2.1.2.2.1 ≤ 6 := wB.1.1
      have h64 : (2 : Nat) ^ s.2.1.2.2.1 ≤ 64 := Nat.pow_le_pow_right (n := 2) (by decide) k6
      have hp : 1 ≤ 2 ^ s.2.1.2.2.1 := Nat.one_le_two_pow
      obtain ⟨ch2, e⟩ := whoStay_ok (k := k) (kf := kf) (T := T) (X := X) (tr := tr) (gu := gu) (O := O) (ch := ch) hS.2.2.1.1 wB.1 ht3
      have eM := stay25_loop (Le := Le) (As := As) (Oo := Oo) (M := M) hS.1 hS.2.1 hS.2.2.1 wB ht3 (x2 := nI q) (2 ^ s.2.1.2.2.1 - 1) 1 1000 0 (by omega) (by omega) (by omega)
      rw [bs_gr k6] at eM
      have glt := grM_lt (p := pS s.1 s.2.1 t) s.2.1.2.2.1 0 (mxN (pS s.1 s.2.1 t) 0 s.2.1.2.2.1 0) 0
      rw [Nat.zero_add] at glt
      obtain ⟨w1, w2⟩ := orS_pc (m := grM (pS s.1 s.2.1 t) 0 s.2.1.2.2.1 (mxN (pS s.1 s.2.1 t) 0 s.2.1.2.2.1 0) 0) wB.1.2.2.1 wB.2.2.2.1 s.2.1.2.2.1 0 0 (by omega) (by decide) (fun i _ _ => Nat.zero_testBit _)
      refine ⟨if nI q = 0 then nI (pc6 (grM (pS s.1 s.2.1 t) 0 s.2.1.2.2.1 (mxN (pS s.1 s.2.1 t) 0 s.2.1.2.2.1 0) 0)) else nI (orS s.2.1.2.1 (grM (pS s.1 s.2.1 t) 0 s.2.1.2.2.1 (mxN (pS s.1 s.2.1 t) 0 s.2.1.2.2.1 0) 0) 0 s.2.1.2.2.1 0), chp s k kf T X tr gu O ch2, mh S Le As Oo M, ?_, ?_, RR_mk hS hD⟩
      · unfold m_X7_stay m_X7_isHour m_X7_stay_47
        rw [within_ok, bsome, rz_in, bsome, e1, if_neg one_ne, within_ok, bsome, e2, if_neg one_ne, c70, bsome, c10, bsome, AR.G2, bsome, AR.ar ht3, bsome, c7r, e, bsome]
        dsimp only
        rw [bitCount_ok w1, bsome, w2]
        rw [show pc6 (grM (pS s.1 s.2.1 t) 0 s.2.1.2.2.1 (mxN (pS s.1 s.2.1 t) 0 s.2.1.2.2.1 0) 0) = pc6 0 + cnS (grM (pS s.1 s.2.1 t) 0 s.2.1.2.2.1 (mxN (pS s.1 s.2.1 t) 0 s.2.1.2.2.1 0) 0) 0 s.2.1.2.2.1 from by
          rw [pc6_cn _ (by omega), show 6 = s.2.1.2.2.1 + (6 - s.2.1.2.2.1) by omega, cnS_split, cnS_z (6 - s.2.1.2.2.1) _ (fun i hi => bit_hi glt (by omega)), show pc6 0 = 0 from rfl]
          omega]
        split <;> rfl
      · unfold m_X8_stay
        rw [in_ok, bsome, e1, if_neg one_ne, in_ok, bsome, e2, if_neg one_ne]
        exact eM
