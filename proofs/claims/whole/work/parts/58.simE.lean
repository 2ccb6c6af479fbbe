/-! WHAT IS FORETOLD: the model puts its state aside and brings it back; the class has a trial bench -/
def frR (S S2 : Nat → Int32) (R : Rl) (tr : Bn) : Prop := Mr S2 R ∧ Mb S2 R.1 tr ∧ Wb R.1 tr ∧ ∀ i, 40 ≤ i → S2 i = S i
theorem frR_0 {S : Nat → Int32} {s : St} (hS : stR S s) : frR S S s.1 s.2.1 := ⟨hS.1, hS.2.1, hS.2.2.2.1, fun _ _ => rfl⟩
theorem frR_step {S S2 Le As Oo : Nat → Int32} {M : Mx} {R : Rl} {tr : Bn} (wR : Wr R) (F : frR S S2 R tr) (hy : tr.2.2.2.1 + 1 < 100000) : ∃ S3 Le3, m_X8_passes 0 (mh S2 Le As Oo M) = some (mh S3 Le3 As Oo M) ∧ frR S S3 R (yrB R.2.1 R.2.2.2 tr) := by
  obtain ⟨mR, mB, wB, hc⟩ := F
  obtain ⟨S3, Le3, e, mB3, h3⟩ := passes_ok (Le := Le) (As := As) (Oo := Oo) (M := M) mR mB wR wB
  refine ⟨S3, Le3, e, ⟨?_, fun m hm => ?_, fun m hm t ht => ?_⟩, mB3, Wb_yr wB hy, fun i hi => ?_⟩
  · rw [h3 0 (by omega)]; exact mR.1
  · rw [h3 _ (by omega)]; exact mR.2.1 m hm
  · rw [h3 _ (by omega)]; exact mR.2.2 m hm t ht
  · rw [h3 i (by omega)]; exact hc i hi
theorem holds_loop {S Le As Oo : Nat → Int32} {M : Mx} : ∀ (t j f : Nat), j + t = 40 → t < f → m_X8_holds_2 f 0 (nI j) (mh S Le (cpI S As j) Oo M) = some (mh S Le (cpI S As 40) Oo M) := by
  intro t
  induction t with
  | zero =>
    intro j f hj hf
    obtain ⟨g, rfl⟩ := fuel_s hf
    obtain rfl : j = 40 := by omega
    unfold m_X8_holds_2
    rw [if_pos (by decide)]
  | succ t ih =>
    intro j f hj hf
    obtain ⟨g, rfl⟩ := fuel_s hf
    unfold m_X8_holds_2
    rw [if_neg (show ¬ (40 : Int32) ≤ nI j from Lge 40 (by omega) (by decide)), g8c, bsome, g80, bsome, rS (by omega), bsome, wAs (by omega), bsome, cpI_s, nI_1, ih (j + 1) g (by omega) (by omega)]
theorem holds8_ok {S Le As Oo : Nat → Int32} {M : Mx} : m_X8_holds 0 (mh S Le As Oo M) = some (mh S Le (cpI S As 40) Oo M) := by
  have e := holds_loop (S := S) (Le := Le) (As := As) (Oo := Oo) (M := M) 40 0 1000 rfl (by decide)
  rw [cpI_0] at e
  exact e
theorem lets_loop {S Le As Oo : Nat → Int32} {M : Mx} : ∀ (t j f : Nat), j + t = 40 → t < f → m_X8_lets_2 f 0 (nI j) (mh (cpI As S j) Le As Oo M) = some (mh (cpI As S 40) Le As Oo M) := by
  intro t
  induction t with
  | zero =>
    intro j f hj hf
    obtain ⟨g, rfl⟩ := fuel_s hf
    obtain rfl : j = 40 := by omega
    unfold m_X8_lets_2
    rw [if_pos (by decide)]
  | succ t ih =>
    intro j f hj hf
    obtain ⟨g, rfl⟩ := fuel_s hf
    unfold m_X8_lets_2
    rw [if_neg (show ¬ (40 : Int32) ≤ nI j from Lge 40 (by omega) (by decide)), g80, bsome, g8c, bsome, rAs (by omega), bsome, wS (by omega), bsome, cpI_s, nI_1, ih (j + 1) g (by omega) (by omega)]
/-- brought back -/
theorem lets_ok {S S2 Le As Oo : Nat → Int32} {M : Mx} (hc : ∀ i, 40 ≤ i → S2 i = S i) : m_X8_lets 0 (mh S2 Le (cpI S As 40) Oo M) = some (mh S Le (cpI S As 40) Oo M) := by
  have e := lets_loop (S := S2) (Le := Le) (As := cpI S As 40) (Oo := Oo) (M := M) 40 0 1000 rfl (by decide)
  rw [cpI_0, show cpI (cpI S As 40) S2 40 = S from by
    funext i
    unfold cpI
    by_cases q : i < 40
    · rw [if_pos q, if_pos q]
    · rw [if_neg q, hc i (by omega)]] at e
  exact e
theorem yrs_y (kd sb : Nat → Nat) : ∀ (t : Nat) (B : Bn), (yrs kd sb t B).2.2.2.1 = B.2.2.2.1 + t := by
  intro t
  induction t with
  | zero => intro B; rfl
  | succ t ih =>
    intro B
    show (yrs kd sb t (yrB kd sb B)).2.2.2.1 = _
    rw [ih]
    show B.2.2.2.1 + 1 + t = B.2.2.2.1 + (t + 1)
    omega
theorem Wb_yrs {kd sb : Nat → Nat} {n : Nat} : ∀ (t : Nat) (B : Bn), Wb n B → B.2.2.2.1 + t < 100000 → Wb n (yrs kd sb t B) := by
  intro t
  induction t with
  | zero => intro B h _; exact h
  | succ t ih =>
    intro B h hy
    exact ih _ (Wb_yr h (by omega)) (show B.2.2.2.1 + 1 + t < 100000 by omega)
section FOR
variable {S As Oo : Nat → Int32} {M : Mx} {R : Rl}
theorem ahead_loop (wR : Wr R) {n m : Nat} (hn : n < 1000) (hm : m < R.1) : ∀ (t j f : Nat) (S2 Le : Nat → Int32) (tr : Bn), j + t = n → t < f → frR S S2 R tr → tr.2.2.2.1 + t < 100000 → ∃ Le2, m_X8_ahead_26 f 0 (nI m) (nI n) (nI j) (mh S2 Le (cpI S As 40) Oo M) = some (nI ((yrs R.2.1 R.2.2.2 t tr).1 m), mh S Le2 (cpI S As 40) Oo M) := by
  intro t
  induction t with
  | zero =>
    intro j f S2 Le tr hj hf F hy
    obtain ⟨g, rfl⟩ := fuel_s hf
    have o1 := wR.1.1
    refine ⟨Le, ?_⟩
    unfold m_X8_ahead_26
    rw [if_pos (nI_le (by omega) (by omega)), g80, bsome, ix4, rS (by omega), bsome, g8r, lets_ok F.2.2.2, bsome, F.2.1.2.2.2.1 m hm]
    rfl
  | succ t ih =>
    intro j f S2 Le tr hj hf F hy
    obtain ⟨g, rfl⟩ := fuel_s hf
    obtain ⟨S3, Le3, e, F3⟩ := frR_step (Le := Le) (As := cpI S As 40) (Oo := Oo) (M := M) wR F (by omega)
    obtain ⟨Le4, e4⟩ := ih (j + 1) g S3 Le3 _ (by omega) (by omega) F3 (show tr.2.2.2.1 + 1 + t < 100000 by omega)
    refine ⟨Le4, ?_⟩
    unfold m_X8_ahead_26
    rw [if_neg (nI_ge (by omega) (by omega)), g8r, e, bsome, nI_1, e4]
    rfl
theorem then_loop (wR : Wr R) {n : Nat} (hn : n < 1000) : ∀ (t j f : Nat) (S2 Le : Nat → Int32) (tr : Bn), j + t = n → t < f → frR S S2 R tr → tr.2.2.2.1 + t < 100000 → ∃ Le2, m_X8_then_18 f 0 (nI n) (nI j) (mh S2 Le (cpI S As 40) Oo M) = some (sp_who (yrs R.2.1 R.2.2.2 t tr).2.1 0 (yrs R.2.1 R.2.2.2 t tr).2.2.1 0, mh S Le2 (cpI S As 40) Oo M) := by
  intro t
  induction t with
  | zero =>
    intro j f S2 Le tr hj hf F hy
    obtain ⟨g, rfl⟩ := fuel_s hf
    refine ⟨Le, ?_⟩
    unfold m_X8_then_18
    rw [if_pos (nI_le (by omega) (by omega)), g8r, bench_ok F.2.1 F.2.2.1.1.1, bsome]
    dsimp only
    rw [g8r, lets_ok F.2.2.2, bsome]
    rfl
  | succ t ih =>
    intro j f S2 Le tr hj hf F hy
    obtain ⟨g, rfl⟩ := fuel_s hf
    obtain ⟨S3, Le3, e, F3⟩ := frR_step (Le := Le) (As := cpI S As 40) (Oo := Oo) (M := M) wR F (by omega)
    obtain ⟨Le4, e4⟩ := ih (j + 1) g S3 Le3 _ (by omega) (by omega) F3 (show tr.2.2.2.1 + 1 + t < 100000 by omega)
    refine ⟨Le4, ?_⟩
    unfold m_X8_then_18
    rw [if_neg (nI_ge (by omega) (by omega)), g8r, e, bsome, nI_1, e4]
    rfl
end FOR
section FOC
variable {s k : St} {kf : Int32} {T : Tp} {X : Nat → Sh} {tr : Bn} {gu : Rl} {O : Od} {ch : Nat → Nat} {S As Oo : Nat → Int32} {M : Mx}
theorem foretell_ok (hS : stR S s) {n : Nat} (hn : n ≤ 60) : m_X7_foretell 0 (nI n) (chp s k kf T X tr gu O ch) = some (chp s k kf T X (yrs s.1.2.1 s.1.2.2.2 n s.2.1) gu O ch) := by
  have hy := hS.2.2.2.2.1
  unfold m_X7_foretell
  rw [c75, bsome, c70, bsome, c11, bsome, (cB86).rcv, takeFrom_ok (by omega) cB9 cB86, bsome, sB86, c75, bsome, c70, bsome, c10, bsome, (cB86).rcv, yrs_ok (by omega) hS.2.2.1.1 hS.2.2.2.1.1 (by omega) (by omega) cB86 cR2, bsome, sB86]
theorem tyr_ok (wR : Wr s.1) (wB : okB tr) : m_X0_passYear 86 2 (chp s k kf T X tr gu O ch) = some (chp s k kf T X (yrB s.1.2.1 s.1.2.2.2 tr) gu O ch) := by
  rw [yr_ok (by omega) wR.1 wB cB86 cR2, sB86]
theorem ends_loop (wR : Wr s.1) {m : Nat} (hm : m < s.1.1) : ∀ (t j f g : Nat) (S2 Le : Nat → Int32) (tr : Bn), j + t = 61 → t < f → t < g → frR S S2 s.1 tr → tr.2.2.2.1 + t < 100000 → ∃ r tr2 Le2, m_X7_ends_32 f 0 (nI m) (nI j) (chp s k kf T X tr gu O ch) = some (r, chp s k kf T X tr2 gu O ch) ∧ m_X8_ends_16 g 0 (nI m) (nI j) (mh S2 Le (cpI S As 40) Oo M) = some (r, mh S Le2 (cpI S As 40) Oo M) := by
  have o1 := wR.1.1
  intro t
  induction t with
  | zero =>
    intro j f g S2 Le tr hj hf hg F hy
    obtain ⟨f, rfl⟩ := fuel_s hf
    obtain ⟨g, rfl⟩ := fuel_s hg
    obtain rfl : j = 61 := by omega
    refine ⟨-4, tr, Le, ?_, ?_⟩
    · unfold m_X7_ends_32
      rw [if_pos (by decide)]
    · unfold m_X8_ends_16 m_X8_ends_42 m_X8_ends_58
      rw [if_pos (by decide), g8r, lets_ok F.2.2.2, bsome, if_neg (by decide)]
  | succ t ih =>
    intro j f g S2 Le tr hj hf hg F hy
    obtain ⟨f, rfl⟩ := fuel_s hf
    obtain ⟨g, rfl⟩ := fuel_s hg
    obtain ⟨S3, Le3, e, F3⟩ := frR_step (Le := Le) (As := cpI S As 40) (Oo := Oo) (M := M) wR F (by omega)
    obtain ⟨r, tr2, Le4, q1, q2⟩ := ih (j + 1) f g S3 Le3 _ (by omega) (by omega) (by omega) F3 (show tr.2.2.2.1 + 1 + t < 100000 by omega)
    have A := cB86 (s := s) (k := k) (kf := kf) (T := T) (X := X) (tr := tr) (gu := gu) (O := O) (ch := ch)
    have hse := seatOf_ok A F.2.2.1.1.1 F.2.2.1.1.2.2.1 (show m < 6 by omega)
    have hse8 := seatOf8_ok (Le := Le) (As := cpI S As 40) (Or := Oo) (M := M) F.2.1 F.2.2.1 o1 (show m < 6 by omega)
    rcases seat_or tr.2.1 m tr.2.2.1 with ⟨i, i1, i2, i3, i4⟩ | ⟨i1, i2⟩
    · have k6 := F.2.2.1.1.1
      refine ⟨r, tr2, Le4, ?_, ?_⟩
      · unfold m_X7_ends_32
        rw [if_neg (show ¬ (60 : Int32) < nI j from nI_nlt (a := 60) (by omega) (by decide)), c75, bsome, A.rcv, hse, bsome, i4]
        dsimp only
        rw [if_neg (nI_m4 (by omega)), c75, bsome, c70, bsome, c10, bsome, A.rcv, tyr_ok wR F.2.2.1.1, bsome, nI_1]
        exact q1
      · unfold m_X8_ends_16
        rw [if_neg (show ¬ (60 : Int32) < nI j from nI_nlt (a := 60) (by omega) (by decide)), g8r, hse8, bsome, i4]
        dsimp only
        rw [if_neg (nI_m4 (by omega)), g8r, e, bsome, nI_1]
        exact q2
    · refine ⟨nI j, tr, Le, ?_, ?_⟩
      · unfold m_X7_ends_32
        rw [if_neg (show ¬ (60 : Int32) < nI j from nI_nlt (a := 60) (by omega) (by decide)), c75, bsome, A.rcv, hse, bsome, i2]
        rfl
      · unfold m_X8_ends_16 m_X8_ends_42 m_X8_ends_58
        rw [if_neg (show ¬ (60 : Int32) < nI j from nI_nlt (a := 60) (by omega) (by decide)), g8r, hse8, bsome, i2]
        dsimp only
        rw [if_pos rfl, g8r, lets_ok F.2.2.2, bsome, if_pos (show nI j ≤ (60 : Int32) from nI_le (b := 60) (by omega) (by decide))]
theorem lonely_loop (wR : Wr s.1) : ∀ (t j f g : Nat) (S2 Le : Nat → Int32) (tr : Bn), j + t = 61 → t < f → t < g → frR S S2 s.1 tr → tr.2.2.2.1 + t < 100000 → ∃ r tr2 Le2, m_X7_lonely_16 f 0 (nI j) (chp s k kf T X tr gu O ch) = some (r, chp s k kf T X tr2 gu O ch) ∧ m_X8_lonely_6 g 0 (nI j) (mh S2 Le (cpI S As 40) Oo M) = some (r, mh S Le2 (cpI S As 40) Oo M) := by
  intro t
  induction t with
  | zero =>
    intro j f g S2 Le tr hj hf hg F hy
    obtain ⟨f, rfl⟩ := fuel_s hf
    obtain ⟨g, rfl⟩ := fuel_s hg
    obtain rfl : j = 61 := by omega
    refine ⟨-4, tr, Le, ?_, ?_⟩
    · unfold m_X7_lonely_16
      rw [if_pos (by decide)]
    · unfold m_X8_lonely_6 m_X8_lonely_32 m_X8_lonely_48
      rw [if_pos (by decide), g8r, lets_ok F.2.2.2, bsome, if_neg (by decide)]
  | succ t ih =>
    intro j f g S2 Le tr hj hf hg F hy
    obtain ⟨f, rfl⟩ := fuel_s hf
    obtain ⟨g, rfl⟩ := fuel_s hg
    obtain ⟨S3, Le3, e, F3⟩ := frR_step (Le := Le) (As := cpI S As 40) (Oo := Oo) (M := M) wR F (by omega)
    obtain ⟨r, tr2, Le4, q1, q2⟩ := ih (j + 1) f g S3 Le3 _ (by omega) (by omega) (by omega) F3 (show tr.2.2.2.1 + 1 + t < 100000 by omega)
    have A := cB86 (s := s) (k := k) (kf := kf) (T := T) (X := X) (tr := tr) (gu := gu) (O := O) (ch := ch)
    have k6 := F.2.2.1.1.1
    by_cases q : 1 < tr.2.2.1
    · refine ⟨r, tr2, Le4, ?_, ?_⟩
      · unfold m_X7_lonely_16
        rw [if_neg (show ¬ (60 : Int32) < nI j from nI_nlt (a := 60) (by omega) (by decide)), c75, bsome, A.g2, bsome, if_pos (show (1 : Int32) < nI tr.2.2.1 from nI_lt (a := 1) q (by omega)), bsome, c70, bsome, c10, bsome, A.rcv, tyr_ok wR F.2.2.1.1, bsome, nI_1]
        exact q1
      · unfold m_X8_lonely_6
        rw [if_neg (show ¬ (60 : Int32) < nI j from nI_nlt (a := 60) (by omega) (by decide)), g80, bsome, rS1, bsome, F.2.1.1, if_neg (show ¬ nI tr.2.2.1 ≤ (1 : Int32) from nI_ge (a := 1) q (by omega)), g8r, e, bsome, nI_1]
        exact q2
    · refine ⟨nI j, tr, Le, ?_, ?_⟩
      · unfold m_X7_lonely_16
        rw [if_neg (show ¬ (60 : Int32) < nI j from nI_nlt (a := 60) (by omega) (by decide)), c75, bsome, A.g2, bsome, if_neg (show ¬ (1 : Int32) < nI tr.2.2.1 from nI_nlt (a := 1) (by omega) (by decide))]
      · unfold m_X8_lonely_6 m_X8_lonely_32 m_X8_lonely_48
        rw [if_neg (show ¬ (60 : Int32) < nI j from nI_nlt (a := 60) (by omega) (by decide)), g80, bsome, rS1, bsome, F.2.1.1, if_pos (show nI tr.2.2.1 ≤ (1 : Int32) from nI_le (b := 1) (by omega) (by decide)), g8r, lets_ok F.2.2.2, bsome, if_pos (show nI j ≤ (60 : Int32) from nI_le (b := 60) (by omega) (by decide))]
theorem close_loop2 (wR : Wr s.1) {m : Nat} (hm : m < s.1.1) {x : Int32} : ∀ (t j f g : Nat) (S2 Le : Nat → Int32) (tr : Bn), j + t = 61 → t < f → t < g → frR S S2 s.1 tr → tr.2.2.2.1 + t < 100000 → ∃ r tr2 Le2, m_X7_close_51 f 0 (nI m) x (nI j) (chp s k kf T X tr gu O ch) = some (r, chp s k kf T X tr2 gu O ch) ∧ m_X8_close_29 g 0 (nI m) x (nI j) (mh S2 Le (cpI S As 40) Oo M) = some (r, mh S Le2 (cpI S As 40) Oo M) := by
  have o1 := wR.1.1
  intro t
  induction t with
  | zero =>
    intro j f g S2 Le tr hj hf hg F hy
    obtain ⟨f, rfl⟩ := fuel_s hf
    obtain ⟨g, rfl⟩ := fuel_s hg
    obtain rfl : j = 61 := by omega
    refine ⟨-4, tr, Le, ?_, ?_⟩
    · unfold m_X7_close_51
      rw [if_pos (by decide)]
    · unfold m_X8_close_29 m_X8_close_57 m_X8_close_73
      rw [if_pos (by decide), g8r, lets_ok F.2.2.2, bsome, if_neg (by decide)]
  | succ t ih =>
    intro j f g S2 Le tr hj hf hg F hy
    obtain ⟨f, rfl⟩ := fuel_s hf
    obtain ⟨g, rfl⟩ := fuel_s hg
    obtain ⟨S3, Le3, e, F3⟩ := frR_step (Le := Le) (As := cpI S As 40) (Oo := Oo) (M := M) wR F (by omega)
    obtain ⟨r, tr2, Le4, q1, q2⟩ := ih (j + 1) f g S3 Le3 _ (by omega) (by omega) (by omega) F3 (show tr.2.2.2.1 + 1 + t < 100000 by omega)
    have A := cB86 (s := s) (k := k) (kf := kf) (T := T) (X := X) (tr := tr) (gu := gu) (O := O) (ch := ch)
    have hm6 : m < 6 := by omega
    obtain ⟨w, ew, e8⟩ : ∃ w : Int32, m_X0_whoSitsBy 86 (nI m) (chp s k kf T X tr gu O ch) = some (w, chp s k kf T X tr gu O ch) ∧ m_X8_allSitBy 0 (nI m) (mh S2 Le (cpI S As 40) Oo M) = some (w, mh S2 Le (cpI S As 40) Oo M) := by
      rcases seat_or tr.2.1 m tr.2.2.1 with ⟨i, i1, i2, i3, i4⟩ | ⟨i1, i2⟩
      · exact ⟨_, whoSitsBy_in A F.2.2.1.1.1 F.2.2.1.1.2.2.1 hm6 i1 i4, allSit_in F.2.1 F.2.2.1 o1 hm6 i1 i4⟩
      · exact ⟨_, whoSitsBy_out A F.2.2.1.1.1 F.2.2.1.1.2.2.1 hm6 i2, allSit_out F.2.1 F.2.2.1 o1 hm6 i2⟩
    by_cases q : hasB w x = 0
    · refine ⟨r, tr2, Le4, ?_, ?_⟩
      · unfold m_X7_close_51
        rw [if_neg (show ¬ (60 : Int32) < nI j from nI_nlt (a := 60) (by omega) (by decide)), c75, bsome, A.rcv, ew, bsome]
        dsimp only
        rw [holds_ok, bsome]
        dsimp only
        rw [if_pos q, c75, bsome, c70, bsome, c10, bsome, A.rcv, tyr_ok wR F.2.2.1.1, bsome, nI_1]
        exact q1
      · unfold m_X8_close_29
        rw [if_neg (show ¬ (60 : Int32) < nI j from nI_nlt (a := 60) (by omega) (by decide)), g8r, e8, bsome]
        dsimp only
        rw [has_ok, bsome]
        dsimp only
        rw [if_pos q, g8r, e, bsome, nI_1]
        exact q2
    · refine ⟨nI j, tr, Le, ?_, ?_⟩
      · unfold m_X7_close_51
        rw [if_neg (show ¬ (60 : Int32) < nI j from nI_nlt (a := 60) (by omega) (by decide)), c75, bsome, A.rcv, ew, bsome]
        dsimp only
        rw [holds_ok, bsome]
        dsimp only
        rw [if_neg q]
      · unfold m_X8_close_29 m_X8_close_57 m_X8_close_73
        rw [if_neg (show ¬ (60 : Int32) < nI j from nI_nlt (a := 60) (by omega) (by decide)), g8r, e8, bsome]
        dsimp only
        rw [has_ok, bsome]
        dsimp only
        rw [if_neg q, g8r, lets_ok F.2.2.2, bsome, if_pos (show nI j ≤ (60 : Int32) from nI_le (b := 60) (by omega) (by decide))]
end FOC
theorem sim_ahead_ok : sim_ahead RR := by
  intro hX hM x1 x2 h0
  have h1 := h0
  obtain ⟨s, k, kf, T, X, tr, gu, O, ch, S, Le, As, Oo, M, rfl, rfl, hS, hD⟩ := h1
  have AR := cR2 (s := s) (k := k) (kf := kf) (T := T) (X := X) (tr := tr) (gu := gu) (O := O) (ch := ch)
  have o1 := hS.2.2.1.1.1
  have hy := hS.2.2.2.2.1
  rcases man_or x1 o1 with e1 | ⟨m, hm, rfl, e1⟩
  · refine ⟨-1, _, _, ?_, ?_, h0⟩
    · unfold m_X7_ahead
      rw [c70, bsome, c10, bsome, AR.rcv, has_ok3 AR, bsome, e1]
      rfl
    · unfold m_X8_ahead
      rw [g8r, isMan_ok hS.1, bsome, e1]
      rfl
  · rcases inB_or x2 (lo := 0) (hi := 60) 0 60 rfl rfl (by decide) (by decide) with e2 | ⟨n, -, hn, rfl, e2⟩
    · refine ⟨-1, _, _, ?_, ?_, h0⟩
      · unfold m_X7_ahead
        rw [c70, bsome, c10, bsome, AR.rcv, has_ok3 AR, bsome, e1, if_neg one_ne, within_ok, bsome, e2]
        rfl
      · unfold m_X8_ahead
        rw [g8r, isMan_ok hS.1, bsome, e1, if_neg one_ne, in_ok, bsome, e2]
        rfl
    · obtain ⟨Le2, e3⟩ := ahead_loop (As := As) (Oo := Oo) (M := M) hS.2.2.1 (n := n) (by omega) hm n 0 1000 S Le s.2.1 (by omega) (by omega) (frR_0 hS) (by omega)
      refine ⟨nI ((yrs s.1.2.1 s.1.2.2.2 n s.2.1).1 m), chp s k kf T X (yrs s.1.2.1 s.1.2.2.2 n s.2.1) gu O ch, mh S Le2 (cpI S As 40) Oo M, ?_, ?_, RR_mk hS hD⟩
      · unfold m_X7_ahead
        rw [c70, bsome, c10, bsome, AR.rcv, has_ok3 AR, bsome, e1, if_neg one_ne, within_ok, bsome, e2, if_neg one_ne, c7r, foretell_ok hS hn, bsome, c75, bsome, (cB86).g0, bsome, (cB86).al (by omega), bsome]
      · unfold m_X8_ahead
        rw [g8r, isMan_ok hS.1, bsome, e1, if_neg one_ne, in_ok, bsome, e2, if_neg one_ne, g8r, holds8_ok, bsome]
        exact e3
theorem sim_then_ok : sim_then RR := by
  intro hX hM x h0
  have h1 := h0
  obtain ⟨s, k, kf, T, X, tr, gu, O, ch, S, Le, As, Oo, M, rfl, rfl, hS, hD⟩ := h1
  have hy := hS.2.2.2.2.1
  rcases inB_or x (lo := 0) (hi := 60) 0 60 rfl rfl (by decide) (by decide) with e2 | ⟨n, -, hn, rfl, e2⟩
  · refine ⟨-1, _, _, ?_, ?_, h0⟩
    · unfold m_X7_then
      rw [within_ok, bsome, e2]
      rfl
    · unfold m_X8_then
      rw [in_ok, bsome, e2]
      rfl
  · obtain ⟨Le2, e3⟩ := then_loop (As := As) (Oo := Oo) (M := M) hS.2.2.1 (n := n) (by omega) n 0 1000 S Le s.2.1 (by omega) (by omega) (frR_0 hS) (by omega)
    have wB := Wb_yrs (kd := s.1.2.1) (sb := s.1.2.2.2) n s.2.1 hS.2.2.2.1 (by omega)
    refine ⟨sp_who (yrs s.1.2.1 s.1.2.2.2 n s.2.1).2.1 0 (yrs s.1.2.1 s.1.2.2.2 n s.2.1).2.2.1 0, chp s k kf T X (yrs s.1.2.1 s.1.2.2.2 n s.2.1) gu O ch, mh S Le2 (cpI S As 40) Oo M, ?_, ?_, RR_mk hS hD⟩
    · unfold m_X7_then
      rw [within_ok, bsome, e2, if_neg one_ne, c7r, foretell_ok hS hn, bsome, c75, bsome, (cB86).rcv, whoSits_ok cB86 wB.1.1, bsome]
    · unfold m_X8_then
      rw [in_ok, bsome, e2, if_neg one_ne, g8r, holds8_ok, bsome]
      exact e3
theorem sim_ends_ok : sim_ends RR := by
  intro hX hM x1 h0
  have h1 := h0
  obtain ⟨s, k, kf, T, X, tr, gu, O, ch, S, Le, As, Oo, M, rfl, rfl, hS, hD⟩ := h1
  have AR := cR2 (s := s) (k := k) (kf := kf) (T := T) (X := X) (tr := tr) (gu := gu) (O := O) (ch := ch)
  have o1 := hS.2.2.1.1.1
  have hy := hS.2.2.2.2.1
  rcases man_or x1 o1 with e1 | ⟨m, hm, rfl, e1⟩
  · refine ⟨-1, _, _, ?_, ?_, h0⟩
    · unfold m_X7_ends
      rw [c70, bsome, c10, bsome, AR.rcv, has_ok3 AR, bsome, e1]
      rfl
    · unfold m_X8_ends
      rw [g8r, isMan_ok hS.1, bsome, e1]
      rfl
  · obtain ⟨r, tr2, Le2, q1, q2⟩ := ends_loop (k := k) (kf := kf) (T := T) (X := X) (gu := gu) (O := O) (ch := ch) (As := As) (Oo := Oo) (M := M) hS.2.2.1 hm 61 0 1000 1000 S Le s.2.1 rfl (by decide) (by decide) (frR_0 hS) (by omega)
    refine ⟨r, chp s k kf T X tr2 gu O ch, mh S Le2 (cpI S As 40) Oo M, ?_, ?_, RR_mk hS hD⟩
    · unfold m_X7_ends
      rw [c70, bsome, c10, bsome, AR.rcv, has_ok3 AR, bsome, e1, if_neg one_ne, c75, bsome, c70, bsome, c11, bsome, (cB86).rcv, takeFrom_ok (by omega) cB9 cB86, bsome, sB86]
      exact q1
    · unfold m_X8_ends
      rw [g8r, isMan_ok hS.1, bsome, e1, if_neg one_ne, g8r, holds8_ok, bsome]
      exact q2
theorem sim_lonely_ok : sim_lonely RR := by
  intro hX hM h0
  obtain ⟨s, k, kf, T, X, tr, gu, O, ch, S, Le, As, Oo, M, rfl, rfl, hS, hD⟩ := h0
  have hy := hS.2.2.2.2.1
  obtain ⟨r, tr2, Le2, q1, q2⟩ := lonely_loop (k := k) (kf := kf) (T := T) (X := X) (gu := gu) (O := O) (ch := ch) (As := As) (Oo := Oo) (M := M) hS.2.2.1 61 0 1000 1000 S Le s.2.1 rfl (by decide) (by decide) (frR_0 hS) (by omega)
  refine ⟨r, chp s k kf T X tr2 gu O ch, mh S Le2 (cpI S As 40) Oo M, ?_, ?_, RR_mk hS hD⟩
  · unfold m_X7_lonely
    rw [c75, bsome, c70, bsome, c11, bsome, (cB86).rcv, takeFrom_ok (by omega) cB9 cB86, bsome, sB86]
    exact q1
  · unfold m_X8_lonely
    rw [g8r, holds8_ok, bsome]
    exact q2
theorem sim_close_ok : sim_close RR := by
  intro hX hM x1 x2 h0
  have h1 := h0
  obtain ⟨s, k, kf, T, X, tr, gu, O, ch, S, Le, As, Oo, M, rfl, rfl, hS, hD⟩ := h1
  have AR := cR2 (s := s) (k := k) (kf := kf) (T := T) (X := X) (tr := tr) (gu := gu) (O := O) (ch := ch)
  have o1 := hS.2.2.1.1.1
  have hy := hS.2.2.2.2.1
  rcases man_or x1 o1 with e1 | ⟨m, hm, rfl, e1⟩
  · refine ⟨-1, _, _, ?_, ?_, h0⟩
    · unfold m_X7_close
      rw [c70, bsome, c10, bsome, AR.rcv, has_ok3 AR, bsome, e1]
      rfl
    · unfold m_X8_close
      rw [g8r, isMan_ok hS.1, bsome, e1]
      rfl
  · rcases man_or x2 o1 with e2 | ⟨q, hq, rfl, e2⟩
    · refine ⟨-1, _, _, ?_, ?_, h0⟩
      · unfold m_X7_close
        rw [c70, bsome, c10, bsome, AR.rcv, has_ok3 AR, bsome, e1, if_neg one_ne, c70, bsome, c10, bsome, AR.rcv, has_ok3 AR, bsome, e2]
        rfl
      · unfold m_X8_close
        rw [g8r, isMan_ok hS.1, bsome, e1, if_neg one_ne, g8r, isMan_ok hS.1, bsome, e2]
        rfl
    · by_cases z : nI m = nI q
      · refine ⟨-1, _, _, ?_, ?_, h0⟩
        · unfold m_X7_close
          rw [c70, bsome, c10, bsome, AR.rcv, has_ok3 AR, bsome, e1, if_neg one_ne, c70, bsome, c10, bsome, AR.rcv, has_ok3 AR, bsome, e2, if_neg one_ne, if_pos z]
          rfl
        · unfold m_X8_close
          rw [g8r, isMan_ok hS.1, bsome, e1, if_neg one_ne, g8r, isMan_ok hS.1, bsome, e2, if_neg one_ne, if_pos z]
          rfl
      · obtain ⟨r, tr2, Le2, q1, q2⟩ := close_loop2 (k := k) (kf := kf) (T := T) (X := X) (gu := gu) (O := O) (ch := ch) (As := As) (Oo := Oo) (M := M) hS.2.2.1 hm (x := nI q) 61 0 1000 1000 S Le s.2.1 rfl (by decide) (by decide) (frR_0 hS) (by omega)
        refine ⟨r, chp s k kf T X tr2 gu O ch, mh S Le2 (cpI S As 40) Oo M, ?_, ?_, RR_mk hS hD⟩
        · unfold m_X7_close
          rw [c70, bsome, c10, bsome, AR.rcv, has_ok3 AR, bsome, e1, if_neg one_ne, c70, bsome, c10, bsome, AR.rcv, has_ok3 AR, bsome, e2, if_neg one_ne, if_neg z, c75, bsome, c70, bsome, c11, bsome, (cB86).rcv, takeFrom_ok (by omega) cB9 cB86, bsome, sB86]
          exact q1
        · unfold m_X8_close
          rw [g8r, isMan_ok hS.1, bsome, e1, if_neg one_ne, g8r, isMan_ok hS.1, bsome, e2, if_neg one_ne, if_neg z, g8r, holds8_ok, bsome]
          exact q2
