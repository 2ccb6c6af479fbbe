/-! years, drift, nurse, undo, man -/
theorem pass_step {S Le As Oo : Nat → Int32} {M : Mx} {s : St} (hS : stR S s) (hy : s.2.1.2.2.2.1 + 1 ≤ 9999) : ∃ S2 Le2, m_X8_passes 0 (mh S Le As Oo M) = some (mh S2 Le2 As Oo M) ∧ stR S2 (s.1, yrB s.1.2.1 s.1.2.2.2 s.2.1, s.2.2) := by
  obtain ⟨S2, Le2, e, mB, hc⟩ := passes_ok (Le := Le) (As := As) (Oo := Oo) (M := M) hS.1 hS.2.1 hS.2.2.1 hS.2.2.2.1
  exact ⟨S2, Le2, e, stR_bench hS mB (Wb_yr hS.2.2.2.1 (by omega)) hy (fun i hi => hc i (by omega))⟩
section YRS
variable {k : St} {kf : Int32} {T : Tp} {X : Nat → Sh} {tr : Bn} {gu : Rl} {O : Od} {ch : Nat → Nat} {As Oo : Nat → Int32} {M : Mx}
theorem goOn63_ok {s : St} {S : Nat → Int32} {k38 : Nat → Int32 → Int32 → Nat → Int32 → bb_H → Option (Int32 × bb_H)} {x1 x2 : Int32} {j : Nat} (hS : stR S s) : m_X7_goOn_63 k38 0 x1 x2 9 (nI j) (chp s k kf T X tr gu O ch) = k38 0 x1 x2 9 (nI (j + 1)) (chp (s.1, yrB s.1.2.1 s.1.2.2.2 s.2.1, s.2.2) k kf T X tr gu O ch) := by
  unfold m_X7_goOn_63
  rw [c70, bsome, c10, bsome, (cB9).rcv, yr_ok (by omega) hS.2.2.1.1 hS.2.2.2.1.1 cB9 cR2, bsome, sB9, nI_1]
theorem years_loop {n : Nat} (hn : n ≤ 40) : ∀ (t j f g : Nat) (s : St) (S Le : Nat → Int32), j + t = n → t < f → t < g → stR S s → s.2.1.2.2.2.1 + t ≤ 9999 →
    ∃ (r : Int32) (s2 : St) (S2 Le2 : Nat → Int32), m_X7_goOn_38 f 0 (nI n) 0 9 (nI j) (chp s k kf T X tr gu O ch) = some (r, chp s2 k kf T X tr gu O ch) ∧ m_X8_years_31 g 0 (nI n) (nI j) (mh S Le As Oo M) = some (r, mh S2 Le2 As Oo M) ∧ stR S2 s2 := by
  intro t
  induction t with
  | zero =>
    intro j f g s S Le hj hf hg hS hy
    obtain ⟨f, rfl⟩ := fuel_s hf
    obtain ⟨g, rfl⟩ := fuel_s hg
    refine ⟨sp_who s.2.1.2.1 0 s.2.1.2.2.1 0, s, S, Le, ?_, ?_, hS⟩
    · unfold m_X7_goOn_38
      rw [if_pos (nI_le (by omega) (by omega)), (cB9).rcv, whoSits_ok cB9 hS.2.2.2.1.1.1, bsome]
    · unfold m_X8_years_31
      rw [if_pos (nI_le (by omega) (by omega)), g8r, bench_ok hS.2.1 hS.2.2.2.1.1.1, bsome]
  | succ t ih =>
    intro j f g s S Le hj hf hg hS hy
    obtain ⟨f, rfl⟩ := fuel_s hf
    obtain ⟨g, rfl⟩ := fuel_s hg
    obtain ⟨S1, e1, hS1⟩ := keeps_ok (Le := Le) (As := As) (Oo := Oo) (M := M) hS
    obtain ⟨S2, Le2, e2, hS2⟩ := pass_step (Le := Le) (As := As) (Oo := Oo) (M := M) hS1 (show s.2.1.2.2.2.1 + 1 ≤ 9999 by omega)
    obtain ⟨r, s3, S3, Le3, q1, q2, q3⟩ := ih (j + 1) f g _ S2 Le2 (by omega) (by omega) (by omega) hS2 (show s.2.1.2.2.2.1 + 1 + t ≤ 9999 by omega)
    refine ⟨r, s3, S3, Le3, ?_, ?_, q3⟩
    · unfold m_X7_goOn_38
      rw [if_neg (nI_ge (by omega) (by omega)), c70, bsome, c12, bsome, clr, keep_ok hS.2.2.2.2.2.2.1 hS.2.2.2.2.2.2.2.1, bsome, if_pos rfl, goOn63_ok hS1]
      exact q1
    · unfold m_X8_years_31
      rw [if_neg (nI_ge (by omega) (by omega)), g8r, e1, bsome, g8r, e2, bsome, nI_1]
      exact q2
/-- the draw, and the place of its move -/
theorem drw (d : Int32) {n : Nat} (hn : n ≤ 6) : ∃ (d2 : Int32) (p : Nat), ((d * 1103515245) + 12345) &&& 2147483647 = d2 ∧ (2 ≤ n → (d2 / 65536) - (d2 / 65536) / (nI n - 1) * (nI n - 1) = nI p ∧ p + 1 < n) := ⟨drN d, drP d n, rfl, fun h2 => dr_idx h2 hn d⟩
theorem moveDraw2 {h : bb_H} {b n y p : Nat} {lv sv : Nat → Nat} {d d2 : Int32} (hn : n ≤ 6) (e : ((d * 1103515245) + 12345) &&& 2147483647 = d2) (e2 : 2 ≤ n → (d2 / 65536) - (d2 / 65536) / (nI n - 1) * (nI n - 1) = nI p ∧ p + 1 < n) (A : bnAt h b (lv, sv, n, y, d)) : m_X0_moveByDraw b h = some (bnSet h b (lv, if 2 ≤ n then swN sv p else sv, n, y, d2)) := by
  unfold m_X0_moveByDraw
  rw [A.g4, bsome, e, A.p4, bsome]
  have A1 := A.set (lv, sv, n, y, d2)
  rw [A1.g2, bsome]
  by_cases q : 2 ≤ n
  · obtain ⟨q1, q2⟩ := e2 q
    rw [if_neg (show ¬ nI n < (2 : Int32) from fun z => absurd ((nI_ltI (b := 2) (by omega) (by decide)).mp z) (by omega)), A1.g4, bsome, bsome, if_neg (show ¬ nI n - 1 = (0 : Int32) from fun z => by
      rw [show nI n - 1 = nI (n - 1) from pk_sub (b := 1) (by omega)] at z
      have := (nI_eq (b := 0) (by omega) (by decide)).mp z
      omega), q1, A1.rcv, swapAt_in A1 hn q2, bsome, bnSet_bn A.len, if_pos q]
    rfl
  · rw [if_pos (show nI n < (2 : Int32) from nI_lt (b := 2) (by omega) (by decide)), if_neg q]
    rfl
theorem mv_gen0 {R : Rl} {lv sv : Nat → Nat} {k0 y : Nat} {d d2 : Int32} {L : Lg} {S : Nat → Int32} (hS : stR S (R, (lv, sv, k0, y, d), L)) : stR (updN S 3 d2) (R, (lv, sv, k0, y, d2), L) := by
  have m1 : Mb (updN S 3 d2) R.1 (lv, sv, k0, y, d2) := by
    obtain ⟨b1, b2, b3, b4, b5⟩ := hS.2.1
    exact ⟨b1, b2, rfl, fun m hm => by rw [updN_n (by omega)]; exact b4 m hm, fun j hj => by rw [updN_n (by omega)]; exact b5 j hj⟩
  exact stR_bench hS m1 hS.2.2.2.1 hS.2.2.2.2.1 (fun i hi => by rw [updN_n (by omega)])
theorem mv_gen {R : Rl} {lv sv : Nat → Nat} {k0 y p : Nat} {d d2 : Int32} {L : Lg} {S : Nat → Int32} (hS : stR S (R, (lv, sv, k0, y, d), L)) (hp : p + 1 < k0) : stR (updN (updN (updN S 3 d2) (10 + p) (updN S 3 d2 (10 + p + 1))) (10 + p + 1) (updN S 3 d2 (10 + p))) (R, (lv, swN sv p, k0, y, d2), L) := by
  have h1 := mv_gen0 (d2 := d2) hS
  have o1 : R.1 ≤ 6 := hS.2.2.1.1.1
  have k6 : k0 ≤ 6 := hS.2.2.2.1.1.1
  exact stR_bench h1 (Mb_sw o1 k6 h1.2.1 hp) (Wb_sw h1.2.2.2.1 hp) h1.2.2.2.2.1 (fun i hi => by rw [updN_n (by omega), updN_n (by omega)])
theorem drift_loop {n : Nat} (hn : n ≤ 40) : ∀ (t j f g : Nat) (s : St) (S Le : Nat → Int32), j + t = n → t < f → t < g → stR S s → s.2.1.2.2.2.1 + t ≤ 9999 →
    ∃ (r : Int32) (s2 : St) (S2 Le2 : Nat → Int32), m_X7_goOn_38 f 0 (nI n) 1 9 (nI j) (chp s k kf T X tr gu O ch) = some (r, chp s2 k kf T X tr gu O ch) ∧ m_X8_drift_31 g 0 (nI n) (nI j) (mh S Le As Oo M) = some (r, mh S2 Le2 As Oo M) ∧ stR S2 s2 := by
  intro t
  induction t with
  | zero =>
    intro j f g s S Le hj hf hg hS hy
    obtain ⟨f, rfl⟩ := fuel_s hf
    obtain ⟨g, rfl⟩ := fuel_s hg
    refine ⟨sp_who s.2.1.2.1 0 s.2.1.2.2.1 0, s, S, Le, ?_, ?_, hS⟩
    · unfold m_X7_goOn_38
      rw [if_pos (nI_le (by omega) (by omega)), (cB9).rcv, whoSits_ok cB9 hS.2.2.2.1.1.1, bsome]
    · unfold m_X8_drift_31
      rw [if_pos (nI_le (by omega) (by omega)), g8r, bench_ok hS.2.1 hS.2.2.2.1.1.1, bsome]
  | succ t ih =>
    intro j f g s S Le hj hf hg hS hy
    obtain ⟨f, rfl⟩ := fuel_s hf
    obtain ⟨g, rfl⟩ := fuel_s hg
    have kX := keep_ok (s := s) (k := k) (kf := kf) (T := T) (X := X) (tr := tr) (gu := gu) (O := O) (ch := ch) hS.2.2.2.2.2.2.1 hS.2.2.2.2.2.2.2.1
    obtain ⟨S1, e1, hS1⟩ := keeps_ok (Le := Le) (As := As) (Oo := Oo) (M := M) hS
    obtain ⟨R, ⟨lv, sv, k0, y, d⟩, L⟩ := s
    have k6 : k0 ≤ 6 := hS.2.2.2.1.1.1
    have hy' : y + (t + 1) ≤ 9999 := hy
    obtain ⟨d2, p, f1, f2⟩ := drw d k6
    have hd : S1 3 = d := hS1.2.1.2.2.1
    have hk1 : S1 1 = nI k0 := hS1.2.1.1
    have A := cB9 (s := (R, (lv, sv, k0, y, d), lgK L (lv, sv, k0, y, d))) (k := k) (kf := kf) (T := T) (X := X) (tr := tr) (gu := gu) (O := O) (ch := ch)
    by_cases q : 2 ≤ k0
    · obtain ⟨d1, d3⟩ := f2 q
      have hS1m := mv_gen (d2 := d2) hS1 d3
      obtain ⟨S2, Le2, e2, hS2⟩ := pass_step (Le := Le) (As := As) (Oo := Oo) (M := M) hS1m (show y + 1 ≤ 9999 by omega)
      obtain ⟨r, s3, S3, Le3, q1, q2, q3⟩ := ih (j + 1) f g _ S2 Le2 (by omega) (by omega) (by omega) hS2 (show y + 1 + t ≤ 9999 by omega)
      refine ⟨r, s3, S3, Le3, ?_, ?_, q3⟩
      · unfold m_X7_goOn_38
        rw [if_neg (nI_ge (by omega) (by omega)), c70, bsome, c12, bsome, clr, kX, bsome, if_neg one_ne, A.rcv, moveDraw2 k6 f1 f2 A, bsome, if_pos q, sB9, goOn63_ok hS1m]
        exact q1
      · unfold m_X8_drift_31 m_X8_drift_94
        rw [if_neg (nI_ge (by omega) (by omega)), g8r, e1, bsome, g80, bsome, bsome, rS3, bsome, wS3, bsome, hd, f1, g80, bsome, rS1, bsome, updN_n (by decide), hk1, if_neg (show ¬ nI k0 ≤ (1 : Int32) from nI_ge (a := 1) (by omega) (by omega)), bsome, rS3, bsome, bsome, rS1, bsome, updN_s, updN_n (by decide), hk1, if_neg (show ¬ nI k0 - 1 = (0 : Int32) from fun z => by
          rw [show nI k0 - 1 = nI (k0 - 1) from pk_sub (b := 1) (by omega)] at z
          have := (nI_eq (b := 0) (by omega) (by decide)).mp z
          omega), d1, g8r, changes_ok (by omega), bsome, g8r, e2, bsome, nI_1]
        exact q2
    · have hS1m := mv_gen0 (d2 := d2) hS1
      obtain ⟨S2, Le2, e2, hS2⟩ := pass_step (Le := Le) (As := As) (Oo := Oo) (M := M) hS1m (show y + 1 ≤ 9999 by omega)
      obtain ⟨r, s3, S3, Le3, q1, q2, q3⟩ := ih (j + 1) f g _ S2 Le2 (by omega) (by omega) (by omega) hS2 (show y + 1 + t ≤ 9999 by omega)
      refine ⟨r, s3, S3, Le3, ?_, ?_, q3⟩
      · unfold m_X7_goOn_38
        rw [if_neg (nI_ge (by omega) (by omega)), c70, bsome, c12, bsome, clr, kX, bsome, if_neg one_ne, A.rcv, moveDraw2 k6 f1 f2 A, bsome, if_neg q, sB9, goOn63_ok hS1m]
        exact q1
      · unfold m_X8_drift_31 m_X8_drift_94
        rw [if_neg (nI_ge (by omega) (by omega)), g8r, e1, bsome, g80, bsome, bsome, rS3, bsome, wS3, bsome, hd, f1, g80, bsome, rS1, bsome, updN_n (by decide), hk1, if_pos (show nI k0 ≤ (1 : Int32) from nI_le (b := 1) (by omega) (by decide)), g8r, e2, bsome, nI_1]
        exact q2
end YRS
theorem sum_le {y n : Nat} (hy : y ≤ 9999) (hn : n ≤ 40) {α : Type} (a b : α) : (if nI y + nI n ≤ (9999 : Int32) then a else b) = if y + n ≤ 9999 then a else b := by
  rw [nI_add]
  exact ite_le (b := 9999) (by omega) (by decide) a b
theorem sim_years_ok : sim_years RR := by
  intro hX hM x h0
  have h1 := h0
  obtain ⟨s, k, kf, T, X, tr, gu, O, ch, S, Le, As, Oo, M, rfl, rfl, hS, hD⟩ := h1
  rcases inB_or x (lo := 1) (hi := 40) 1 40 rfl rfl (by decide) (by decide) with e | ⟨n, n1, n2, rfl, e⟩
  · refine ⟨-1, _, _, ?_, ?_, h0⟩
    · unfold m_X7_years m_X7_goOn
      rw [c7r, within_ok, bsome, e]
      rfl
    · unfold m_X8_years
      rw [in_ok, bsome, e]
      rfl
  · have hy := hS.2.2.2.2.1
    by_cases q : s.2.1.2.2.2.1 + n ≤ 9999
    · obtain ⟨r, s2, S2, Le2, q1, q2, q3⟩ := years_loop (k := k) (kf := kf) (T := T) (X := X) (tr := tr) (gu := gu) (O := O) (ch := ch) (As := As) (Oo := Oo) (M := M) n2 n 0 1000 1000 s S Le (by omega) (by omega) (by omega) hS q
      refine ⟨r, chp s2 k kf T X tr gu O ch, mh S2 Le2 As Oo M, ?_, ?_, RR_mk q3 hD⟩
      · unfold m_X7_years m_X7_goOn
        rw [c7r, within_ok, bsome, e, if_neg one_ne, c70, bsome, c11, bsome, (cB9).g3, bsome, sum_le hy n2, if_pos q, show (0 : Int32) = nI 0 from rfl]
        rw [show m_X7_goOn_38 1000 0 (nI n) (nI 0) 9 (nI 0) (chp s k kf T X tr gu O ch) = _ from q1, bsome]
      · unfold m_X8_years
        rw [in_ok, bsome, e, if_neg one_ne, g80, bsome, rS2, bsome, hS.2.1.2.1, sum_le hy n2, if_pos q]
        exact q2
    · refine ⟨-3, _, _, ?_, ?_, h0⟩
      · unfold m_X7_years m_X7_goOn
        rw [c7r, within_ok, bsome, e, if_neg one_ne, c70, bsome, c11, bsome, (cB9).g3, bsome, sum_le hy n2, if_neg q, bsome]
      · unfold m_X8_years
        rw [in_ok, bsome, e, if_neg one_ne, g80, bsome, rS2, bsome, hS.2.1.2.1, sum_le hy n2, if_neg q]
theorem sim_drift_ok : sim_drift RR := by
  intro hX hM x h0
  have h1 := h0
  obtain ⟨s, k, kf, T, X, tr, gu, O, ch, S, Le, As, Oo, M, rfl, rfl, hS, hD⟩ := h1
  rcases inB_or x (lo := 1) (hi := 40) 1 40 rfl rfl (by decide) (by decide) with e | ⟨n, n1, n2, rfl, e⟩
  · refine ⟨-1, _, _, ?_, ?_, h0⟩
    · unfold m_X7_drift m_X7_goOn
      rw [c7r, within_ok, bsome, e]
      rfl
    · unfold m_X8_drift
      rw [in_ok, bsome, e]
      rfl
  · have hy := hS.2.2.2.2.1
    by_cases q : s.2.1.2.2.2.1 + n ≤ 9999
    · obtain ⟨r, s2, S2, Le2, q1, q2, q3⟩ := drift_loop (k := k) (kf := kf) (T := T) (X := X) (tr := tr) (gu := gu) (O := O) (ch := ch) (As := As) (Oo := Oo) (M := M) n2 n 0 1000 1000 s S Le (by omega) (by omega) (by omega) hS q
      refine ⟨r, chp s2 k kf T X tr gu O ch, mh S2 Le2 As Oo M, ?_, ?_, RR_mk q3 hD⟩
      · unfold m_X7_drift m_X7_goOn
        rw [c7r, within_ok, bsome, e, if_neg one_ne, c70, bsome, c11, bsome, (cB9).g3, bsome, sum_le hy n2, if_pos q]
        rw [show m_X7_goOn_38 1000 0 (nI n) 1 9 0 (chp s k kf T X tr gu O ch) = _ from q1, bsome]
      · unfold m_X8_drift
        rw [in_ok, bsome, e, if_neg one_ne, g80, bsome, rS2, bsome, hS.2.1.2.1, sum_le hy n2, if_pos q]
        exact q2
    · refine ⟨-3, _, _, ?_, ?_, h0⟩
      · unfold m_X7_drift m_X7_goOn
        rw [c7r, within_ok, bsome, e, if_neg one_ne, c70, bsome, c11, bsome, (cB9).g3, bsome, sum_le hy n2, if_neg q, bsome]
      · unfold m_X8_drift
        rw [in_ok, bsome, e, if_neg one_ne, g80, bsome, rS2, bsome, hS.2.1.2.1, sum_le hy n2, if_neg q]
/-! nurse -/
theorem Wb_life {n m l k y : Nat} {lv sv : Nat → Nat} {d : Int32} (W : Wb n (lv, sv, k, y, d)) (hl : 0 < l) (hl2 : l < 100) (hm : ∃ i, i < k ∧ sv i = m) : Wb n (updN lv m l, sv, k, y, d) := by
  obtain ⟨⟨q1, q2, q3, q4⟩, w1, w2, w3, w4⟩ := W
  refine ⟨⟨q1, q2, q3, fun i hi => ?_⟩, w1, w2, w3, fun i hi => ?_⟩
  · show updN lv m l i < 100
    by_cases c : i = m
    · rw [c, updN_s]; exact hl2
    · rw [updN_n c]; exact q4 i hi
  · show updN lv m l i ≠ 0 ↔ _
    by_cases c : i = m
    · rw [c, updN_s]
      exact ⟨fun _ => hm, fun _ => by omega⟩
    · rw [updN_n c]; exact w4 i hi
theorem Mb_life {S : Nat → Int32} {n m l k y : Nat} {lv sv : Nat → Nat} {d : Int32} (hn : n ≤ 6) (hm : m < n) (b : Mb S n (lv, sv, k, y, d)) : Mb (updN S (4 + m) (nI l)) n (updN lv m l, sv, k, y, d) := by
  obtain ⟨b1, b2, b3, b4, b5⟩ := b
  refine ⟨?_, ?_, ?_, fun i hi => ?_, fun i hi => ?_⟩
  · rw [updN_n (by omega)]; exact b1
  · rw [updN_n (by omega)]; exact b2
  · rw [updN_n (by omega)]; exact b3
  · show _ = nI (updN lv m l i)
    by_cases c : i = m
    · rw [c, updN_s, updN_s]
    · rw [updN_n (by omega), updN_n c]; exact b4 i hi
  · rw [updN_n (by omega)]; exact b5 i hi
theorem sim_nurse_ok : sim_nurse RR := by
  intro hX hM x1 x2 h0
  have h1 := h0
  obtain ⟨s, k, kf, T, X, tr, gu, O, ch, S, Le, As, Oo, M, rfl, rfl, hS, hD⟩ := h1
  have A := cB9 (s := s) (k := k) (kf := kf) (T := T) (X := X) (tr := tr) (gu := gu) (O := O) (ch := ch)
  have AR := cR2 (s := s) (k := k) (kf := kf) (T := T) (X := X) (tr := tr) (gu := gu) (O := O) (ch := ch)
  obtain ⟨S2, kM, hS2⟩ := keeps_ok (Le := Le) (As := As) (Oo := Oo) (M := M) hS
  have kX := keep_ok (s := s) (k := k) (kf := kf) (T := T) (X := X) (tr := tr) (gu := gu) (O := O) (ch := ch) hS.2.2.2.2.2.2.1 hS.2.2.2.2.2.2.2.1
  have wR := hS.2.2.1
  have wB := hS.2.2.2.1
  have mB := hS.2.1
  have mR := hS.1
  obtain ⟨⟨n, kd, pl, sb⟩, ⟨lv, sv, k0, y, d⟩, L⟩ := s
  have o1 : n ≤ 6 := wR.1.1
  have k6 : k0 ≤ 6 := wB.1.1
  have w2 : ∀ i, i < k0 → sv i < 6 := wB.1.2.2.1
  rcases man_or x1 o1 with e1 | ⟨m, hm, rfl, e1⟩
  · refine ⟨-1, _, _, ?_, ?_, h0⟩
    · unfold m_X7_nurse
      rw [c70, bsome, c10, bsome, AR.rcv, has_ok3 AR, bsome, e1]
      rfl
    · unfold m_X8_nurse
      rw [g8r, isMan_ok mR, bsome, e1]
      rfl
  · have hm6 : m < 6 := by omega
    rcases inB_or x2 (lo := 1) (hi := 60) 1 60 rfl rfl (by decide) (by decide) with e2 | ⟨l, l1, l2, rfl, e2⟩
    · refine ⟨-1, _, _, ?_, ?_, h0⟩
      · unfold m_X7_nurse
        rw [c70, bsome, c10, bsome, AR.rcv, has_ok3 AR, bsome, e1, if_neg one_ne, within_ok, bsome, e2]
        rfl
      · unfold m_X8_nurse
        rw [g8r, isMan_ok mR, bsome, e1, if_neg one_ne, in_ok, bsome, e2]
        rfl
    · rcases seat_or sv m k0 with ⟨i, i1, i2, i3, i4⟩ | ⟨i1, i2⟩
      · have hlv : lv m < 100 := wB.1.2.2.2 m hm6
        have A2 := cB9 (s := ((n, kd, pl, sb), (lv, sv, k0, y, d), lgK L (lv, sv, k0, y, d))) (k := k) (kf := kf) (T := T) (X := X) (tr := tr) (gu := gu) (O := O) (ch := ch)
        have A3 := cB9 (s := ((n, kd, pl, sb), (updN lv m (min 60 (lv m + l)), sv, k0, y, d), lgK L (lv, sv, k0, y, d))) (k := k) (kf := kf) (T := T) (X := X) (tr := tr) (gu := gu) (O := O) (ch := ch)
        refine ⟨nI (min 60 (lv m + l)), chp ((n, kd, pl, sb), (updN lv m (min 60 (lv m + l)), sv, k0, y, d), lgK L (lv, sv, k0, y, d)) k kf T X tr gu O ch, mh (updN S2 (4 + m) (nI (min 60 (lv m + l)))) Le As Oo M, ?_, ?_, RR_mk (stR_bench hS2 (Mb_life o1 hm hS2.2.1) (Wb_life wB (by omega) (by omega) ⟨i, i1, i2⟩) hS.2.2.2.2.1 (fun q hq => updN_n (by omega))) hD⟩
        · unfold m_X7_nurse
          rw [c70, bsome, c10, bsome, AR.rcv, has_ok3 AR, bsome, e1, if_neg one_ne, within_ok, bsome, e2, if_neg one_ne, c70, bsome, c11, bsome, A.rcv, seatOf_ok A k6 w2 hm6, bsome, i4]
          dsimp only
          rw [if_neg (nI_m4 (by omega)), c70, bsome, c12, bsome, clr, kX, bsome, A2.g0, bsome, bsome, A2.al hm6, bsome, nI_add, show bb_min 60 (nI (lv m + l)) = nI (min 60 (lv m + l)) from min_nI (a := 60) (by decide) (by omega), A2.wl hm6, bsome, sB9, A3.g0, bsome, A3.al hm6, bsome, updN_s]
        · unfold m_X8_nurse m_X8_nurse_67
          rw [g8r, isMan_ok mR, bsome, e1, if_neg one_ne, in_ok, bsome, e2, if_neg one_ne, g8r, seatOf8_ok mB wB o1 hm6, bsome, show sp_seat _ _ 0 _ = _ from i4]
          dsimp only
          rw [if_neg (nI_m4 (by omega)), g8r, kM, bsome, g80, bsome, ix4, rS (by omega), bsome, show S2 (4 + m) = nI (lv m) from hS2.2.1.2.2.2.1 m hm, bsome, nI_add, show (60 : Int32) = nI 60 from rfl, ite_le (by omega) (by decide)]
          by_cases q : lv m + l ≤ 60
          · rw [if_pos q, wS (by omega), bsome, g80, bsome, rS (by omega), bsome, updN_s, Nat.min_eq_right q]
          · rw [if_neg q, wS (by omega), bsome, g80, bsome, rS (by omega), bsome, updN_s, Nat.min_eq_left (by omega)]
      · refine ⟨-2, _, _, ?_, ?_, h0⟩
        · unfold m_X7_nurse
          rw [c70, bsome, c10, bsome, AR.rcv, has_ok3 AR, bsome, e1, if_neg one_ne, within_ok, bsome, e2, if_neg one_ne, c70, bsome, c11, bsome, A.rcv, seatOf_ok A k6 w2 hm6, bsome, i2]
          rfl
        · unfold m_X8_nurse
          rw [g8r, isMan_ok mR, bsome, e1, if_neg one_ne, in_ok, bsome, e2, if_neg one_ne, g8r, seatOf8_ok mB wB o1 hm6, bsome, show sp_seat _ _ 0 _ = _ from i2]
          rfl
/-! undo -/
def unK (S : Nat → Int32) (a j : Nat) : Nat → Int32 := fun i => if 1 ≤ i ∧ i < 1 + j then S (a + (i - 1)) else S i
theorem unK_s (S : Nat → Int32) {a j : Nat} : updN (unK S a j) (1 + j) (S (a + j)) = unK S a (j + 1) := by
  funext i
  unfold updN unK
  by_cases e : i = 1 + j
  · rw [if_pos e, if_pos (by omega), e, Nat.add_sub_cancel_left]
  · rw [if_neg e]
    by_cases q : 1 ≤ i ∧ i < 1 + j
    · rw [if_pos q, if_pos (by omega)]
    · rw [if_neg q, if_neg (by omega)]
theorem undo_loop {S Le As Oo : Nat → Int32} {M : Mx} {now : Nat} (hn : now < 8) (h40 : S 40 = nI now) : ∀ (t j f : Nat), j + t = 15 → t < f → m_X8_undo_26 f 0 (nI j) (mh (unK S (41 + 15 * now) j) Le As Oo M) = some (nI now, mh (unK S (41 + 15 * now) 15) Le As Oo M) := by
  intro t
  induction t with
  | zero =>
    intro j f hj hf
    obtain ⟨g, rfl⟩ := fuel_s hf
    obtain rfl : j = 15 := by omega
    unfold m_X8_undo_26
    rw [if_pos (by decide), g80, bsome, rS40, bsome, show unK S (41 + 15 * now) 15 40 = S 40 from if_neg (by omega), h40]
  | succ t ih =>
    intro j f hj hf
    obtain ⟨g, rfl⟩ := fuel_s hf
    unfold m_X8_undo_26
    rw [if_neg (show ¬ (15 : Int32) ≤ nI j from Lge 15 (by omega) (by decide)), g80, bsome, bsome, bsome, rS40, bsome, show unK S (41 + 15 * now) j 40 = S 40 from if_neg (by omega), h40, show (41 : Int32) + 15 * nI now + nI j = nI (41 + 15 * now + j) from by
      rw [show (15 : Int32) * nI now = nI (15 * now) from pk_mul 15 now, show (41 : Int32) + nI (15 * now) = nI (41 + 15 * now) from nI_add 41 _, nI_add], rS (by omega), bsome, show (1 : Int32) + nI j = nI (1 + j) from nI_add 1 j, wS (by omega), bsome, show unK S (41 + 15 * now) j (41 + 15 * now + j) = S (41 + 15 * now + j) from if_neg (by omega), unK_s, nI_1, ih (j + 1) g (by omega) (by omega)]
theorem sim_undo_ok : sim_undo RR := by
  intro hX hM h0
  have h1 := h0
  obtain ⟨s, k, kf, T, X, tr, gu, O, ch, S, Le, As, Oo, M, rfl, rfl, hS, hD⟩ := h1
  have gX := giveBack_ok (s := s) (k := k) (kf := kf) (T := T) (X := X) (tr := tr) (gu := gu) (O := O) (ch := ch)
  obtain ⟨⟨a1, a2, a3⟩, mB, wR, wB, hy, hk, h8, hx, hl⟩ := hS
  obtain ⟨R, B, kn, nx, L⟩ := s
  have o1 : R.1 ≤ 6 := wR.1.1
  have h8' : kn ≤ 8 := h8
  have hx' : nx < 8 := hx
  dsimp only at a1 a2 a3 mB wB hy hk hl gX
  by_cases q : kn = 0
  · refine ⟨-4, _, _, ?_, ?_, h0⟩
    · unfold m_X7_undo
      rw [c70, bsome, c12, bsome, cl1, bsome, if_pos (by rw [q]; rfl)]
    · unfold m_X8_undo
      rw [g80, bsome, rS40, bsome, hk, if_pos (by rw [q]; rfl)]
  · have hz : ¬ nI kn = (0 : Int32) := fun z => q ((nI_eq (b := 0) (by omega) (by decide)).mp z)
    obtain ⟨⟨c1, c2, c3, c4, c5⟩, w6, y6⟩ := hl (kn - 1) (by omega)
    rw [show (nx + 8 - kn + (kn - 1)) % 8 = (nx + 7) % 8 by omega] at c1 c2 c3 c4 c5 w6 y6
    have k6 : (L ((nx + 7) % 8)).2.2.1 ≤ 6 := w6.1.1
    have hu := undo_loop (S := updN S 40 (nI (kn - 1))) (Le := Le) (As := As) (Oo := Oo) (M := M) (now := kn - 1) (by omega) updN_s 15 0 1000 rfl (by decide)
    rw [show unK (updN S 40 (nI (kn - 1))) (41 + 15 * (kn - 1)) 0 = updN S 40 (nI (kn - 1)) from by funext i; exact if_neg (by omega)] at hu
    have hv : ∀ i, 1 ≤ i → i < 16 → unK (updN S 40 (nI (kn - 1))) (41 + 15 * (kn - 1)) 15 i = S (40 + 15 * (kn - 1) + i) := fun i g1 g2 => by
      unfold unK
      rw [if_pos (by omega), updN_n (by omega), show 41 + 15 * (kn - 1) + (i - 1) = 40 + 15 * (kn - 1) + i by omega]
    have hw : ∀ i, i = 0 ∨ (16 ≤ i ∧ i ≠ 40) → unK (updN S 40 (nI (kn - 1))) (41 + 15 * (kn - 1)) 15 i = S i := fun i g1 => by
      unfold unK
      rw [if_neg (by omega), updN_n (by omega)]
    refine ⟨nI (kn - 1), chp (R, L ((nx + 7) % 8), kn - 1, (nx + 7) % 8, L) k kf T X tr gu O ch, mh (unK (updN S 40 (nI (kn - 1))) (41 + 15 * (kn - 1)) 15) Le As Oo M, ?_, ?_, RR_mk ⟨⟨?_, fun m hm => ?_, fun m hm t ht => ?_⟩, ⟨?_, ?_, ?_, fun m hm => ?_, fun j hj => ?_⟩, wR, w6, y6, ?_, by show kn - 1 ≤ 8; omega, Nat.mod_lt _ (by decide), fun i hi => ?_⟩ hD⟩
    · unfold m_X7_undo
      rw [c70, bsome, c12, bsome, cl1, bsome, if_neg hz, bsome, c12, bsome, bsome, c11, bsome, clr, gX (by omega) h8' hx', bsome, c70, bsome, c12, bsome, cl1, bsome]
    · unfold m_X8_undo
      rw [g80, bsome, rS40, bsome, hk, if_neg hz, bsome, rS40, bsome, hk, show nI kn - 1 = nI (kn - 1) from pk_sub (b := 1) (by omega), wS40, bsome]
      exact hu
    · rw [hw _ (by omega)]; exact a1
    · have hm : m < R.1 := hm
      rw [hw _ (by omega)]; exact a2 m hm
    · have hm : m < R.1 := hm
      rw [hw _ (by omega)]; exact a3 m hm t ht
    · rw [hv 1 (by omega) (by omega)]; exact c1
    · rw [hv 2 (by omega) (by omega)]; exact c2
    · rw [hv 3 (by omega) (by omega)]; exact c3
    · have hm : m < R.1 := hm
      rw [hv (4 + m) (by omega) (by omega)]; exact c4 m hm
    · have hj : j < (L ((nx + 7) % 8)).2.2.1 := hj
      rw [hv (10 + j) (by omega) (by omega)]; exact c5 j hj
    · show unK (updN S 40 (nI (kn - 1))) (41 + 15 * (kn - 1)) 15 40 = nI (kn - 1)
      unfold unK
      rw [if_neg (by omega), updN_s]
    · have hi : i < kn - 1 := hi
      show LogE _ i R.1 (L (((nx + 7) % 8 + 8 - (kn - 1) + i) % 8))
      rw [show ((nx + 7) % 8 + 8 - (kn - 1) + i) % 8 = (nx + 8 - kn + i) % 8 by omega]
      exact logE_cong (fun q hq => hw q (by omega)) (hl i (by omega))
