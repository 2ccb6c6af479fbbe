/-! of, man, stood, type -/
section ATC
variable {s k : St} {kf : Int32} {T : Tp} {X : Nat → Sh} {tr : Bn} {gu : Rl} {O : Od} {ch : Nat → Nat}
theorem ct0 : bb_gR (chp s k kf T X tr gu O ch) 75 6 0 = some 76 := rfl
theorem ct1 : bb_gI (chp s k kf T X tr gu O ch) 75 6 1 = some (nI T.2.1) := rfl
theorem ct2 : bb_gR (chp s k kf T X tr gu O ch) 75 6 2 = some 77 := rfl
theorem ct3 : bb_gR (chp s k kf T X tr gu O ch) 75 6 3 = some 84 := rfl
theorem ct4 : bb_gI (chp s k kf T X tr gu O ch) 75 6 4 = some (nI T.2.2.2.2.1) := rfl
theorem ct5 : bb_gI (chp s k kf T X tr gu O ch) 75 6 5 = some T.2.2.2.2.2 := rfl
theorem ctr {α : Type} {x : Option α} : bb_rcv (chp s k kf T X tr gu O ch) 75 6 x = x := rfl
theorem pt1 (x : Nat) : bb_pI (chp s k kf T X tr gu O ch) 75 6 1 (nI x) = some (chp s k kf (T.1, x, T.2.2) X tr gu O ch) := rfl
theorem pt4 (x : Nat) : bb_pI (chp s k kf T X tr gu O ch) 75 6 4 (nI x) = some (chp s k kf (T.1, T.2.1, T.2.2.1, T.2.2.2.1, x, T.2.2.2.2.2) X tr gu O ch) := rfl
theorem pt5 (x : Int32) : bb_pI (chp s k kf T X tr gu O ch) 75 6 5 x = some (chp s k kf (T.1, T.2.1, T.2.2.1, T.2.2.2.1, T.2.2.2.2.1, x) X tr gu O ch) := rfl
theorem rt {i : Nat} (hi : i < 70) : bb_aI (chp s k kf T X tr gu O ch) 76 .char (nI i) = some (nI (T.1 i)) := aI_of (h := chp s k kf T X tr gu O ch) (f := nF T.1) rfl hi (by decide)
theorem wt {i : Nat} (hi : i < 70) (x : Nat) : bb_sV (chp s k kf T X tr gu O ch) 76 .char (nI i) (.int (nI x)) = some (chp s k kf (updN T.1 i x, T.2) X tr gu O ch) := by
  rw [sI_of (h := chp s k kf T X tr gu O ch) (f := nF T.1) (n := 70) rfl hi (by decide), updN_nF]
  rfl
theorem rtl {i : Nat} (hi : i < 6) : bb_aI (chp s k kf T X tr gu O ch) 84 .int (nI i) = some (nI (T.2.2.2.1 i)) := aI_of (h := chp s k kf T X tr gu O ch) (f := nF T.2.2.2.1) rfl hi (by decide)
theorem wtl {i : Nat} (hi : i < 6) (x : Nat) : bb_sV (chp s k kf T X tr gu O ch) 84 .int (nI i) (.int (nI x)) = some (chp s k kf (T.1, T.2.1, T.2.2.1, updN T.2.2.2.1 i x, T.2.2.2.2) X tr gu O ch) := by
  rw [sI_of (h := chp s k kf T X tr gu O ch) (f := nF T.2.2.2.1) (n := 6) rfl hi (by decide), updN_nF]
  rfl
theorem atl : (chp s k kf T X tr gu O ch)[84]? = some (.inl .int, fnI 6 (nF T.2.2.2.1)) := rfl
end ATC
theorem sim_type_ok : sim_type RR := by
  intro hX hM x h0
  have h1 := h0
  obtain ⟨s, k, kf, T, X, tr, gu, O, ch, S, Le, As, Oo, M, rfl, rfl, hS, hD⟩ := h1
  rcases inB_or x (lo := 32) (hi := 126) 32 126 rfl rfl (by decide) (by decide) with e | ⟨j, j1, j2, rfl, e⟩
  · refine ⟨-1, _, _, ?_, ?_, h0⟩
    · unfold m_X7_type
      rw [within_ok, bsome, e]
      rfl
    · unfold m_X8_type
      rw [in_ok, bsome, e]
      rfl
  · obtain ⟨d1, d2, ⟨t1, t2, t3, t4⟩, d4⟩ := hD
    by_cases q : T.2.1 = 70
    · refine ⟨-3, _, _, ?_, ?_, h0⟩
      · unfold m_X7_type
        rw [within_ok, bsome, e, if_neg one_ne, c73, bsome, ct1, bsome, q]
        rfl
      · unfold m_X8_type
        rw [in_ok, bsome, e, if_neg one_ne, g84, bsome, t1, q]
        rfl
    · refine ⟨nI (T.2.1 + 1), chp s k kf (updN T.1 T.2.1 j, T.2.1 + 1, T.2.2) X tr gu O ch, mh S Le As Oo (M.1, M.2.1, updN M.2.2.1 T.2.1 (nI j), nI (T.2.1 + 1), M.2.2.2.2), ?_, ?_, RR_mk hS ⟨d1, d2, ⟨rfl, by show T.2.1 + 1 ≤ 70; omega, fun i hi => ?_, t4⟩, d4⟩⟩
      · unfold m_X7_type m_X6_add m_X6_add_29
        rw [within_ok, bsome, e, if_neg one_ne, c73, bsome, ct1, bsome, if_pos (show nI T.2.1 < (70 : Int32) from nI_lt (b := 70) (by omega) (by decide)), bsome, ctr, ct1, bsome, if_neg (show ¬ (70 : Int32) ≤ nI T.2.1 from Lge 70 (by omega) (by decide)), ct0, bsome, bsome, pk_vc, pk_char, pk_tn (by omega), Nat.mod_eq_of_lt (by omega), wt (by omega), bsome, ct1, bsome]
        dsimp only
        rw [nI_1, pt1, bsome, bsome, c73, bsome, ct1, bsome]
      · unfold m_X8_type
        rw [in_ok, bsome, e, if_neg one_ne, g84, bsome, t1, if_neg (show ¬ nI T.2.1 = (70 : Int32) from fun z => q ((nI_eq (b := 70) (by omega) (by decide)).mp z)), g83, bsome, bsome]
        rw [show bb_sV (mh S Le As Oo M) 3 .int (nI T.2.1) (.int (nI j)) = some (mh S Le As Oo (M.1, M.2.1, updN M.2.2.1 T.2.1 (nI j), M.2.2.2)) from (sI_of (h := mh S Le As Oo M) (n := 70) rfl (by omega) (by decide)).trans rfl, bsome, g84, bsome]
        dsimp only
        rw [t1, nI_1]
        rfl
      · show updN M.2.2.1 T.2.1 (nI j) i = nI (updN T.1 T.2.1 j i) ∧ 32 ≤ updN T.1 T.2.1 j i ∧ updN T.1 T.2.1 j i ≤ 126
        have hi2 : i < T.2.1 + 1 := hi
        by_cases z : i = T.2.1
        · rw [z, updN_s, updN_s]
          exact ⟨rfl, j1, j2⟩
        · rw [updN_n z, updN_n z]
          exact t3 i (by omega)
theorem upd2_lt {pl : Nat → Nat → Nat} {t m p u q b : Nat} (h1 : pl u q < b) (h2 : p < b) : updN pl t (updN (pl t) m p) u q < b := by
  by_cases c : u = t
  · subst c
    rw [updN_s]
    by_cases c2 : q = m
    · subst c2
      rw [updN_s]
      exact h2
    · rw [updN_n c2]
      exact h1
  · rw [updN_n c]
    exact h1
theorem sim_stood_ok : sim_stood RR := by
  intro hX hM x1 x2 x3 h0
  have h1 := h0
  obtain ⟨s, k, kf, T, X, tr, gu, O, ch, S, Le, As, Oo, M, rfl, rfl, hS, hD⟩ := h1
  have AR := cR2 (s := s) (k := k) (kf := kf) (T := T) (X := X) (tr := tr) (gu := gu) (O := O) (ch := ch)
  obtain ⟨mR, mB, wR, wB, hy, hk, h8, hx, hl⟩ := hS
  obtain ⟨⟨n, kd, pl, sb⟩, B, kn, nx, L⟩ := s
  have o1 : n ≤ 6 := wR.1.1
  rcases man_or x1 o1 with e1 | ⟨m, hm, rfl, e1⟩
  · refine ⟨-1, _, _, ?_, ?_, h0⟩
    · unfold m_X7_stood
      rw [c70, bsome, c10, bsome, AR.rcv, has_ok3 AR, bsome, e1]
      rfl
    · unfold m_X8_stood
      rw [g8r, isMan_ok mR, bsome, e1]
      rfl
  · rcases inB_or x2 (lo := 0) (hi := 2) 0 2 rfl rfl (by decide) (by decide) with e2 | ⟨t, -, ht, rfl, e2⟩
    · refine ⟨-1, _, _, ?_, ?_, h0⟩
      · unfold m_X7_stood m_X7_isHour
        rw [c70, bsome, c10, bsome, AR.rcv, has_ok3 AR, bsome, e1, if_neg one_ne, within_ok, bsome, rz_in, bsome, e2]
        rfl
      · unfold m_X8_stood
        rw [g8r, isMan_ok mR, bsome, e1, if_neg one_ne, in_ok, bsome, e2]
        rfl
    · rcases inB_or x3 (lo := 0) (hi := 9) 0 9 rfl rfl (by decide) (by decide) with e3 | ⟨p, -, hp, rfl, e3⟩
      · refine ⟨-1, _, _, ?_, ?_, h0⟩
        · unfold m_X7_stood m_X7_isHour
          rw [c70, bsome, c10, bsome, AR.rcv, has_ok3 AR, bsome, e1, if_neg one_ne, within_ok, bsome, rz_in, bsome, e2, if_neg one_ne, within_ok, bsome, e3]
          rfl
        · unfold m_X8_stood
          rw [g8r, isMan_ok mR, bsome, e1, if_neg one_ne, in_ok, bsome, e2, if_neg one_ne, in_ok, bsome, e3]
          rfl
      · have ht3 : t < 3 := by omega
        have cX : m_X7_stood 0 (nI m) (nI t) (nI p) (chp ((n, kd, pl, sb), B, kn, nx, L) k kf T X tr gu O ch) = if takN pl n t p then some (-2, chp ((n, kd, pl, sb), B, kn, nx, L) k kf T X tr gu O ch) else some (nI (pl t m), chp ((n, kd, updN pl t (updN (pl t) m p), sbF n (updN pl t (updN (pl t) m p)) sb n), B, kn, nx, L) k kf T X tr gu O ch) := by
          unfold m_X7_stood m_X7_isHour
          rw [c70, bsome, c10, bsome, AR.rcv, has_ok3 AR, bsome, e1, if_neg one_ne, within_ok, bsome, rz_in, bsome, e2, if_neg one_ne, within_ok, bsome, e3, if_neg one_ne, AR.rcv, isTaken_ok AR o1 (okR_lt wR.1) ht3 (by omega), bsome]
          dsimp only
          rw [ite_b]
          cases takN pl n t p with
          | true => rfl
          | false =>
            rw [if_neg (by decide), if_neg (by decide), AR.g2, bsome, AR.ar ht3, bsome, AR.ap ht3 (by omega), bsome, bsome, AR.ar ht3, bsome, AR.wp ht3 (by omega), bsome]
            have A1 := AR.set (n, kd, updN pl t (updN (pl t) m p), sb)
            rw [A1.rcv, find_ok A1 o1 (fun t' h1 m' h2 => upd2_lt (Nat.lt_trans (wR.1.2.2.1 t' h1 m' h2) (by decide)) (by omega)), bsome, rlSet_rl AR.len, sR2]
        have cM : m_X8_stood 0 (nI m) (nI t) (nI p) (mh S Le As Oo M) = if takN pl n t p then some (-2, mh S Le As Oo M) else some (nI (pl t m), mh (updN S (22 + 3 * m + t) (nI p)) Le As Oo M) := by
          unfold m_X8_stood
          rw [g8r, isMan_ok mR, bsome, e1, if_neg one_ne, in_ok, bsome, e2, if_neg one_ne, in_ok, bsome, e3, if_neg one_ne, g8r, isTaken8_ok mR wR.1 ht3 (by omega), bsome]
          dsimp only
          rw [ite_b]
          cases takN pl n t p with
          | true => rfl
          | false =>
            rw [if_neg (by decide), if_neg (by decide), g80, bsome, ix22, rS (by omega), bsome, bsome, wS (by omega), bsome, mR.2.2 m hm t ht3]
        rw [cX, cM]
        cases takN pl n t p with
        | true => exact ⟨-2, _, _, rfl, rfl, h0⟩
        | false =>
          refine ⟨_, _, _, rfl, rfl, RR_mk ⟨⟨?_, fun q hq => ?_, fun q hq u hu => ?_⟩, ⟨?_, ?_, ?_, fun q hq => ?_, fun q hq => ?_⟩, ⟨⟨o1, wR.1.2.1, fun u hu q hq => ?_, fun q hq => ?_⟩, fun q hq => ?_⟩, wB, hy, ?_, h8, hx, fun i hi => logE_cong (fun q hq => updN_n (by omega)) (hl i hi)⟩ hD⟩
          · rw [updN_n (by omega)]; exact mR.1
          · have hq : q < n := hq
            rw [updN_n (by omega)]; exact mR.2.1 q hq
          · have hq : q < n := hq
            show updN S (22 + 3 * m + t) (nI p) (22 + 3 * q + u) = nI (updN pl t (updN (pl t) m p) u q)
            by_cases c1 : u = t
            · subst c1
              rw [updN_s]
              by_cases c2 : q = m
              · subst c2
                rw [updN_s, updN_s]
              · rw [updN_n (by omega), updN_n c2]
                exact mR.2.2 q hq u hu
            · rw [updN_n (by omega), updN_n c1]
              exact mR.2.2 q hq u hu
          · rw [updN_n (by omega)]; exact mB.1
          · rw [updN_n (by omega)]; exact mB.2.1
          · rw [updN_n (by omega)]; exact mB.2.2.1
          · have hq : q < n := hq
            rw [updN_n (by omega)]; exact mB.2.2.2.1 q hq
          · have hq : q < B.2.2.1 := hq
            have : B.2.2.1 ≤ 6 := wB.1.1
            rw [updN_n (by omega)]; exact mB.2.2.2.2 q hq
          · show updN pl t (updN (pl t) m p) u q < 10
            exact upd2_lt (wR.1.2.2.1 u hu q hq) (by omega)
          · show sbF n _ sb n q < 64
            unfold sbF
            split
            · exact sbN_lt o1
            · exact wR.1.2.2.2 q hq
          · show sbF n _ sb n q = _
            unfold sbF
            rw [if_pos hq]
          · rw [updN_n (by omega)]; exact hk
theorem sim_of_ok : sim_of RR := by
  intro hX hM x1 x2 h0
  have h1 := h0
  obtain ⟨s, k, kf, T, X, tr, gu, O, ch, S, Le, As, Oo, M, rfl, rfl, hS, hD⟩ := h1
  have A := cB9 (s := s) (k := k) (kf := kf) (T := T) (X := X) (tr := tr) (gu := gu) (O := O) (ch := ch)
  have AR := cR2 (s := s) (k := k) (kf := kf) (T := T) (X := X) (tr := tr) (gu := gu) (O := O) (ch := ch)
  obtain ⟨mR, mB, wR, wB, hy, hk, h8, hx, hl⟩ := hS
  obtain ⟨⟨n, kd, pl, sb⟩, ⟨lv, sv, k0, y, d⟩, kn, nx, L⟩ := s
  have o1 : n ≤ 6 := wR.1.1
  have k6 : k0 ≤ 6 := wB.1.1
  have w2 : ∀ i, i < k0 → sv i < 6 := wB.1.2.2.1
  have y0 : y < 100000 := wB.1.2.1
  rcases man_or x1 o1 with e1 | ⟨m, hm, rfl, e1⟩
  · refine ⟨-1, _, _, ?_, ?_, h0⟩
    · unfold m_X7_of
      rw [c70, bsome, c10, bsome, AR.rcv, has_ok3 AR, bsome, e1]
      rfl
    · unfold m_X8_of
      rw [g8r, isMan_ok mR, bsome, e1]
      rfl
  · have hm6 : m < 6 := by omega
    have fX : ∀ x2, m_X7_of 0 (nI m) x2 (chp ((n, kd, pl, sb), (lv, sv, k0, y, d), kn, nx, L) k kf T X tr gu O ch) = _ := fun x2 => by
      unfold m_X7_of
      rw [c70, bsome, c10, bsome, AR.rcv, has_ok3 AR, bsome, e1, if_neg one_ne, c70, bsome, c11, bsome]
    rcases inB_or x2 (lo := 0) (hi := 8) 0 8 rfl rfl (by decide) (by decide) with e2 | ⟨j, -, hj, rfl, e2⟩
    · have ne : ∀ j, j ≤ 8 → ¬ x2 = nI j := fun j hj z => by
        subst z
        have : inB (nI j) 0 8 = 1 := by
          unfold inB
          rw [if_neg (nI_pos (by omega)), if_neg (show ¬ (8 : Int32) < nI j from nI_nlt (a := 8) hj (by decide))]
        rw [this] at e2
        exact one_ne e2
      refine ⟨-1, _, _, ?_, ?_, h0⟩
      · rw [fX, if_neg (show ¬ x2 = (0 : Int32) from ne 0 (by decide)), if_neg (show ¬ x2 = (1 : Int32) from ne 1 (by decide)), if_neg (show ¬ x2 = (2 : Int32) from ne 2 (by decide)), if_neg (show ¬ x2 = (3 : Int32) from ne 3 (by decide)), if_neg (show ¬ x2 = (4 : Int32) from ne 4 (by decide)), if_neg (show ¬ x2 = (5 : Int32) from ne 5 (by decide)), if_neg (show ¬ x2 = (6 : Int32) from ne 6 (by decide)), if_neg (show ¬ x2 = (7 : Int32) from ne 7 (by decide)), if_neg (show ¬ x2 = (8 : Int32) from ne 8 (by decide))]
      · unfold m_X8_of
        rw [g8r, isMan_ok mR, bsome, e1, if_neg one_ne, in_ok, bsome, e2]
        rfl
    · have fM : ∀ z : Unit, m_X8_of 0 (nI m) (nI j) (mh S Le As Oo M) = _ := fun z => by
        unfold m_X8_of
        rw [g8r, isMan_ok mR, bsome, e1, if_neg one_ne, in_ok, bsome, e2, if_neg one_ne]
      rw [fX, fM ()]
      clear fX fM
      rcases (show j = 0 ∨ j = 1 ∨ j = 2 ∨ j = 3 ∨ j = 4 ∨ j = 5 ∨ j = 6 ∨ j = 7 ∨ j = 8 by omega) with rfl | rfl | rfl | rfl | rfl | rfl | rfl | rfl | rfl
      · refine ⟨nI (kd m), _, _, ?_, ?_, h0⟩
        · rw [if_pos (by decide), AR.g1, bsome, AR.ak hm6, bsome]
        · rw [if_pos (by decide), g80, bsome, ix16, rS (by omega), bsome, mR.2.1 m hm]
      · refine ⟨nI (lv m), _, _, ?_, ?_, h0⟩
        · rw [if_neg (by decide), if_pos (by decide), A.g0, bsome, A.al hm6, bsome]
        · rw [if_neg (by decide), if_pos (by decide), g80, bsome, ix4, rS (by omega), bsome, mB.2.2.2.1 m hm]
      · refine ⟨sp_seat sv m 0 k0, _, _, ?_, ?_, h0⟩
        · rw [if_neg (by decide), if_neg (by decide), if_pos (by decide), A.rcv, seatOf_ok A k6 w2 hm6, bsome]
        · rw [if_neg (by decide), if_neg (by decide), if_pos (by decide), g8r, seatOf8_ok mB wB o1 hm6, bsome]
      · refine ⟨nI (pl 0 m), _, _, ?_, ?_, h0⟩
        · rw [if_neg (by decide), if_neg (by decide), if_neg (by decide), if_pos (by decide)]
          unfold m_X7_of_102
          rw [AR.g2, bsome, show nI 3 - 3 = nI 0 from by decide, AR.ar (by decide), bsome, AR.ap (by decide) hm6, bsome]
        · rw [if_neg (by decide), if_neg (by decide), if_neg (by decide), if_pos (by decide)]
          unfold m_X8_of_129
          rw [g80, bsome, ix22, show nI (22 + 3 * m + 3) - 3 = nI (22 + 3 * m + 0) from pk_sub (a := 22 + 3 * m + 3) (b := 3) (by omega), rS (by omega), bsome, mR.2.2 m hm 0 (by decide)]
      · refine ⟨nI (pl 1 m), _, _, ?_, ?_, h0⟩
        · rw [if_neg (by decide), if_neg (by decide), if_neg (by decide), if_neg (by decide), if_pos (by decide)]
          unfold m_X7_of_102
          rw [AR.g2, bsome, show nI 4 - 3 = nI 1 from by decide, AR.ar (by decide), bsome, AR.ap (by decide) hm6, bsome]
        · rw [if_neg (by decide), if_neg (by decide), if_neg (by decide), if_neg (by decide), if_pos (by decide)]
          unfold m_X8_of_129
          rw [g80, bsome, ix22, show nI (22 + 3 * m + 4) - 3 = nI (22 + 3 * m + 1) from pk_sub (a := 22 + 3 * m + 4) (b := 3) (by omega), rS (by omega), bsome, mR.2.2 m hm 1 (by decide)]
      · refine ⟨nI (pl 2 m), _, _, ?_, ?_, h0⟩
        · rw [if_neg (by decide), if_neg (by decide), if_neg (by decide), if_neg (by decide), if_neg (by decide), if_pos (by decide)]
          unfold m_X7_of_102
          rw [AR.g2, bsome, show nI 5 - 3 = nI 2 from by decide, AR.ar (by decide), bsome, AR.ap (by decide) hm6, bsome]
        · rw [if_neg (by decide), if_neg (by decide), if_neg (by decide), if_neg (by decide), if_neg (by decide), if_pos (by decide)]
          unfold m_X8_of_129
          rw [g80, bsome, ix22, show nI (22 + 3 * m + 5) - 3 = nI (22 + 3 * m + 2) from pk_sub (a := 22 + 3 * m + 5) (b := 3) (by omega), rS (by omega), bsome, mR.2.2 m hm 2 (by decide)]
      · refine ⟨nI (sb m), _, _, ?_, ?_, h0⟩
        · rw [if_neg (by decide), if_neg (by decide), if_neg (by decide), if_neg (by decide), if_neg (by decide), if_neg (by decide), if_pos (by decide), AR.g3, bsome, AR.ab hm6, bsome]
        · rw [if_neg (by decide), if_neg (by decide), if_neg (by decide), if_neg (by decide), if_neg (by decide), if_neg (by decide), if_pos (by decide), g8r, allStood_ok mR wR.1 hm, bsome, show sb m = sbN n pl m from wR.2 m hm]
      · rcases seat_or sv m k0 with ⟨i, i1, i2, i3, i4⟩ | ⟨i1, i2⟩
        · refine ⟨nI (setO (bfO sv i) ||| setO (afO sv k0 i)), _, _, ?_, ?_, h0⟩
          · rw [if_neg (by decide), if_neg (by decide), if_neg (by decide), if_neg (by decide), if_neg (by decide), if_neg (by decide), if_neg (by decide), if_pos (by decide), A.rcv, whoSitsBy_in A k6 w2 hm6 i1 i4, bsome]
          · rw [if_neg (by decide), if_neg (by decide), if_neg (by decide), if_neg (by decide), if_neg (by decide), if_neg (by decide), if_neg (by decide), if_pos (by decide), g8r, allSit_in mB wB o1 hm6 i1 i4, bsome]
        · refine ⟨0, _, _, ?_, ?_, h0⟩
          · rw [if_neg (by decide), if_neg (by decide), if_neg (by decide), if_neg (by decide), if_neg (by decide), if_neg (by decide), if_neg (by decide), if_pos (by decide), A.rcv, whoSitsBy_out A k6 w2 hm6 i2, bsome]
          · rw [if_neg (by decide), if_neg (by decide), if_neg (by decide), if_neg (by decide), if_neg (by decide), if_neg (by decide), if_neg (by decide), if_pos (by decide), g8r, allSit_out mB wB o1 hm6 i2, bsome]
      · rcases seat_or sv m k0 with ⟨i, i1, i2, i3, i4⟩ | ⟨i1, i2⟩
        · refine ⟨nI (lossN kd sb y m (bfO sv i) (afO sv k0 i)), _, _, ?_, ?_, h0⟩
          · rw [if_neg (by decide), if_neg (by decide), if_neg (by decide), if_neg (by decide), if_neg (by decide), if_neg (by decide), if_neg (by decide), if_neg (by decide), if_pos (by decide), A.rcv, bnLoss_in A AR k6 (by omega) w2 hm6 (wR.1.2.1 m hm6) (wR.1.2.2.2 m hm6) i1 i4, bsome]
          · subst i2
            rw [if_neg (by decide), if_neg (by decide), if_neg (by decide), if_neg (by decide), if_neg (by decide), if_neg (by decide), if_neg (by decide), if_neg (by decide), if_pos (by decide), g8r, seatOf8_ok mB wB o1 hm6, bsome, show sp_seat _ _ 0 _ = _ from i4]
            dsimp only
            rw [if_neg (nI_m4 (by omega)), g8r, fails_ok mR mB wR wB i1, bsome]
            rfl
        · refine ⟨0, _, _, ?_, ?_, h0⟩
          · rw [if_neg (by decide), if_neg (by decide), if_neg (by decide), if_neg (by decide), if_neg (by decide), if_neg (by decide), if_neg (by decide), if_neg (by decide), if_pos (by decide), A.rcv, bnLoss_out A k6 w2 hm6 i2, bsome]
          · rw [if_neg (by decide), if_neg (by decide), if_neg (by decide), if_neg (by decide), if_neg (by decide), if_neg (by decide), if_neg (by decide), if_neg (by decide), if_pos (by decide), g8r, seatOf8_ok mB wB o1 hm6, bsome, show sp_seat _ _ 0 _ = _ from i2]
            rfl
