/-! FILM -/
theorem cut_all : ∀ l, l < 100 → (nI l).toInt64.toInt32.toInt8.toInt32.toInt64 = (nI l).toInt64 ∧ (nI l).toInt64.toInt32.toInt16.toInt32.toInt64 = (nI l).toInt64 ∧ (nI l).toInt64.toInt32.toInt64 = (nI l).toInt64 := by decide +kernel
theorem cut_small {l : Nat} (h : l < 100) (lane : Int32) : cutS lane (nI l).toInt64 = (nI l).toInt64 := by
  obtain ⟨h1, h2, h3⟩ := cut_all l h
  unfold cutS
  split
  · exact h1
  · split
    · exact h2
    · split
      · exact h3
      · rfl
section FLM
variable {s k : St} {kf : Int32} {T : Tp} {gu : Rl} {O : Od} {ch : Nat → Nat} {S As Oo Im tp dr Sz Ln : Nat → Int32} {kp ty at_ : Int32} {Mv : Nat → Int64}
theorem film_loop (wR : Wr s.1) {m n a j : Nat} (hm : m < s.1.1) (hj : j < 4) : ∀ (t y f g : Nat) (S2 Le : Nat → Int32) (tr : Bn) (X : Nat → Sh) (It : Nat → Int64), y + t = n → t < f → t < g → frR S S2 s.1 tr → tr.2.2.2.1 + t < 100000 → (∀ q, q < 4 → shR1 (X q) q (Im, kp, tp, ty, dr, at_, It, Mv, Sz, Ln)) → (X j).1 = 1 → a + n ≤ (X j).2.2.1 → ∃ tr2 Le2 X2 It2, m_X7_film_86 f 0 (nI m) (nI n) (nI a) (100 + 2 * j) (nI y) (chp s k kf T X tr gu O ch) = some (nI n, chp s k kf T X2 tr2 gu O ch) ∧ m_X8_film_64 g 0 (nI m) (nI n) (nI j) (nI a) (nI y) (mh S2 Le (cpI S As 40) Oo (Im, kp, tp, ty, dr, at_, It, Mv, Sz, Ln)) = some (nI n, mh S Le2 (cpI S As 40) Oo (Im, kp, tp, ty, dr, at_, It2, Mv, Sz, Ln)) ∧ ∀ q, q < 4 → shR1 (X2 q) q (Im, kp, tp, ty, dr, at_, It2, Mv, Sz, Ln) := by
  have o1 := wR.1.1
  intro t
  induction t with
  | zero =>
    intro y f g S2 Le tr X It hy0 hf hg F hy hX hX1 hX2
    obtain ⟨f, rfl⟩ := fuel_s hf
    obtain ⟨g, rfl⟩ := fuel_s hg
    obtain rfl : y = n := by omega
    have l24 : (X j).2.2.1 ≤ 24 := (shR_len (hX j hj)).resolve_left (by rw [hX1]; decide)
    refine ⟨tr, Le, X, It, ?_, ?_, hX⟩
    · unfold m_X7_film_86
      rw [if_pos (nI_le (Nat.le_refl _) (by omega))]
    · unfold m_X8_film_64
      rw [if_pos (nI_le (Nat.le_refl _) (by omega)), g8r, lets_ok F.2.2.2, bsome]
  | succ t ih =>
    intro y f g S2 Le tr X It hy0 hf hg F hy hX hX1 hX2
    obtain ⟨f, rfl⟩ := fuel_s hf
    obtain ⟨g, rfl⟩ := fuel_s hg
    have l24 : (X j).2.2.1 ≤ 24 := (shR_len (hX j hj)).resolve_left (by rw [hX1]; decide)
    obtain ⟨S3, Le3, e, F3⟩ := frR_step (Le := Le) (As := cpI S As 40) (Oo := Oo) (M := (Im, kp, tp, ty, dr, at_, It, Mv, Sz, Ln)) wR F (by omega)
    have l100 := F3.2.2.1.1.2.2.2 m (by omega)
    have hX3 : ∀ q, q < 4 → shR1 (updN X j ((X j).1, (X j).2.1, (X j).2.2.1, updN (X j).2.2.2 (a + y) (nI ((yrB s.1.2.1 s.1.2.2.2 tr).1 m)).toInt64) q) q (Im, kp, tp, ty, dr, at_, updN It (24 * j + a + y) (nI ((yrB s.1.2.1 s.1.2.2.2 tr).1 m)).toInt64, Mv, Sz, Ln) := by
      rcases hX j hj with ⟨a1, a2, a3, a4, a5⟩ | ⟨a1, -⟩
      · refine shR_upd hX (Or.inl ⟨a1, a2, a3, a4, fun i hi => ?_⟩) (fun _ _ => rfl) (fun _ _ => rfl) (fun i hi => updN_n (by omega))
        show updN It (24 * j + a + y) _ (24 * j + i) = updN (X j).2.2.2 (a + y) _ i
        by_cases z : i = a + y
        · rw [z, updN_s, show 24 * j + (a + y) = 24 * j + a + y by omega, updN_s]
        · rw [updN_n z, updN_n (by omega)]
          exact a5 i hi
      · rw [hX1] at a1
        exact absurd a1 (by decide)
    obtain ⟨tr2, Le4, X2, It2, q1, q2, q3⟩ := ih (y + 1) f g S3 Le3 _ _ _ (by omega) (by omega) (by omega) F3 (show tr.2.2.2.1 + 1 + t < 100000 by omega) hX3 (by rw [updN_s]; exact hX1) (by rw [updN_s]; exact hX2)
    refine ⟨tr2, Le4, X2, It2, ?_, ?_, q3⟩
    · unfold m_X7_film_86
      rw [if_neg (nI_ge (by omega) (by omega)), c75, bsome, c70, bsome, c10, bsome, (cB86).rcv, tyr_ok wR F.2.2.1.1, bsome, c75, bsome, (cB86).g0, bsome, (cB86).al (by omega), bsome, sh_rcv hj, nI_add, put_ok hj (by omega) l24, bsome, cut_small l100, nI_1]
      exact q1
    · unfold m_X8_film_64
      rw [if_neg (nI_ge (by omega) (by omega)), g8r, e, bsome, g87, bsome, g80, bsome, ix4, rS (by omega), bsome, F3.2.1.2.2.2.1 m hm, ix24b, wIt (by omega), bsome, nI_1]
      exact q2
end FLM
theorem sim_film_ok : sim_film RR := by
  intro hX hM x1 x2 x3 x4 x5 h0
  have h1 := h0
  obtain ⟨s, k, kf, T, X, tr, gu, O, ch, S, Le, As, Oo, M, rfl, rfl, hS, hD⟩ := h1
  obtain ⟨Im, kp, tp, ty, dr, at_, It, Mv, Sz, Ln⟩ := M
  have AR := cR2 (s := s) (k := k) (kf := kf) (T := T) (X := X) (tr := tr) (gu := gu) (O := O) (ch := ch)
  have o1 := hS.2.2.1.1.1
  have hy := hS.2.2.2.2.1
  rcases man_or x1 o1 with e1 | ⟨m, hm, rfl, e1⟩
  · refine ⟨-1, _, _, ?_, ?_, h0⟩
    · unfold m_X7_film
      rw [c70, bsome, c10, bsome, AR.rcv, has_ok3 AR, bsome, e1]
      rfl
    · unfold m_X8_film
      rw [g8r, isMan_ok hS.1, bsome, e1]
      rfl
  · rcases inB_or x2 (lo := 1) (hi := 24) 1 24 rfl rfl (by decide) (by decide) with e2 | ⟨n, n1, n2, rfl, e2⟩
    · refine ⟨-1, _, _, ?_, ?_, h0⟩
      · unfold m_X7_film
        rw [c70, bsome, c10, bsome, AR.rcv, has_ok3 AR, bsome, e1, if_neg one_ne, within_ok, bsome, e2]
        rfl
      · unfold m_X8_film
        rw [g8r, isMan_ok hS.1, bsome, e1, if_neg one_ne, in_ok, bsome, e2]
        rfl
    · rcases inB_or x3 (lo := 0) (hi := 3) 0 3 rfl rfl (by decide) (by decide) with e3 | ⟨j, -, hj, rfl, e3⟩
      · refine ⟨-1, _, _, ?_, ?_, h0⟩
        · unfold m_X7_film
          rw [c70, bsome, c10, bsome, AR.rcv, has_ok3 AR, bsome, e1, if_neg one_ne, within_ok, bsome, e2, if_neg one_ne, isSheet_ok, bsome, e3]
          rfl
        · unfold m_X8_film
          rw [g8r, isMan_ok hS.1, bsome, e1, if_neg one_ne, in_ok, bsome, e2, if_neg one_ne, isSheet8_ok, bsome, e3]
          rfl
      · rcases inB_01 x4 0 3 with e4 | e4
        · refine ⟨-1, _, _, ?_, ?_, h0⟩
          · unfold m_X7_film
            rw [c70, bsome, c10, bsome, AR.rcv, has_ok3 AR, bsome, e1, if_neg one_ne, within_ok, bsome, e2, if_neg one_ne, isSheet_ok, bsome, e3, if_neg one_ne, isLane_ok, bsome, e4]
            rfl
          · unfold m_X8_film
            rw [g8r, isMan_ok hS.1, bsome, e1, if_neg one_ne, in_ok, bsome, e2, if_neg one_ne, isSheet8_ok, bsome, e3, if_neg one_ne, in_ok, bsome, e4]
            rfl
        · have hj4 : j < 4 := by omega
          have hs := hD.2.2.2 j hj4
          rcases rfS_or (shR_len hs) x4 x5 (nI n) with q | ⟨q, q1, q2, a, b, rfl, hb, q3⟩
          · refine ⟨rfS (X j) x4 x5 (nI n), _, _, ?_, ?_, h0⟩
            · unfold m_X7_film
              rw [c70, bsome, c10, bsome, AR.rcv, has_ok3 AR, bsome, e1, if_neg one_ne, within_ok, bsome, e2, if_neg one_ne, isSheet_ok, bsome, e3, if_neg one_ne, isLane_ok, bsome, e4, if_neg one_ne, c74, bsome, sh_ar hj4, bsome, sh_rcv hj4, refusal_ok hj4, bsome, if_neg q]
            · unfold m_X8_film
              rw [g8r, isMan_ok hS.1, bsome, e1, if_neg one_ne, in_ok, bsome, e2, if_neg one_ne, isSheet8_ok, bsome, e3, if_neg one_ne, in_ok, bsome, e4, if_neg one_ne, g8r, barred_ok hj4 hs, bsome, if_neg q]
          · have l24 : (X j).2.2.1 ≤ 24 := (shR_len hs).resolve_left q1
            obtain rfl : n = b := (nI_eq (by omega) (by omega)).mp hb
            have x1 : (X j).1 = 1 := by
              rcases hs with ⟨a1, -⟩ | ⟨a1, -⟩
              · exact a1
              · exact absurd a1 q1
            obtain ⟨tr2, Le2, X2, It2, w1, w2, w3⟩ := film_loop (k := k) (kf := kf) (T := T) (gu := gu) (O := O) (ch := ch) (As := As) (Oo := Oo) hS.2.2.1 (n := n) (a := a) hm hj4 n 0 1000 1000 S Le s.2.1 X It (by omega) (by omega) (by omega) (frR_0 hS) (by omega) hD.2.2.2 x1 q3
            refine ⟨nI n, chp s k kf T X2 tr2 gu O ch, mh S Le2 (cpI S As 40) Oo (Im, kp, tp, ty, dr, at_, It2, Mv, Sz, Ln), ?_, ?_, RR_mk hS ⟨hD.1, hD.2.1, hD.2.2.1, w3⟩⟩
            · unfold m_X7_film
              rw [c70, bsome, c10, bsome, AR.rcv, has_ok3 AR, bsome, e1, if_neg one_ne, within_ok, bsome, e2, if_neg one_ne, isSheet_ok, bsome, e3, if_neg one_ne, isLane_ok, bsome, e4, if_neg one_ne, c74, bsome, sh_ar hj4, bsome, sh_rcv hj4, refusal_ok hj4, bsome, if_pos q, c75, bsome, c70, bsome, c11, bsome, (cB86).rcv, takeFrom_ok (by omega) cB9 cB86, bsome, sB86]
              exact w1
            · unfold m_X8_film
              rw [g8r, isMan_ok hS.1, bsome, e1, if_neg one_ne, in_ok, bsome, e2, if_neg one_ne, isSheet8_ok, bsome, e3, if_neg one_ne, in_ok, bsome, e4, if_neg one_ne, g8r, barred_ok hj4 hs, bsome, if_pos q, g8r, holds8_ok, bsome]
              exact w2
