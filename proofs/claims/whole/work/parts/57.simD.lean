/-! man; image, restore; what is foretold -/
theorem man89_step {S Le As Oo : Nat → Int32} {M : Mx} {n t f : Nat} (hn : n < 6) (ht : t < 3) : m_X8_man_89 (f + 1) 0 (nI n) (nI t) (mh S Le As Oo M) = m_X8_man_89 f 0 (nI n) (nI (t + 1)) (mh (updN S (22 + 3 * n + t) (nI n)) Le As Oo M) := by
  conv => lhs; unfold m_X8_man_89
  rw [if_neg (show ¬ (3 : Int32) ≤ nI t from Lge 3 ht (by decide)), g80, bsome, ix22, wS (by omega), bsome, nI_1]
theorem man89_ok {S Le As Oo : Nat → Int32} {M : Mx} {n k0 : Nat} (hn : n < 6) (hk : k0 < 6) (h0 : S 0 = nI n) (h1 : S 1 = nI k0) : m_X8_man_89 1000 0 (nI n) 0 (mh S Le As Oo M) = some (nI n, mh (updN (updN (updN (updN (updN (updN (updN S (22 + 3 * n + 0) (nI n)) (22 + 3 * n + 1) (nI n)) (22 + 3 * n + 2) (nI n)) (10 + k0) (nI n)) 1 (nI (k0 + 1))) 0 (nI (n + 1))) 40 0) Le As Oo M) := by
  show m_X8_man_89 (999 + 1) 0 (nI n) (nI 0) (mh S Le As Oo M) = _
  rw [man89_step hn (by decide), show (999 : Nat) = 998 + 1 from rfl, man89_step hn (by decide), show (998 : Nat) = 997 + 1 from rfl, man89_step hn (by decide), show (997 : Nat) = 996 + 1 from rfl]
  unfold m_X8_man_89
  rw [if_pos (by decide), g80, bsome, bsome, rS1, bsome, updN_n (by omega), updN_n (by omega), updN_n (by omega), h1, ix10, wS (by omega), bsome, g80, bsome, rS1, bsome, updN_n (by omega), updN_n (by omega), updN_n (by omega), updN_n (by omega), h1, nI_1, wS1, bsome, g80, bsome, rS0, bsome, updN_n (by omega), updN_n (by omega), updN_n (by omega), updN_n (by omega), updN_n (by omega), h0, nI_1, wS0, bsome, g80, bsome, wS40, bsome]
theorem sim_man_ok : sim_man RR := by
  intro hX hM x1 x2 h0
  have h1 := h0
  obtain ⟨s, k, kf, T, X, tr, gu, O, ch, S, Le, As, Oo, M, rfl, rfl, hS, hD⟩ := h1
  have AR := cR2 (s := s) (k := k) (kf := kf) (T := T) (X := X) (tr := tr) (gu := gu) (O := O) (ch := ch)
  obtain ⟨mR, mB, wR, wB, hy, hk, h8, hx, hl⟩ := hS
  obtain ⟨⟨n, kd, pl, sb⟩, ⟨lv, sv, k0, y, d⟩, kn, nx, L⟩ := s
  have o1 : n ≤ 6 := wR.1.1
  have k6 : k0 ≤ n := wB.2.1
  rcases inB_or x1 (lo := 0) (hi := 4) 0 4 rfl rfl (by decide) (by decide) with e1 | ⟨c, -, hc, rfl, e1⟩
  · refine ⟨-1, _, _, ?_, ?_, h0⟩
    · unfold m_X7_man
      rw [within_ok, bsome, e1]
      rfl
    · unfold m_X8_man
      rw [in_ok, bsome, e1]
      rfl
  · rcases inB_or x2 (lo := 1) (hi := 60) 1 60 rfl rfl (by decide) (by decide) with e2 | ⟨l, l1, l2, rfl, e2⟩
    · refine ⟨-1, _, _, ?_, ?_, h0⟩
      · unfold m_X7_man
        rw [within_ok, bsome, e1, if_neg one_ne, within_ok, bsome, e2]
        rfl
      · unfold m_X8_man
        rw [in_ok, bsome, e1, if_neg one_ne, in_ok, bsome, e2]
        rfl
    · have fX : ∀ z : Unit, m_X7_man 0 (nI c) (nI l) (chp ((n, kd, pl, sb), (lv, sv, k0, y, d), kn, nx, L) k kf T X tr gu O ch) = _ := fun z => by
        unfold m_X7_man
        rw [within_ok, bsome, e1, if_neg one_ne, within_ok, bsome, e2, if_neg one_ne, c70, bsome, c10, bsome, AR.g0, bsome, show (6 : Int32) = nI 6 from rfl, ite_lt (by omega) (by decide)]
      have fM : ∀ z : Unit, m_X8_man 0 (nI c) (nI l) (mh S Le As Oo M) = _ := fun z => by
        unfold m_X8_man
        rw [in_ok, bsome, e1, if_neg one_ne, in_ok, bsome, e2, if_neg one_ne, g80, bsome, rS0, bsome, show S 0 = nI n from mR.1, show (6 : Int32) = nI 6 from rfl, ite_e (by omega) (by decide)]
      rw [fX (), fM ()]
      clear fX fM
      by_cases q : n = 6
      · refine ⟨-3, _, _, ?_, ?_, h0⟩
        · rw [if_neg (by omega)]
        · rw [if_pos q]
      · have n6 : n < 6 := by omega
        have t0 := isTaken8_ok (Le := Le) (As := As) (Or := Oo) (M := M) mR wR.1 (t := 0) (x := n) (by decide) (by omega)
        have t1 := isTaken8_ok (Le := Le) (As := As) (Or := Oo) (M := M) mR wR.1 (t := 1) (x := n) (by decide) (by omega)
        have t2 := isTaken8_ok (Le := Le) (As := As) (Or := Oo) (M := M) mR wR.1 (t := 2) (x := n) (by decide) (by omega)
        rw [if_pos n6, if_neg q, AR.rcv, isTakenAny_ok AR o1 (okR_lt wR.1) (by omega), bsome]
        dsimp only
        rw [ite_b, g8r, show m_X8_isTaken 0 0 (nI n) (mh S Le As Oo M) = _ from t0, bsome]
        dsimp only
        rw [ite_b, g8r, show m_X8_isTaken 0 1 (nI n) (mh S Le As Oo M) = _ from t1, bsome]
        dsimp only
        rw [ite_b, g8r, show m_X8_isTaken 0 2 (nI n) (mh S Le As Oo M) = _ from t2, bsome]
        dsimp only
        rw [ite_b]
        cases takN pl n 0 n with
        | true => exact ⟨-2, _, _, rfl, rfl, h0⟩
        | false =>
          cases takN pl n 1 n with
          | true => exact ⟨-2, _, _, rfl, rfl, h0⟩
          | false =>
            cases takN pl n 2 n with
            | true => exact ⟨-2, _, _, rfl, rfl, h0⟩
            | false =>
              have hp3 : ∀ t, t < 3 → ∀ m, m < 6 → pl3 pl n n n n t m < 10 := fun t ht m hm => by
                have := wR.1.2.2.1 t ht m hm
                unfold pl3
                refine upd2_lt (pl := updN (updN pl 0 (updN (pl 0) n n)) 1 (updN (pl 1) n n)) (t := 2) (m := n) (p := n) ?_ (by omega)
                refine upd2_lt (pl := updN pl 0 (updN (pl 0) n n)) (t := 1) (m := n) (p := n) ?_ (by omega)
                exact upd2_lt this (by omega)
              have hpl : ∀ t, t < 3 → ∀ m, pl3 pl n n n n t m = if m = n then n else pl t m := fun t ht m => by
                rcases (show t = 0 ∨ t = 1 ∨ t = 2 by omega) with rfl | rfl | rfl <;> rfl
              refine ⟨nI n, chp ((n + 1, updN kd n c, pl3 pl n n n n, sbF (n + 1) (pl3 pl n n n n) sb (n + 1)), (updN lv n l, updN sv k0 n, k0 + 1, y, d), 0, nx, L) k kf T X tr gu O ch, mh (updN (updN (updN (updN (updN (updN (updN (updN (updN S (16 + n) (nI c)) (4 + n) (nI l)) (22 + 3 * n + 0) (nI n)) (22 + 3 * n + 1) (nI n)) (22 + 3 * n + 2) (nI n)) (10 + k0) (nI n)) 1 (nI (k0 + 1))) 0 (nI (n + 1))) 40 0) Le As Oo M, ?_, ?_, RR_mk ⟨⟨?_, fun m hm => ?_, fun m hm t ht => ?_⟩, ⟨?_, ?_, ?_, fun m hm => ?_, fun j hj => ?_⟩, ⟨⟨n6, fun m hm => ?_, hp3, fun m hm => ?_⟩, fun m hm => ?_⟩, ⟨⟨?_, wB.1.2.1, fun i hi => ?_, fun m hm => ?_⟩, ?_, fun i hi => ?_, fun i j hi hj e => ?_, fun m hm => ?_⟩, hy, ?_, Nat.zero_le _, hx, fun i hi => by have : i < 0 := hi; omega⟩ hD⟩
              · rw [if_neg (by decide), AR.rcv, placeNum_ok AR n6, bsome, sR2]
                have A1 := cR2 (s := ((n, kd, pl3 pl n n n n, sb), (lv, sv, k0, y, d), kn, nx, L)) (k := k) (kf := kf) (T := T) (X := X) (tr := tr) (gu := gu) (O := O) (ch := ch)
                rw [A1.rcv, adm_ok A1 n6, bsome, sR2]
                have A2 := cR2 (s := ((n + 1, updN kd n c, pl3 pl n n n n, sb), (lv, sv, k0, y, d), kn, nx, L)) (k := k) (kf := kf) (T := T) (X := X) (tr := tr) (gu := gu) (O := O) (ch := ch)
                rw [A2.rcv, find_ok A2 (by omega) (fun t ht m hm => Nat.lt_trans (hp3 t ht m hm) (by decide)), bsome, sR2, c70, bsome, c11, bsome]
                have B1 := cB9 (s := ((n + 1, updN kd n c, pl3 pl n n n n, sbF (n + 1) (pl3 pl n n n n) sb (n + 1)), (lv, sv, k0, y, d), kn, nx, L)) (k := k) (kf := kf) (T := T) (X := X) (tr := tr) (gu := gu) (O := O) (ch := ch)
                rw [B1.rcv, seatLast_ok B1 (by omega) n6, bsome, sB9, c70, bsome, c12, bsome, clr, forget_ok, bsome]
              · rw [if_neg (by decide), if_neg (by decide), if_neg (by decide), g80, bsome, ix16, wS (by omega), bsome, g80, bsome, ix4, wS (by omega), bsome, man89_ok (k0 := k0) n6 (by omega) (by rw [updN_n (by omega), updN_n (by omega)]; exact mR.1) (by rw [updN_n (by omega), updN_n (by omega)]; exact mB.1)]
              · rfl
              · have hm : m < n + 1 := hm
                show _ = nI (updN kd n c m)
                rw [updN_n (by omega), updN_n (by omega), updN_n (by omega), updN_n (by omega), updN_n (by omega), updN_n (by omega), updN_n (by omega), updN_n (by omega)]
                by_cases z : m = n
                · rw [z, updN_s, updN_s]
                · rw [updN_n (by omega), updN_n z]
                  exact mR.2.1 m (show m < n by omega)
              · have hm : m < n + 1 := hm
                show _ = nI (pl3 pl n n n n t m)
                rw [hpl t ht, updN_n (by omega), updN_n (by omega), updN_n (by omega), updN_n (by omega)]
                by_cases z : m = n
                · rw [if_pos z, z]
                  rcases (show t = 0 ∨ t = 1 ∨ t = 2 by omega) with rfl | rfl | rfl
                  · rw [updN_n (by omega), updN_n (by omega), updN_s]
                  · rw [updN_n (by omega), updN_s]
                  · rw [updN_s]
                · rw [if_neg z, updN_n (by omega), updN_n (by omega), updN_n (by omega), updN_n (by omega), updN_n (by omega)]
                  exact mR.2.2 m (show m < n by omega) t ht
              · rfl
              · rw [updN_n (by omega), updN_n (by omega), updN_n (by omega), updN_n (by omega), updN_n (by omega), updN_n (by omega), updN_n (by omega), updN_n (by omega), updN_n (by omega)]
                exact mB.2.1
              · rw [updN_n (by omega), updN_n (by omega), updN_n (by omega), updN_n (by omega), updN_n (by omega), updN_n (by omega), updN_n (by omega), updN_n (by omega), updN_n (by omega)]
                exact mB.2.2.1
              · have hm : m < n + 1 := hm
                show _ = nI (updN lv n l m)
                rw [updN_n (by omega), updN_n (by omega), updN_n (by omega), updN_n (by omega), updN_n (by omega), updN_n (by omega), updN_n (by omega)]
                by_cases z : m = n
                · rw [z, updN_s, updN_s]
                · rw [updN_n (by omega), updN_n z, updN_n (by omega)]
                  exact mB.2.2.2.1 m (show m < n by omega)
              · have hj : j < k0 + 1 := hj
                show _ = nI (updN sv k0 n j)
                rw [updN_n (by omega), updN_n (by omega), updN_n (by omega)]
                by_cases z : j = k0
                · rw [z, updN_s, updN_s]
                · rw [updN_n (by omega), updN_n z, updN_n (by omega), updN_n (by omega), updN_n (by omega), updN_n (by omega), updN_n (by omega)]
                  exact mB.2.2.2.2 j (show j < k0 by omega)
              · show updN kd n c m < 5
                by_cases z : m = n
                · rw [z, updN_s]; omega
                · rw [updN_n z]; exact wR.1.2.1 m hm
              · show sbF (n + 1) _ sb (n + 1) m < 64
                unfold sbF
                split
                · exact sbN_lt (by omega)
                · exact wR.1.2.2.2 m hm
              · show sbF (n + 1) _ sb (n + 1) m = _
                unfold sbF
                rw [if_pos hm]
              · show k0 + 1 ≤ 6; omega
              · have hi : i < k0 + 1 := hi
                show updN sv k0 n i < 6
                by_cases z : i = k0
                · rw [z, updN_s]; omega
                · rw [updN_n z]; exact wB.1.2.2.1 i (show i < k0 by omega)
              · show updN lv n l m < 100
                by_cases z : m = n
                · rw [z, updN_s]; omega
                · rw [updN_n z]; exact wB.1.2.2.2 m hm
              · show k0 + 1 ≤ n + 1; omega
              · have hi : i < k0 + 1 := hi
                show updN sv k0 n i < n + 1
                by_cases z : i = k0
                · rw [z, updN_s]; omega
                · rw [updN_n z]
                  have : sv i < n := wB.2.2.1 i (show i < k0 by omega)
                  omega
              · have hi : i < k0 + 1 := hi
                have hj : j < k0 + 1 := hj
                have e : updN sv k0 n i = updN sv k0 n j := e
                by_cases z : i = k0
                · by_cases z2 : j = k0
                  · omega
                  · rw [z, updN_s, updN_n z2] at e
                    have : sv j < n := wB.2.2.1 j (show j < k0 by omega)
                    omega
                · by_cases z2 : j = k0
                  · rw [z2, updN_s, updN_n z] at e
                    have : sv i < n := wB.2.2.1 i (show i < k0 by omega)
                    omega
                  · rw [updN_n z, updN_n z2] at e
                    exact wB.2.2.2.1 i j (show i < k0 by omega) (show j < k0 by omega) e
              · have hm : m < n + 1 := hm
                show updN lv n l m ≠ 0 ↔ ∃ i, i < k0 + 1 ∧ updN sv k0 n i = m
                by_cases z : m = n
                · rw [z, updN_s]
                  exact ⟨fun _ => ⟨k0, by omega, updN_s⟩, fun _ => by omega⟩
                · rw [updN_n z]
                  refine (wB.2.2.2.2 m (show m < n by omega)).trans ⟨?_, ?_⟩
                  · rintro ⟨i, hi, e⟩
                    have hi : i < k0 := hi
                    exact ⟨i, by omega, by rw [updN_n (by omega)]; exact e⟩
                  · rintro ⟨i, hi, e⟩
                    by_cases z2 : i = k0
                    · rw [z2, updN_s] at e
                      omega
                    · rw [updN_n z2] at e
                      exact ⟨i, show i < k0 by omega, e⟩
              · rfl
/-! image, restore -/
def cpI (f g : Nat → Int32) (j : Nat) : Nat → Int32 := fun i => if i < j then f i else g i
theorem cpI_s (f g : Nat → Int32) (j : Nat) : updN (cpI f g j) j (f j) = cpI f g (j + 1) := by
  funext i
  unfold updN cpI
  by_cases e : i = j
  · rw [if_pos e, if_pos (by omega), e]
  · rw [if_neg e]
    by_cases q : i < j
    · rw [if_pos q, if_pos (by omega)]
    · rw [if_neg q, if_neg (by omega)]
theorem cpI_0 (f g : Nat → Int32) : cpI f g 0 = g := by funext i; exact if_neg (by omega)
theorem rI {S Le As Oo : Nat → Int32} {M : Mx} {k : Nat} (hk : k < 161) : bb_aI (mh S Le As Oo M) 2 .int (nI k) = some (M.1 k) := aI_of (h := mh S Le As Oo M) rfl hk (by decide)
theorem wI {S Le As Oo : Nat → Int32} {M : Mx} {k : Nat} (hk : k < 161) (x : Int32) : bb_sV (mh S Le As Oo M) 2 .int (nI k) (.int x) = some (mh S Le As Oo (updN M.1 k x, M.2)) := (sI_of (h := mh S Le As Oo M) rfl hk (by decide)).trans rfl
theorem image_loop {S Le As Oo : Nat → Int32} {M2 : Int32 × (Nat → Int32) × Int32 × (Nat → Int32) × Int32 × (Nat → Int64) × (Nat → Int64) × (Nat → Int32) × (Nat → Int32)} {I : Nat → Int32} : ∀ (t j f : Nat), j + t = 161 → t < f → m_X8_image_2 f 0 (nI j) (mh S Le As Oo (cpI S I j, M2)) = some (1, mh S Le As Oo (S, 1, M2.2)) := by
  intro t
  induction t with
  | zero =>
    intro j f hj hf
    obtain ⟨g, rfl⟩ := fuel_s hf
    obtain rfl : j = 161 := by omega
    unfold m_X8_image_2
    rw [if_pos (by decide), show bb_pZ (mh S Le As Oo (cpI S I 161, M2)) 0 8 2 1 = some (mh S Le As Oo (cpI S I 161, 1, M2.2)) from rfl, bsome]
    unfold mh
    rw [show fnI 161 (cpI S I 161, 1, M2.2).1 = fnI 161 (S, 1, M2.2).1 from fnI_cong (fun k hk => if_pos hk)]
  | succ t ih =>
    intro j f hj hf
    obtain ⟨g, rfl⟩ := fuel_s hf
    unfold m_X8_image_2
    rw [if_neg (show ¬ (161 : Int32) ≤ nI j from Lge 161 (by omega) (by decide)), g81, bsome, g80, bsome, rS (by omega), bsome, wI (by omega), bsome]
    dsimp only
    rw [cpI_s, nI_1, ih (j + 1) g (by omega) (by omega)]
theorem restore_loop {S Le As Oo : Nat → Int32} {M : Mx} : ∀ (t j f : Nat), j + t = 161 → t < f → m_X8_restore_12 f 0 (nI j) (mh (cpI M.1 S j) Le As Oo M) = some (1, mh M.1 Le As Oo M) := by
  intro t
  induction t with
  | zero =>
    intro j f hj hf
    obtain ⟨g, rfl⟩ := fuel_s hf
    obtain rfl : j = 161 := by omega
    unfold m_X8_restore_12
    rw [if_pos (by decide), mh_cong (S := cpI M.1 S 161) (S2 := M.1) (fun k hk => if_pos hk)]
  | succ t ih =>
    intro j f hj hf
    obtain ⟨g, rfl⟩ := fuel_s hf
    unfold m_X8_restore_12
    rw [if_neg (show ¬ (161 : Int32) ≤ nI j from Lge 161 (by omega) (by decide)), g80, bsome, g81, bsome, rI (by omega), bsome, wS (by omega), bsome, cpI_s, nI_1, ih (j + 1) g (by omega) (by omega)]
theorem sim_image_ok : sim_image RR := by
  intro hX hM h0
  obtain ⟨s, k, kf, T, X, tr, gu, O, ch, S, Le, As, Oo, M, rfl, rfl, hS, hD⟩ := h0
  obtain ⟨d1, d2, d3, d4⟩ := hD
  refine ⟨1, chp s s 1 T X tr gu O ch, mh S Le As Oo (S, 1, M.2.2), ?_, ?_, RR_mk hS ⟨rfl, Or.inr ⟨rfl, hS⟩, d3, d4⟩⟩
  · unfold m_X7_image
    rw [c71, bsome, c70, bsome, c38r, stake_k, bsome]
    rfl
  · have e := image_loop (S := S) (Le := Le) (As := As) (Oo := Oo) (M2 := M.2) (I := M.1) 161 0 1000 rfl (by decide)
    rw [cpI_0] at e
    exact e
theorem sim_restore_ok : sim_restore RR := by
  intro hX hM h0
  have h1 := h0
  obtain ⟨s, k, kf, T, X, tr, gu, O, ch, S, Le, As, Oo, M, rfl, rfl, hS, hD⟩ := h1
  have hD0 := hD
  obtain ⟨d1, d2, d3, d4⟩ := hD
  rcases d2 with d2 | ⟨d2, d5⟩
  · refine ⟨-4, _, _, ?_, ?_, h0⟩
    · unfold m_X7_restore
      rw [c72, bsome, if_pos d2]
    · unfold m_X8_restore
      rw [g82, bsome, if_pos (d1.trans d2)]
  · refine ⟨1, chp k k kf T X tr gu O ch, mh M.1 Le As Oo M, ?_, ?_, RR_mk d5 hD0⟩
    · unfold m_X7_restore
      rw [c72, bsome, if_neg (by rw [d2]; decide), c70, bsome, c71, bsome, c1r, stake_s, bsome]
    · unfold m_X8_restore
      rw [g82, bsome, if_neg (by rw [d1, d2]; decide)]
      have e := restore_loop (S := S) (Le := Le) (As := As) (Oo := Oo) (M := M) 161 0 1000 rfl (by decide)
      rw [cpI_0] at e
      exact e
