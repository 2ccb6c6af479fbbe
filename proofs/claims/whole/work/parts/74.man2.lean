section MSI
variable {s k : St} {kf : Int32} {X : Nat → Sh} {tr : Bn} {gu : Rl} {O : Od} {ch : Nat → Nat} {L : Nat → Nat} {len : Nat}
variable {S Le As Oo Im tp Sz Ln : Nat → Int32} {kp : Int32} {It Mv : Nat → Int64}
theorem rsMan_kind (hT : okT L len) (hM : ∀ i, i < len → tp i = nI (L i)) {n c p : Nat} {dr : Nat → Int32} (hp : p ≤ len) (hk : kbV (ltM L len (sk L len p)) = nI c) (hc : c < 5) (hlt : sk L len p < len) : m_X8_readsMan 0 (nI n) (mh S Le As Oo (Im, kp, tp, nI len, dr, nI p, It, Mv, Sz, Ln)) = if ¬ isD L len (sk L len (sk L len p + 1)) = true then some (0, mh S Le As Oo (Im, kp, tp, nI len, dr, nI (sk L len (sk L len p + 1)), It, Mv, Sz, Ln)) else m_X8_readsMan_117 0 (nI n) (nI c) (nI (sk L len p)) (nI (sk L len (sk L len p + 1))) (nI (lfP L len (sk L len (sk L len p + 1))).1) (mh S Le As Oo (Im, kp, tp, nI len, dr, nI (lfP L len (sk L len (sk L len p + 1))).2, It, Mv, Sz, Ln)) := by
  have h70 := hT.1
  have hq1 := sk_le (L := L) (show sk L len p + 1 ≤ len by omega)
  unfold m_X8_readsMan
  rw [g8r, skips_ok hT hM hp, bsome]
  dsimp only
  rw [kindBy_ok, bsome]
  dsimp only
  rw [q6, bsome, hk, if_neg (nI_m4 (by omega)), bsome, nI_1, q6w, bsome, g8r, skips_ok hT hM (by omega), bsome]
  dsimp only
  rw [isDigit8_ok, bsome]
  dsimp only
  rw [inB_lt hT, ite_b]
  generalize hq : sk L len (sk L len p + 1) = q1 at hq1 ⊢
  by_cases c1 : isD L len q1 = true
  · obtain ⟨d1, d2, d3⟩ := isD_f c1
    rw [if_pos c1, if_neg (fun z => z c1), q6, bsome, g83, bsome, bsome, rTp (by omega), bsome, hM _ d1, bsome, nI_1, q6w, bsome, q6, bsome, g8r, letterAt_ok hT hM (by omega), bsome]
    dsimp only
    rw [isDigit8_ok, bsome]
    dsimp only
    rw [inB_lt hT, ite_b, show (48 : Int32) = nI 48 from rfl, pk_sub d2]
    unfold lfP
    by_cases c2 : isD L len (q1 + 1) = true
    · obtain ⟨g1, g2, g3⟩ := isD_f c2
      rw [if_pos c2, if_pos c2, g83, bsome, q6, bsome, rTp (by omega), bsome, hM _ g1, bsome, nI_1, q6w, bsome, show (10 : Int32) * nI (L q1 - 48) = nI (10 * (L q1 - 48)) from pk_mul 10 _, nI_add, pk_sub (show 48 ≤ 10 * (L q1 - 48) + L (q1 + 1) by omega), show 10 * (L q1 - 48) + L (q1 + 1) - 48 = 10 * (L q1 - 48) + (L (q1 + 1) - 48) by omega]
    · rw [if_neg c2, if_neg c2]
  · rw [if_neg c1, if_pos c1]
theorem m117_bad {n l q1 p : Nat} {c q0 : Int32} {dr : Nat → Int32} (hl : l < 1000) (hb : ¬ (1 ≤ l ∧ l ≤ 60)) : m_X8_readsMan_117 0 (nI n) c q0 (nI q1) (nI l) (mh S Le As Oo (Im, kp, tp, nI len, dr, nI p, It, Mv, Sz, Ln)) = some (0, mh S Le As Oo (Im, kp, tp, nI len, dr, nI q1, It, Mv, Sz, Ln)) := by
  unfold m_X8_readsMan_117
  rw [in_ok, bsome]
  dsimp only
  rw [show inB (nI l) 1 60 = _ from inB_n (a := 1) (b := 60) (by omega) (by decide) (by decide), ite_b, if_neg (fun z => hb (by
      rw [Bool.and_eq_true] at z
      exact ⟨of_decide_eq_true z.1, of_decide_eq_true z.2⟩)), q6w, bsome]
theorem m117_ok (hT : okT L len) (hM : ∀ i, i < len → tp i = nI (L i)) {n c l q0 q1 p : Nat} {dr : Nat → Int32} (hn : n < 6) (hp : p ≤ len) (h1 : 1 ≤ l) (h2 : l ≤ 60) : m_X8_readsMan_117 0 (nI n) (nI c) (nI q0) (nI q1) (nI l) (mh S Le As Oo (Im, kp, tp, nI len, dr, nI p, It, Mv, Sz, Ln)) = if ltM L len (sk L len p) = 46 then m_X8_readsMan_238 1000 0 (nI n) 0 (mh S Le As Oo (Im, kp, tp, nI len, updN (updN (updN dr (16 + n) (nI c)) (4 + n) (nI l)) (10 + n) (nI n), nI (sk L len p + 1), It, Mv, Sz, Ln)) else m_X8_readsMan_178 1000 0 (nI n) (nI q0) 0 (mh S Le As Oo (Im, kp, tp, nI len, updN (updN (updN dr (16 + n) (nI c)) (4 + n) (nI l)) (10 + n) (nI n), nI (sk L len p), It, Mv, Sz, Ln)) := by
  unfold m_X8_readsMan_117
  rw [in_ok, bsome]
  dsimp only
  rw [show inB (nI l) 1 60 = _ from inB_n (a := 1) (b := 60) (by omega) (by decide) (by decide), ite_b, decide_eq_true h1, decide_eq_true h2, if_pos (show (true && true) = true from rfl), g85, bsome, ix16, wDr (by omega), bsome, g85, bsome, ix4, wDr (by omega), bsome, g85, bsome, ix10, wDr (by omega), bsome, g8r, skips_ok hT hM hp, bsome]
  dsimp only
  rw [q6, bsome, nI_1, q6w, bsome]
theorem rMan_bad (hT : okT L len) {R : Rl} {lv : Nat → Nat} {p p2 e c : Nat} {x : Int32} (hp : p ≤ len) (hk : bb_kix (hrC L len (sk L len p)) = nI c) (hc : c < 5) (he : e < 71) (hl : m_X6_readLife 75 (chp s k kf (L, len, R, lv, sk L len p + 1, 0) X tr gu O ch) = some (x, chp s k kf (L, len, R, lv, p2, -20 - nI e) X tr gu O ch)) : m_X6_readMan 75 (chp s k kf (L, len, R, lv, p, 0) X tr gu O ch) = some (chp s k kf (L, len, R, lv, p2, -20 - nI e) X tr gu O ch) := by
  unfold m_X6_readMan
  rw [ctr, skipB_ok hT hp, bsome, k4, bsome, ctr, hereL hT (sk_le hp), bsome]
  dsimp only
  rw [hk, if_pos (nI_pos' (by omega)), k4, bsome, nI_1, k4w, bsome, ctr, hl, bsome]
  dsimp only
  rw [k5, bsome, if_neg (flt_all e he)]
theorem rMan_good (hT : okT L len) {n : Nat} {kd sb lv : Nat → Nat} {pl : Nat → Nat → Nat} {p p2 l c : Nat} (hn : n < 6) (o : okR (n, kd, pl, sb)) (hp : p ≤ len) (hp2 : p2 ≤ len) (hk : bb_kix (hrC L len (sk L len p)) = nI c) (hc : c < 5) (hl : m_X6_readLife 75 (chp s k kf (L, len, (n, kd, pl, sb), lv, sk L len p + 1, 0) X tr gu O ch) = some (nI l, chp s k kf (L, len, (n, kd, pl, sb), lv, p2, 0) X tr gu O ch)) : m_X6_readMan 75 (chp s k kf (L, len, (n, kd, pl, sb), lv, p, 0) X tr gu O ch) = if hrC L len (sk L len p2) = 46 then (m_X6_readPlaces 75 (chp s k kf (L, len, (n, kd, pl, sb), lv, sk L len p2 + 1, 0) X tr gu O ch)).bind (fun g => m_X6_readMan_117 75 (nI c) (nI l) g) else if (takN pl n 0 n || (takN pl n 1 n || takN pl n 2 n)) then some (chp s k kf (L, len, (n, kd, pl, sb), lv, sk L len p2, -20 - nI (sk L len p)) X tr gu O ch) else some (chp s k kf (L, len, (n + 1, updN kd n c, pl3 pl n n n n, sb), updN lv n l, sk L len p2, 0) X tr gu O ch) := by
  have h70 := hT.1
  have hq := sk_le (L := L) hp
  unfold m_X6_readMan
  rw [ctr, skipB_ok hT hp, bsome, k4, bsome, ctr, hereL hT (sk_le hp), bsome]
  dsimp only
  rw [hk, if_pos (nI_pos' (by omega)), k4, bsome, nI_1, k4w, bsome, ctr, hl, bsome]
  dsimp only
  rw [k5, bsome, if_pos rfl, ctr, skipB_ok hT hp2, bsome, ctr, hereL hT (sk_le hp2), bsome]
  dsimp only
  rw [k4, bsome, nI_1, k4w, bsome, ctr, k2, bsome, bsome, (kR).g0, bsome, (kR).rcv, isTakenAny_ok kR (by omega) (okR_lt o) (by omega), bsome]
  dsimp only
  rw [ite_b, k2, bsome, (kR).rcv, placeNum_ok kR hn, bsome, kRs, rm117_ok hn, ctr, faultAt_ok, bsome, rm117_f (by omega)]
theorem dot_iff {p : Nat} (hT : okT L len) : hrC L len p = 46 ↔ ltM L len p = 46 := by
  unfold hrC ltM
  by_cases c : p < len
  · rw [if_pos c, if_pos c]
  · rw [if_neg c, if_neg c]
    exact ⟨fun z => absurd z (by decide), fun z => absurd z (by decide)⟩
theorem dot_lt {p : Nat} (h : hrC L len p = 46) : p < len := by
  by_cases c : p < len
  · exact c
  · unfold hrC at h
    rw [if_neg c] at h
    exact absurd h (by decide)
theorem man_sim (hT : okT L len) (hM : ∀ i, i < len → tp i = nI (L i)) {R : Rl} {lv : Nat → Nat} {dr : Nat → Int32} {p : Nat} (hD : DrR dr R lv) (hn : R.1 < 6) (hp : p ≤ len) :
    (∃ R2 lv2 p2 e dr2, m_X6_readMan 75 (chp s k kf (L, len, R, lv, p, 0) X tr gu O ch) = some (chp s k kf (L, len, R2, lv2, p2, -20 - nI e) X tr gu O ch) ∧ m_X8_readsMan 0 (nI R.1) (mh S Le As Oo (Im, kp, tp, nI len, dr, nI p, It, Mv, Sz, Ln)) = some (0, mh S Le As Oo (Im, kp, tp, nI len, dr2, nI e, It, Mv, Sz, Ln)) ∧ okR R2 ∧ e < 71)
    ∨ (∃ R2 lv2 q dr2, m_X6_readMan 75 (chp s k kf (L, len, R, lv, p, 0) X tr gu O ch) = some (chp s k kf (L, len, R2, lv2, q, 0) X tr gu O ch) ∧ m_X8_readsMan 0 (nI R.1) (mh S Le As Oo (Im, kp, tp, nI len, dr, nI p, It, Mv, Sz, Ln)) = some (1, mh S Le As Oo (Im, kp, tp, nI len, dr2, nI q, It, Mv, Sz, Ln)) ∧ DrR dr2 R2 lv2 ∧ R2.1 = R.1 + 1 ∧ q ≤ len) := by
  obtain ⟨n, kd, pl, sb⟩ := R
  have hn : n < 6 := hn
  have h70 := hT.1
  have hq0 := sk_le (L := L) hp
  have oR : okR (n, kd, pl, sb) := hD.2.2.2
  rcases kind_or (p := sk L len p) hT with ⟨c1, c2⟩ | ⟨hlt, c, hc, c1, c2⟩
  · refine Or.inl ⟨(n, kd, pl, sb), lv, sk L len p, sk L len p, dr, ?_, ?_, oR, by omega⟩
    · unfold m_X6_readMan
      rw [ctr, skipB_ok hT hp, bsome, k4, bsome, ctr, hereL hT hq0, bsome]
      dsimp only
      rw [c1, if_neg (by decide), k4, bsome, ctr, faultAt_ok, bsome]
    · unfold m_X8_readsMan
      rw [g8r, skips_ok hT hM hp, bsome]
      dsimp only
      rw [kindBy_ok, bsome]
      dsimp only
      rw [q6, bsome, c2, if_pos rfl]
  · have hq1 := sk_le (L := L) (show sk L len p + 1 ≤ len by omega)
    dsimp only
    rw [rsMan_kind hT hM hp c2 hc hlt]
    by_cases d : isD L len (sk L len (sk L len p + 1)) = true
    · have d0 : ¬ ¬ isD L len (sk L len (sk L len p + 1)) = true := fun z => z d
      have hlf := lfP_lt d
      have eL := readLife_yes (s := s) (k := k) (kf := kf) (X := X) (tr := tr) (gu := gu) (O := O) (ch := ch) (lv := lv) (R := (n, kd, pl, sb)) (ft := 0) hT (show sk L len p + 1 ≤ len by omega) d
      rw [if_neg d0]
      generalize (lfP L len (sk L len (sk L len p + 1))).1 = l at hlf eL ⊢
      generalize (lfP L len (sk L len (sk L len p + 1))).2 = p2 at hlf eL ⊢
      by_cases b : 1 ≤ l ∧ l ≤ 60
      · rw [if_pos b] at eL
        have hq2 := sk_le (L := L) hlf.2
        rw [rMan_good hT hn oR hp hlf.2 c1 hc eL, m117_ok hT hM hn hlf.2 b.1 b.2]
        by_cases dt : hrC L len (sk L len p2) = 46
        · have hd2 := dot_lt dt
          rw [if_pos dt, if_pos ((dot_iff hT).mp dt)]
          rcases plc_sim (s := s) (k := k) (kf := kf) (X := X) (tr := tr) (gu := gu) (O := O) (ch := ch) (S := S) (Le := Le) (As := As) (Oo := Oo) (Im := Im) (kp := kp) (It := It) (Mv := Mv) (Sz := Sz) (Ln := Ln) (lv := lv) hT hM hn 3 0 (sk L len p2 + 1) 1000 1000 pl (updN (updN (updN dr (16 + n) (nI c)) (4 + n) (nI l)) (10 + n) (nI n)) rfl (by omega) (by decide) (by decide) oR (fun m hm u hu => by rw [updN_n (by omega), updN_n (by omega), updN_n (by omega)]; exact hD.2.2.1 m hm u hu) (fun u hu => by omega) with ⟨pl2, p3, e, dr2, z1, z2, z3, z4⟩ | ⟨pl2, q, dr2, z1, z2, z3, z4, z5, z6⟩
          · refine Or.inl ⟨(n, kd, pl2, sb), lv, p3, e, dr2, ?_, z2, z3, by omega⟩
            rw [show m_X6_readPlaces 75 (chp s k kf (L, len, (n, kd, pl, sb), lv, sk L len p2 + 1, 0) X tr gu O ch) = _ from z1, bsome, rm117_f (by omega)]
          · refine Or.inr ⟨(n + 1, updN kd n c, pl2, sb), updN lv n l, q, dr2, ?_, z2, DrR_new hn hD hc b.1 b.2 z3 z5 z6, rfl, z4⟩
            rw [show m_X6_readPlaces 75 (chp s k kf (L, len, (n, kd, pl, sb), lv, sk L len p2 + 1, 0) X tr gu O ch) = _ from z1, bsome, rm117_ok hn]
        · rw [if_neg dt, if_neg (fun z => dt ((dot_iff hT).mpr z))]
          have hb : ∀ t, t < 3 → ∀ m, m < n → pl t m < 100 := fun t ht m hm => okR_lt oR t ht m (by omega)
          have g0 : ∀ m, m < n → ∀ u, u < 3 → updN (updN (updN dr (16 + n) (nI c)) (4 + n) (nI l)) (10 + n) (nI n) (22 + 3 * m + u) = nI (pl u m) := fun m hm u hu => by
            rw [updN_n (by omega), updN_n (by omega), updN_n (by omega)]
            exact hD.2.2.1 m hm u hu
          generalize hdr : updN (updN (updN dr (16 + n) (nI c)) (4 + n) (nI l)) (10 + n) (nI n) = dr1 at g0 ⊢
          have e8 : m_X8_readsMan_178 1000 0 (nI n) (nI (sk L len p)) 0 (mh S Le As Oo (Im, kp, tp, nI len, dr1, nI (sk L len p2), It, Mv, Sz, Ln)) = if takN pl n 0 n then some (0, mh S Le As Oo (Im, kp, tp, nI len, dr1, nI (sk L len p), It, Mv, Sz, Ln)) else if takN pl n 1 n then some (0, mh S Le As Oo (Im, kp, tp, nI len, updN dr1 (22 + 3 * n + 0) (nI n), nI (sk L len p), It, Mv, Sz, Ln)) else if takN pl n 2 n then some (0, mh S Le As Oo (Im, kp, tp, nI len, updN (updN dr1 (22 + 3 * n + 0) (nI n)) (22 + 3 * n + 1) (nI n), nI (sk L len p), It, Mv, Sz, Ln)) else some (1, mh S Le As Oo (Im, kp, tp, nI len, updN (updN (updN dr1 (22 + 3 * n + 0) (nI n)) (22 + 3 * n + 1) (nI n)) (22 + 3 * n + 2) (nI n), nI (sk L len p2), It, Mv, Sz, Ln)) := by
            show m_X8_readsMan_178 (999 + 1) 0 (nI n) (nI (sk L len p)) (nI 0) _ = _
            rw [num8_step (pl := pl) hn (by decide) (hb 0 (by decide)) (fun m hm => g0 m hm 0 (by decide)), show (999 : Nat) = 998 + 1 from rfl, num8_step (pl := pl) hn (by decide) (hb 1 (by decide)) (fun m hm => by rw [updN_n (by omega)]; exact g0 m hm 1 (by decide)), show (998 : Nat) = 997 + 1 from rfl, num8_step (pl := pl) hn (by decide) (hb 2 (by decide)) (fun m hm => by rw [updN_n (by omega), updN_n (by omega)]; exact g0 m hm 2 (by decide)), show (997 : Nat) = 996 + 1 from rfl]
            conv => lhs; unfold m_X8_readsMan_178
            rw [if_pos (show (3 : Int32) ≤ nI (2 + 1) by decide)]
          rw [e8]
          by_cases t0 : takN pl n 0 n = true
          · rw [if_pos t0, if_pos (by rw [t0]; rfl)]
            exact Or.inl ⟨_, _, _, _, _, rfl, rfl, oR, by omega⟩
          · rw [if_neg t0]
            by_cases t1 : takN pl n 1 n = true
            · rw [if_pos t1, if_pos (by rw [t1, Bool.true_or, Bool.or_true])]
              exact Or.inl ⟨_, _, _, _, _, rfl, rfl, oR, by omega⟩
            · rw [if_neg t1]
              by_cases t2 : takN pl n 2 n = true
              · rw [if_pos t2, if_pos (by rw [t2, Bool.or_true, Bool.or_true])]
                exact Or.inl ⟨_, _, _, _, _, rfl, rfl, oR, by omega⟩
              · rw [if_neg t2, if_neg (by rw [Bool.eq_false_iff.mpr t0, Bool.eq_false_iff.mpr t1, Bool.eq_false_iff.mpr t2]; decide)]
                refine Or.inr ⟨_, _, _, _, rfl, rfl, DrR_new hn hD hc b.1 b.2 (okR_pl (t := 2) (x := n) (okR_pl (t := 1) (x := n) (okR_pl (t := 0) (x := n) oR (by omega)) (by omega)) (by omega)) (fun m hm u hu => ?_) (fun i hi => ?_), rfl, hq2⟩
                · have hpl : pl3 pl n n n n u m = if m = n then n else pl u m := by
                    rcases (show u = 0 ∨ u = 1 ∨ u = 2 by omega) with rfl | rfl | rfl <;> rfl
                  show _ = nI (pl3 pl n n n n u m)
                  rw [hpl]
                  by_cases z : m = n
                  · rw [if_pos z, z]
                    rcases (show u = 0 ∨ u = 1 ∨ u = 2 by omega) with rfl | rfl | rfl
                    · rw [updN_n (by omega), updN_n (by omega), updN_s]
                    · rw [updN_n (by omega), updN_s]
                    · rw [updN_s]
                  · rw [if_neg z, updN_n (by omega), updN_n (by omega), updN_n (by omega)]
                    exact g0 m (by omega) u hu
                · rw [updN_n (by omega), updN_n (by omega), updN_n (by omega), hdr]
      · rw [if_neg b] at eL
        refine Or.inl ⟨(n, kd, pl, sb), lv, p2, sk L len (sk L len p + 1), dr, rMan_bad hT hp c1 hc (by omega) eL, m117_bad hlf.1 b, oR, by omega⟩
    · rw [if_pos d]
      exact Or.inl ⟨(n, kd, pl, sb), lv, _, sk L len (sk L len p + 1), dr, rMan_bad hT hp c1 hc (by omega) (readLife_no hT (by omega) d), rfl, oR, by omega⟩
end MSI
