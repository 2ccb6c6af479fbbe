/-! A MAN of a text, read by both -/
section MAN
variable {s k : St} {kf : Int32} {X : Nat → Sh} {tr : Bn} {gu : Rl} {O : Od} {ch : Nat → Nat} {L : Nat → Nat} {len : Nat}
variable {S Le As Oo Im tp Sz Ln : Nat → Int32} {kp : Int32} {It Mv : Nat → Int64}
theorem okR_pl {n t x : Nat} {kd sb : Nat → Nat} {pl : Nat → Nat → Nat} (h : okR (n, kd, pl, sb)) (hx : x < 10) : okR (n, kd, updN pl t (updN (pl t) n x), sb) := ⟨h.1, h.2.1, fun u hu m hm => upd2_lt (h.2.2.1 u hu m hm) hx, h.2.2.2⟩
theorem plc_sim (hT : okT L len) (hM : ∀ i, i < len → tp i = nI (L i)) {n : Nat} {kd sb lv : Nat → Nat} (hn : n < 6) : ∀ (t0 t p f g : Nat) (pl : Nat → Nat → Nat) (dr : Nat → Int32), t + t0 = 3 → p ≤ len → t0 < f → t0 < g → okR (n, kd, pl, sb) → (∀ m, m < n → ∀ u, u < 3 → dr (22 + 3 * m + u) = nI (pl u m)) → (∀ u, u < t → dr (22 + 3 * n + u) = nI (pl u n)) →
    (∃ pl2 p2 e dr2, m_X6_readPlaces_2 f 75 (nI t) (chp s k kf (L, len, (n, kd, pl, sb), lv, p, 0) X tr gu O ch) = some (chp s k kf (L, len, (n, kd, pl2, sb), lv, p2, -20 - nI e) X tr gu O ch) ∧ m_X8_readsMan_238 g 0 (nI n) (nI t) (mh S Le As Oo (Im, kp, tp, nI len, dr, nI p, It, Mv, Sz, Ln)) = some (0, mh S Le As Oo (Im, kp, tp, nI len, dr2, nI e, It, Mv, Sz, Ln)) ∧ okR (n, kd, pl2, sb) ∧ e ≤ len)
    ∨ (∃ pl2 q dr2, m_X6_readPlaces_2 f 75 (nI t) (chp s k kf (L, len, (n, kd, pl, sb), lv, p, 0) X tr gu O ch) = some (chp s k kf (L, len, (n, kd, pl2, sb), lv, q, 0) X tr gu O ch) ∧ m_X8_readsMan_238 g 0 (nI n) (nI t) (mh S Le As Oo (Im, kp, tp, nI len, dr, nI p, It, Mv, Sz, Ln)) = some (1, mh S Le As Oo (Im, kp, tp, nI len, dr2, nI q, It, Mv, Sz, Ln)) ∧ okR (n, kd, pl2, sb) ∧ q ≤ len ∧ (∀ m, m < n + 1 → ∀ u, u < 3 → dr2 (22 + 3 * m + u) = nI (pl2 u m)) ∧ ∀ i, i < 22 → dr2 i = dr i) := by
  have h70 := hT.1
  intro t0
  induction t0 with
  | zero =>
    intro t p f g pl dr ht hp hf hg oR h1 h2
    obtain ⟨f, rfl⟩ := fuel_s hf
    obtain ⟨g, rfl⟩ := fuel_s hg
    obtain rfl : t = 3 := by omega
    refine Or.inr ⟨pl, p, dr, ?_, ?_, oR, hp, fun m hm u hu => ?_, fun _ _ => rfl⟩
    · unfold m_X6_readPlaces_2
      rw [if_pos (by decide)]
    · unfold m_X8_readsMan_238
      rw [if_pos (by decide)]
    · by_cases e : m = n
      · rw [e]; exact h2 u hu
      · exact h1 m (by omega) u hu
  | succ t0 ih =>
    intro t p f g pl dr ht hp hf hg oR h1 h2
    obtain ⟨f, rfl⟩ := fuel_s hf
    obtain ⟨g, rfl⟩ := fuel_s hg
    have hq := sk_le (L := L) hp
    have eC : m_X6_readPlaces_2 (f + 1) 75 (nI t) (chp s k kf (L, len, (n, kd, pl, sb), lv, p, 0) X tr gu O ch) = if ¬ isD L len (sk L len p) = true then some (chp s k kf (L, len, (n, kd, pl, sb), lv, sk L len p, -20 - nI (sk L len p)) X tr gu O ch) else if takN pl n t (L (sk L len p) - 48) then some (chp s k kf (L, len, (n, kd, pl, sb), lv, sk L len p, -20 - nI (sk L len p)) X tr gu O ch) else m_X6_readPlaces_2 f 75 (nI (t + 1)) (chp s k kf (L, len, (n, kd, updN pl t (updN (pl t) n (L (sk L len p) - 48)), sb), lv, sk L len p + 1, 0) X tr gu O ch) := by
      conv => lhs; unfold m_X6_readPlaces_2
      unfold m_X6_readPlaces_36
      rw [if_neg (show ¬ (3 : Int32) ≤ nI t from Lge 3 (by omega) (by decide)), ctr, skipB_ok hT hp, bsome, ctr, isDigit_ok hT hq, bsome]
      dsimp only
      rw [ite_b]
      by_cases c : isD L len (sk L len p) = true
      · obtain ⟨d1, d2, d3⟩ := isD_f c
        rw [if_pos c, if_neg (fun z => z c), k2, bsome, ctr, hereL hT hq, bsome]
        dsimp only
        rw [show hrC L len (sk L len p) = nI (L (sk L len p)) from if_pos d1, show (48 : Int32) = nI 48 from rfl, pk_sub d2, (kR).rcv, isTaken_ok kR (by omega) (okR_lt oR) (by omega) (by omega), bsome]
        dsimp only
        rw [ite_b]
        by_cases c2 : takN pl n t (L (sk L len p) - 48) = true
        · rw [if_pos c2, if_pos c2, k4, bsome, ctr, faultAt_ok, bsome]
        · rw [if_neg c2, if_neg c2, k2, bsome, ctr, readDigit_ok hT c, bsome]
          dsimp only
          rw [(kR).rcv, placeNext_ok kR hn (by omega), bsome, kRs, nI_1]
      · rw [if_neg c, if_pos c, k4, bsome, ctr, faultAt_ok, bsome]
    have eM : m_X8_readsMan_238 (g + 1) 0 (nI n) (nI t) (mh S Le As Oo (Im, kp, tp, nI len, dr, nI p, It, Mv, Sz, Ln)) = if ¬ isD L len (sk L len p) = true then some (0, mh S Le As Oo (Im, kp, tp, nI len, dr, nI (sk L len p), It, Mv, Sz, Ln)) else if takN pl n t (L (sk L len p) - 48) then some (0, mh S Le As Oo (Im, kp, tp, nI len, dr, nI (sk L len p), It, Mv, Sz, Ln)) else m_X8_readsMan_238 g 0 (nI n) (nI (t + 1)) (mh S Le As Oo (Im, kp, tp, nI len, updN dr (22 + 3 * n + t) (nI (L (sk L len p) - 48)), nI (sk L len p + 1), It, Mv, Sz, Ln)) := by
      conv => lhs; unfold m_X8_readsMan_238
      unfold m_X8_readsMan_273
      rw [if_neg (show ¬ (3 : Int32) ≤ nI t from Lge 3 (by omega) (by decide)), g8r, skips_ok hT hM hp, bsome]
      dsimp only
      rw [isDigit8_ok, bsome]
      dsimp only
      rw [inB_lt hT, ite_b]
      by_cases c : isD L len (sk L len p) = true
      · obtain ⟨d1, d2, d3⟩ := isD_f c
        rw [if_pos c, if_neg (fun z => z c), g8r, show ltM L len (sk L len p) = nI (L (sk L len p)) from if_pos d1, show (48 : Int32) = nI 48 from rfl, pk_sub d2, told_ok (pl := pl) (by omega) (by omega) (by omega) (fun m hm => by have := oR.2.2.1 t (by omega) m (by omega); exact Nat.lt_trans this (by decide)) (fun m hm => h1 m hm t (by omega)), bsome]
        dsimp only
        rw [ite_b]
        by_cases c2 : takN pl n t (L (sk L len p) - 48) = true
        · rw [if_pos c2, if_pos c2]
        · rw [if_neg c2, if_neg c2, g85, bsome, ix22, wDr (by omega), bsome, q6, bsome, nI_1, q6w, bsome, nI_1]
      · rw [if_neg c, if_pos c]
    rw [eC, eM]
    by_cases c : isD L len (sk L len p) = true
    · obtain ⟨d1, d2, d3⟩ := isD_f c
      have c0 : ¬ ¬ isD L len (sk L len p) = true := fun z => z c
      rw [if_neg c0, if_neg c0]
      by_cases c2 : takN pl n t (L (sk L len p) - 48) = true
      · rw [if_pos c2, if_pos c2]
        exact Or.inl ⟨pl, sk L len p, sk L len p, dr, rfl, rfl, oR, hq⟩
      · rw [if_neg c2, if_neg c2]
        have z := ih (t + 1) (sk L len p + 1) f g (updN pl t (updN (pl t) n (L (sk L len p) - 48))) (updN dr (22 + 3 * n + t) (nI (L (sk L len p) - 48))) (by omega) (by omega) (by omega) (by omega) (okR_pl oR (by omega)) (fun m hm u hu => by
          rw [updN_n (by omega), h1 m hm u hu]
          by_cases e : u = t
          · rw [e, updN_s, updN_n (by omega)]
          · rw [updN_n e]) (fun u hu => by
          by_cases e : u = t
          · rw [e, updN_s, updN_s, updN_s]
          · rw [updN_n (by omega), updN_n e]
            exact h2 u (by omega))
        rcases z with z | ⟨pl2, q, dr2, z1, z2, z3, z4, z5, z6⟩
        · exact Or.inl z
        · exact Or.inr ⟨pl2, q, dr2, z1, z2, z3, z4, z5, fun i hi => by rw [z6 i hi, updN_n (by omega)]⟩
    · rw [if_pos c, if_pos c]
      exact Or.inl ⟨pl, sk L len p, sk L len p, dr, rfl, rfl, oR, hq⟩
/-- places by the number: the model's -/
theorem num8_step {n b p f t : Nat} {pl : Nat → Nat → Nat} {dr : Nat → Int32} (hn : n < 6) (ht : t < 3) (hp : ∀ m, m < n → pl t m < 100) (hd : ∀ m, m < n → dr (22 + 3 * m + t) = nI (pl t m)) : m_X8_readsMan_178 (f + 1) 0 (nI n) (nI b) (nI t) (mh S Le As Oo (Im, kp, tp, nI len, dr, nI p, It, Mv, Sz, Ln)) = if takN pl n t n then some (0, mh S Le As Oo (Im, kp, tp, nI len, dr, nI b, It, Mv, Sz, Ln)) else m_X8_readsMan_178 f 0 (nI n) (nI b) (nI (t + 1)) (mh S Le As Oo (Im, kp, tp, nI len, updN dr (22 + 3 * n + t) (nI n), nI p, It, Mv, Sz, Ln)) := by
  conv => lhs; unfold m_X8_readsMan_178
  rw [if_neg (show ¬ (3 : Int32) ≤ nI t from Lge 3 (by omega) (by decide)), g8r, told_ok (pl := pl) (by omega) ht (by omega) hp hd, bsome]
  dsimp only
  rw [ite_b, q6w, bsome, g85, bsome, ix22, wDr (by omega), bsome, nI_1]
theorem rm117_f {R : Rl} {lv : Nat → Nat} {p e : Nat} {c l : Int32} (he : e < 71) : m_X6_readMan_117 75 c l (chp s k kf (L, len, R, lv, p, -20 - nI e) X tr gu O ch) = some (chp s k kf (L, len, R, lv, p, -20 - nI e) X tr gu O ch) := by
  unfold m_X6_readMan_117 m_X6_readMan_157
  rw [k5, bsome, if_neg (flt_all e he)]
theorem rm117_ok {n c l p : Nat} {kd sb lv : Nat → Nat} {pl : Nat → Nat → Nat} (hn : n < 6) : m_X6_readMan_117 75 (nI c) (nI l) (chp s k kf (L, len, (n, kd, pl, sb), lv, p, 0) X tr gu O ch) = some (chp s k kf (L, len, (n + 1, updN kd n c, pl, sb), updN lv n l, p, 0) X tr gu O ch) := by
  unfold m_X6_readMan_117 m_X6_readMan_157
  rw [k5, bsome, if_pos rfl, k2, bsome, (kR).g0, bsome, if_neg (show ¬ (6 : Int32) ≤ nI n from Lge 6 hn (by decide)), k3, bsome, bsome, (kR).g0, bsome, kVw hn, bsome, k2, bsome, (kR).rcv, adm_ok kR hn, bsome, kRs]
end MAN
/-! the draft of the model and the tape's roll and lives -/
def DrR (dr : Nat → Int32) (R : Rl) (lv : Nat → Nat) : Prop := (∀ i, i < 4 → dr i = 0) ∧ (∀ m, m < R.1 → dr (16 + m) = nI (R.2.1 m) ∧ dr (4 + m) = nI (lv m) ∧ dr (10 + m) = nI m ∧ 1 ≤ lv m ∧ lv m ≤ 60) ∧ (∀ m, m < R.1 → ∀ t, t < 3 → dr (22 + 3 * m + t) = nI (R.2.2.1 t m)) ∧ okR R
theorem DrR_new {dr dr2 : Nat → Int32} {n c l : Nat} {kd sb lv : Nat → Nat} {pl pl2 : Nat → Nat → Nat} (hn : n < 6) (h : DrR dr (n, kd, pl, sb) lv) (hc : c < 5) (hl1 : 1 ≤ l) (hl2 : l ≤ 60) (o : okR (n, kd, pl2, sb)) (h1 : ∀ m, m < n + 1 → ∀ u, u < 3 → dr2 (22 + 3 * m + u) = nI (pl2 u m)) (h2 : ∀ i, i < 22 → dr2 i = updN (updN (updN dr (16 + n) (nI c)) (4 + n) (nI l)) (10 + n) (nI n) i) : DrR dr2 (n + 1, updN kd n c, pl2, sb) (updN lv n l) := by
  refine ⟨fun i hi => ?_, fun m hm => ?_, h1, ⟨hn, fun m hm => ?_, o.2.2.1, o.2.2.2⟩⟩
  · rw [h2 i (by omega), updN_n (by omega), updN_n (by omega), updN_n (by omega)]
    exact h.1 i hi
  · have hm : m < n + 1 := hm
    show dr2 (16 + m) = nI (updN kd n c m) ∧ dr2 (4 + m) = nI (updN lv n l m) ∧ dr2 (10 + m) = nI m ∧ 1 ≤ updN lv n l m ∧ updN lv n l m ≤ 60
    rw [h2 (16 + m) (by omega), h2 (4 + m) (by omega), h2 (10 + m) (by omega), updN_n (show 16 + m ≠ 10 + n by omega), updN_n (show 16 + m ≠ 4 + n by omega), updN_n (show 4 + m ≠ 10 + n by omega)]
    by_cases e : m = n
    · subst e
      rw [updN_s, updN_s, updN_s, updN_s, updN_s]
      exact ⟨rfl, rfl, rfl, hl1, hl2⟩
    · obtain ⟨a1, a2, a3, a4, a5⟩ := h.2.1 m (show m < n by omega)
      rw [updN_n (by omega), updN_n (by omega), updN_n (by omega), updN_n (by omega), updN_n (by omega), updN_n (by omega), updN_n (by omega), updN_n (by omega)]
      exact ⟨a1, a2, a3, a4, a5⟩
  · show updN kd n c m < 5
    by_cases e : m = n
    · rw [e, updN_s]; exact hc
    · rw [updN_n e]; exact o.2.1 m hm
