/-! READ -/
section BEN
variable {s k : St} {kf : Int32} {X : Nat → Sh} {tr : Bn} {gu : Rl} {O : Od} {ch : Nat → Nat} {L : Nat → Nat} {len : Nat}
variable {S Le As Oo Im tp Sz Ln : Nat → Int32} {kp : Int32} {It Mv : Nat → Int64}
theorem comma_end (hT : okT L len) {R : Rl} {lv : Nat → Nat} {p : Nat} (hp : p ≤ len) (h : ¬ sk L len p < len) : m_X6_readComma 75 (chp s k kf (L, len, R, lv, p, 0) X tr gu O ch) = some (0, chp s k kf (L, len, R, lv, sk L len p, 0) X tr gu O ch) := by
  have h70 := hT.1
  have hq := sk_le (L := L) hp
  unfold m_X6_readComma
  rw [ctr, skipB_ok hT hp, bsome, k4, bsome, k1, bsome, if_neg (nI_nlt (by omega) (by omega))]
theorem comma_in (hT : okT L len) {R : Rl} {lv : Nat → Nat} {p : Nat} (hp : p ≤ len) (h : sk L len p < len) (hn : R.1 ≤ 6) : m_X6_readComma 75 (chp s k kf (L, len, R, lv, p, 0) X tr gu O ch) = if L (sk L len p) = 44 ∧ R.1 < 6 then some (1, chp s k kf (L, len, R, lv, sk L len p + 1, 0) X tr gu O ch) else some (0, chp s k kf (L, len, R, lv, sk L len p, -20 - nI (sk L len p)) X tr gu O ch) := by
  have h70 := hT.1
  have h1 := hT.2 _ h
  unfold m_X6_readComma m_X6_readComma_38
  rw [ctr, skipB_ok hT hp, bsome, k4, bsome, k1, bsome, if_pos (nI_lt h (by omega)), ctr, hereL hT (by omega), bsome]
  dsimp only
  rw [show hrC L len (sk L len p) = nI (L (sk L len p)) from if_pos h, show (44 : Int32) = nI 44 from rfl, ite_e (by omega) (by decide), k2, bsome, (kR).G0, bsome, show (6 : Int32) = nI 6 from rfl, ite_lt (by omega) (by decide), k4, bsome, nI_1, k4w, bsome, bsome, ctr, faultAt_ok, bsome]
  by_cases c1 : L (sk L len p) = 44
  · by_cases c2 : R.1 < 6
    · rw [if_pos c1, if_pos c2, if_pos ⟨c1, c2⟩]
    · rw [if_pos c1, if_neg c2, if_neg (fun z => c2 z.2)]
  · rw [if_neg c1, if_neg (fun z => c1 z.1)]
theorem bench_sim (hT : okT L len) (hM : ∀ i, i < len → tp i = nI (L i)) : ∀ (t n f g : Nat) (R : Rl) (lv : Nat → Nat) (dr : Nat → Int32) (p : Nat), n + t = 6 → t < f → t < g → R.1 = n → DrR dr R lv → p ≤ len →
    (∃ R2 lv2 p2 e dr2, m_X6_readBench_20 f 75 (nI n) (chp s k kf (L, len, R, lv, p, 0) X tr gu O ch) = some (-20 - nI e, chp s k kf (L, len, R2, lv2, p2, -20 - nI e) X tr gu O ch) ∧ m_X8_readsAll_7 g 0 (nI n) (mh S Le As Oo (Im, kp, tp, nI len, dr, nI p, It, Mv, Sz, Ln)) = some (-1, mh S Le As Oo (Im, kp, tp, nI len, dr2, nI e, It, Mv, Sz, Ln)) ∧ okR R2 ∧ e < 71)
    ∨ (∃ R2 lv2 q dr2, m_X6_readBench_20 f 75 (nI n) (chp s k kf (L, len, R, lv, p, 0) X tr gu O ch) = some (0, chp s k kf (L, len, R2, lv2, q, 0) X tr gu O ch) ∧ m_X8_readsAll_7 g 0 (nI n) (mh S Le As Oo (Im, kp, tp, nI len, dr, nI p, It, Mv, Sz, Ln)) = some (nI R2.1, mh S Le As Oo (Im, kp, tp, nI len, dr2, nI q, It, Mv, Sz, Ln)) ∧ DrR dr2 R2 lv2) := by
  have h70 := hT.1
  intro t
  induction t with
  | zero =>
    intro n f g R lv dr p hn hf hg hR hD hp
    obtain ⟨f, rfl⟩ := fuel_s hf
    obtain ⟨g, rfl⟩ := fuel_s hg
    obtain rfl : n = 6 := by omega
    refine Or.inr ⟨R, lv, p, dr, ?_, ?_, hD⟩
    · unfold m_X6_readBench_20 m_X6_readBench_53
      rw [if_pos (by decide), k5, bsome]
    · unfold m_X8_readsAll_7
      rw [if_pos (by decide), hR]
  | succ t ih =>
    intro n f g R lv dr p hn hf hg hR hD hp
    obtain ⟨f, rfl⟩ := fuel_s hf
    obtain ⟨g, rfl⟩ := fuel_s hg
    rcases man_sim (s := s) (k := k) (kf := kf) (X := X) (tr := tr) (gu := gu) (O := O) (ch := ch) (S := S) (Le := Le) (As := As) (Oo := Oo) (Im := Im) (kp := kp) (It := It) (Mv := Mv) (Sz := Sz) (Ln := Ln) hT hM hD (by omega) hp with ⟨R2, lv2, p2, e, dr2, z1, z2, z3, z4⟩ | ⟨R2, lv2, q, dr2, z1, z2, z3, z4, z5⟩
    · rw [hR] at z2
      refine Or.inl ⟨R2, lv2, p2, e, dr2, ?_, ?_, z3, z4⟩
      · unfold m_X6_readBench_20 m_X6_readBench_53
        rw [if_neg (show ¬ (6 : Int32) ≤ nI n from Lge 6 (by omega) (by decide)), ctr, z1, bsome, k5, bsome, if_neg (flt_all e z4), bsome]
      · unfold m_X8_readsAll_7
        rw [if_neg (show ¬ (6 : Int32) ≤ nI n from Lge 6 (by omega) (by decide)), g8r, z2, bsome]
        dsimp only
        rw [if_pos rfl]
    · rw [hR] at z2 z4
      have hq := sk_le (L := L) z5
      by_cases c : sk L len q < len
      · have h1 := hT.2 _ c
        have e1 : ltM L len (sk L len q) = nI (L (sk L len q)) := if_pos c
        have eC := comma_in (s := s) (k := k) (kf := kf) (X := X) (tr := tr) (gu := gu) (O := O) (ch := ch) (R := R2) (lv := lv2) hT z5 c (by omega)
        by_cases d : L (sk L len q) = 44 ∧ R2.1 < 6
        · rw [if_pos d] at eC
          have z := ih (n + 1) f g R2 lv2 dr2 (sk L len q + 1) (by omega) (by omega) (by omega) z4 z3 (by omega)
          have uC : m_X6_readBench_20 (f + 1) 75 (nI n) (chp s k kf (L, len, R, lv, p, 0) X tr gu O ch) = m_X6_readBench_20 f 75 (nI (n + 1)) (chp s k kf (L, len, R2, lv2, sk L len q + 1, 0) X tr gu O ch) := by
            conv => lhs; unfold m_X6_readBench_20
            unfold m_X6_readBench_53
            rw [if_neg (show ¬ (6 : Int32) ≤ nI n from Lge 6 (by omega) (by decide)), ctr, z1, bsome, k5, bsome, if_pos rfl, ctr, eC, bsome]
            dsimp only
            rw [if_neg one_ne, nI_1]
          have uM : m_X8_readsAll_7 (g + 1) 0 (nI n) (mh S Le As Oo (Im, kp, tp, nI len, dr, nI p, It, Mv, Sz, Ln)) = m_X8_readsAll_7 g 0 (nI (n + 1)) (mh S Le As Oo (Im, kp, tp, nI len, dr2, nI (sk L len q + 1), It, Mv, Sz, Ln)) := by
            conv => lhs; unfold m_X8_readsAll_7
            rw [if_neg (show ¬ (6 : Int32) ≤ nI n from Lge 6 (by omega) (by decide)), g8r, z2, bsome]
            dsimp only
            rw [if_neg one_ne, g8r, skips_ok hT hM z5, bsome]
            dsimp only
            rw [e1, if_pos (nI_pos' (by omega)), if_pos (show nI (L (sk L len q)) = 44 by rw [d.1]; rfl), nI_1, if_neg (show ¬ nI (n + 1) = 6 from fun z => by have := (nI_eq (b := 6) (by omega) (by decide)).mp z; omega), q6, bsome, nI_1, q6w, bsome]
          rw [uC, uM]
          exact z
        · rw [if_neg d] at eC
          refine Or.inl ⟨R2, lv2, sk L len q, sk L len q, dr2, ?_, ?_, z3.2.2.2, by omega⟩
          · unfold m_X6_readBench_20 m_X6_readBench_53
            rw [if_neg (show ¬ (6 : Int32) ≤ nI n from Lge 6 (by omega) (by decide)), ctr, z1, bsome, k5, bsome, if_pos rfl, ctr, eC, bsome]
            dsimp only
            rw [if_pos rfl, k5, bsome]
          · unfold m_X8_readsAll_7 m_X8_readsAll_49
            rw [if_neg (show ¬ (6 : Int32) ≤ nI n from Lge 6 (by omega) (by decide)), g8r, z2, bsome]
            dsimp only
            rw [if_neg one_ne, g8r, skips_ok hT hM z5, bsome]
            dsimp only
            rw [e1, if_pos (nI_pos' (by omega)), nI_1]
            by_cases d1 : L (sk L len q) = 44
            · have d2 : n + 1 = 6 := by
                by_cases d3 : R2.1 < 6
                · exact absurd ⟨d1, d3⟩ d
                · omega
              rw [if_pos (show nI (L (sk L len q)) = 44 by rw [d1]; rfl), if_pos (show nI (n + 1) = 6 by rw [d2]; rfl)]
            · rw [if_neg (show ¬ nI (L (sk L len q)) = 44 from fun z => d1 ((nI_eq (b := 44) (by omega) (by decide)).mp z))]
      · have e1 : ltM L len (sk L len q) = -1 := if_neg c
        refine Or.inr ⟨R2, lv2, sk L len q, dr2, ?_, ?_, z3⟩
        · unfold m_X6_readBench_20 m_X6_readBench_53
          rw [if_neg (show ¬ (6 : Int32) ≤ nI n from Lge 6 (by omega) (by decide)), ctr, z1, bsome, k5, bsome, if_pos rfl, ctr, comma_end hT z5 c, bsome]
          dsimp only
          rw [if_pos rfl, k5, bsome]
        · unfold m_X8_readsAll_7 m_X8_readsAll_49
          rw [if_neg (show ¬ (6 : Int32) ≤ nI n from Lge 6 (by omega) (by decide)), g8r, z2, bsome]
          dsimp only
          rw [if_neg one_ne, g8r, skips_ok hT hM z5, bsome]
          dsimp only
          rw [e1, if_neg (by decide), nI_1, z4]
end BEN
/-! the draft made empty; the draft taken -/
def zI (f : Nat → Int32) (i : Nat) : Nat → Int32 := fun q => if q < i then 0 else f q
theorem zI_s (f : Nat → Int32) (i : Nat) : updN (zI f i) i 0 = zI f (i + 1) := by
  funext q
  unfold updN zI
  by_cases e : q = i
  · rw [if_pos e, if_pos (by omega)]
  · rw [if_neg e]
    by_cases c : q < i
    · rw [if_pos c, if_pos (by omega)]
    · rw [if_neg c, if_neg (by omega)]
theorem zI_0 (f : Nat → Int32) : zI f 0 = f := by funext q; exact if_neg (by omega)
section RDM
variable {S Le As Oo Im tp dr Sz Ln : Nat → Int32} {kp ty at_ : Int32} {It Mv : Nat → Int64}
theorem read2_loop : ∀ (t i f : Nat), i + t = 40 → t < f → ∃ g, m_X8_read_2 f 0 (nI i) (mh S Le As Oo (Im, kp, tp, ty, zI dr i, at_, It, Mv, Sz, Ln)) = m_X8_read_2 (g + 1) 0 (nI 40) (mh S Le As Oo (Im, kp, tp, ty, zI dr 40, at_, It, Mv, Sz, Ln)) := by
  intro t
  induction t with
  | zero =>
    intro i f hi hf
    obtain ⟨f, rfl⟩ := fuel_s hf
    obtain rfl : i = 40 := by omega
    exact ⟨f, rfl⟩
  | succ t ih =>
    intro i f hi hf
    obtain ⟨f, rfl⟩ := fuel_s hf
    obtain ⟨g, e⟩ := ih (i + 1) f (by omega) (by omega)
    refine ⟨g, ?_⟩
    rw [← e]
    conv => lhs; unfold m_X8_read_2
    rw [if_neg (show ¬ (40 : Int32) ≤ nI i from Lge 40 (by omega) (by decide)), g85, bsome, wDr (by omega), bsome, zI_s, nI_1]
theorem read52_loop {x1 x2 : Int32} : ∀ (t i f : Nat), i + t = 40 → t < f → m_X8_read_52 f 0 x1 x2 (nI i) (mh (cpI dr S i) Le As Oo (Im, kp, tp, ty, dr, at_, It, Mv, Sz, Ln)) = some (x1, mh (updN (updN (updN (updN (cpI dr S 40) 0 x1) 1 x1) 3 x2) 40 0) Le As Oo (Im, kp, tp, ty, dr, at_, It, Mv, Sz, Ln)) := by
  intro t
  induction t with
  | zero =>
    intro i f hi hf
    obtain ⟨f, rfl⟩ := fuel_s hf
    obtain rfl : i = 40 := by omega
    unfold m_X8_read_52
    rw [if_pos (by decide), g80, bsome, wS0, bsome, g80, bsome, wS1, bsome, g80, bsome, wS3, bsome, g80, bsome, wS40, bsome]
  | succ t ih =>
    intro i f hi hf
    obtain ⟨f, rfl⟩ := fuel_s hf
    unfold m_X8_read_52
    rw [if_neg (show ¬ (40 : Int32) ≤ nI i from Lge 40 (by omega) (by decide)), g80, bsome, g85, bsome, rDr (by omega), bsome, wS (by omega), bsome, cpI_s, nI_1, ih (i + 1) f (by omega) (by omega)]
end RDM
theorem sim_read_ok : sim_read RR := by
  intro hX hM h0
  obtain ⟨s, k, kf, T, X, tr, gu, O, ch, S, Le, As, Oo, M, rfl, rfl, hS, hD⟩ := h0
  obtain ⟨Im, kp, tp, ty, dr, at_, It, Mv, Sz, Ln⟩ := M
  obtain ⟨L, len, R, lv, p, ft⟩ := T
  obtain ⟨d1, d2, ⟨t1, t2, t3, t4⟩, d4⟩ := hD
  have t1 : ty = nI len := t1
  subst t1
  have hT : okT L len := ⟨t2, fun i hi => (t3 i hi).2⟩
  have hM : ∀ i, i < len → tp i = nI (L i) := fun i hi => (t3 i hi).1
  have t4 : okR R := t4
  have hD0 : DrR (zI dr 40) (0, R.2) lv := ⟨fun i hi => if_pos (by omega), fun m hm => by have : m < 0 := hm; omega, fun m hm => by have : m < 0 := hm; omega, ⟨Nat.zero_le _, t4.2.1, t4.2.2.1, t4.2.2.2⟩⟩
  obtain ⟨g, e2⟩ := read2_loop (S := S) (Le := Le) (As := As) (Oo := Oo) (Im := Im) (kp := kp) (tp := tp) (ty := nI len) (dr := dr) (at_ := at_) (It := It) (Mv := Mv) (Sz := Sz) (Ln := Ln) 40 0 1000 rfl (by decide)
  rw [zI_0] at e2
  have e2 : m_X8_read 0 (mh S Le As Oo (Im, kp, tp, nI len, dr, at_, It, Mv, Sz, Ln)) = _ := e2
  rw [e2]
  clear e2
  have eB : m_X6_readBench 75 (chp s k kf (L, len, R, lv, p, ft) X tr gu O ch) = m_X6_readBench_20 1000 75 (nI 0) (chp s k kf (L, len, (0, R.2), lv, 0, 0) X tr gu O ch) := by
    unfold m_X6_readBench
    rw [k4z, bsome, k5w, bsome, k2, bsome, kR0, bsome]
    rfl
  rcases bench_sim (s := s) (k := k) (kf := kf) (X := X) (tr := tr) (gu := gu) (O := O) (ch := ch) (S := S) (Le := Le) (As := As) (Oo := Oo) (Im := Im) (kp := kp) (It := It) (Mv := Mv) (Sz := Sz) (Ln := Ln) hT hM 6 0 1000 1000 (0, R.2) lv (zI dr 40) 0 rfl (by decide) (by decide) rfl hD0 (Nat.zero_le _) with ⟨R2, lv2, p2, e, dr2, z1, z2, z3, z4⟩ | ⟨R2, lv2, q, dr2, z1, z2, z3⟩
  · refine ⟨-20 - nI e, chp s k kf (L, 0, R2, lv2, p2, -20 - nI e) X tr gu O ch, mh S Le As Oo (Im, kp, tp, 0, dr2, nI e, It, Mv, Sz, Ln), ?_, ?_, RR_mk hS ⟨d1, d2, ⟨rfl, Nat.zero_le _, fun i hi => by have : i < 0 := hi; omega, z3⟩, d4⟩⟩
    · unfold m_X7_read
      rw [c73, bsome, ctr, eB, z1, bsome]
      dsimp only
      rw [c73, bsome, k1w, bsome, if_neg (flt_all e z4)]
    · unfold m_X8_read_2 m_X8_readsAll
      rw [if_pos (by decide), g8r, q6w, bsome, show m_X8_readsAll_7 1000 0 0 (mh S Le As Oo (Im, kp, tp, nI len, zI dr 40, 0, It, Mv, Sz, Ln)) = _ from z2, bsome]
      dsimp only
      rw [q4w, bsome, if_neg (by decide), q6, bsome]
  · obtain ⟨n, kd, pl, sb⟩ := R2
    obtain ⟨x1, x2, x3, o1, o2, o3, o4⟩ := z3
    have o1 : n ≤ 6 := o1
    obtain ⟨mR, mB, wR, wB, hy, hk, h8, hx, hl⟩ := hS
    obtain ⟨⟨nn, kdO, plO, sbO⟩, ⟨lvO, svO, k0, y, d⟩, kn, nx, Lg0⟩ := s
    have hp3 : ∀ t, t < 3 → ∀ m, m < 6 → pl t m < 100 := fun t ht m hm => Nat.lt_trans (o3 t ht m hm) (by decide)
    have hx2 : ∀ m, m < n → dr2 (16 + m) = nI (kd m) ∧ dr2 (4 + m) = nI (lv2 m) ∧ dr2 (10 + m) = nI m ∧ 1 ≤ lv2 m ∧ lv2 m ≤ 60 := x2
    have hx3 : ∀ m, m < n → ∀ t, t < 3 → dr2 (22 + 3 * m + t) = nI (pl t m) := x3
    have eS : ∀ i, i < 40 → i ≠ 0 → i ≠ 1 → i ≠ 3 → updN (updN (updN (updN (cpI dr2 S 40) 0 (nI n)) 1 (nI n)) 3 (S 3)) 40 0 i = dr2 i := fun i h1 h2 h3 h4 => by
      rw [updN_n (by omega), updN_n h4, updN_n h3, updN_n h2]
      exact if_pos h1
    refine ⟨nI n, chp ((n, kd, pl, sbF n pl sb n), (cpyN lv2 lvO n, cpyN (fun i => i) svO n, n, 0, d), 0, nx, Lg0) k kf (L, 0, (n, kd, pl, sb), lv2, q, 0) X tr gu O ch, mh (updN (updN (updN (updN (cpI dr2 S 40) 0 (nI n)) 1 (nI n)) 3 (S 3)) 40 0) Le As Oo (Im, kp, tp, 0, dr2, nI q, It, Mv, Sz, Ln), ?_, ?_, RR_mk ⟨⟨rfl, fun m hm => ?_, fun m hm t ht => ?_⟩, ⟨rfl, ?_, ?_, fun m hm => ?_, fun j hj => ?_⟩, ⟨⟨o1, o2, o3, fun m hm => ?_⟩, fun m hm => ?_⟩, ⟨⟨o1, show (0 : Nat) < 100000 by decide, fun i hi => ?_, fun m hm => ?_⟩, Nat.le_refl _, fun i hi => ?_, fun i j hi hj e => ?_, fun m hm => ?_⟩, Nat.zero_le _, rfl, Nat.zero_le _, hx, fun i hi => by have : i < 0 := hi; omega⟩ ⟨d1, d2, ⟨rfl, Nat.zero_le _, fun i hi => by have : i < 0 := hi; omega, ⟨o1, o2, o3, o4⟩⟩, d4⟩⟩
    · unfold m_X7_read
      rw [c73, bsome, ctr, eB, z1, bsome]
      dsimp only
      rw [c73, bsome, k1w, bsome, if_pos rfl, c70, bsome, c10, bsome, c73, bsome, k2, bsome, (cR2).rcv, rtake_ok (by omega) cR77 cR2, bsome, sR2]
      dsimp only
      have A1 := cR2 (s := ((n, kd, pl, sb), (lvO, svO, k0, y, d), kn, nx, Lg0)) (k := k) (kf := kf) (T := (L, 0, (n, kd, pl, sb), lv2, q, 0)) (X := X) (tr := tr) (gu := gu) (O := O) (ch := ch)
      rw [c70, bsome, c10, bsome, A1.rcv, find_ok A1 o1 hp3, bsome, sR2]
      dsimp only
      have B1 := cB9 (s := ((n, kd, pl, sbF n pl sb n), (lvO, svO, k0, y, d), kn, nx, Lg0)) (k := k) (kf := kf) (T := (L, 0, (n, kd, pl, sb), lv2, q, 0)) (X := X) (tr := tr) (gu := gu) (O := O) (ch := ch)
      rw [c70, bsome, c11, bsome, c73, bsome, k2, bsome, (kR).g0, bsome, bsome, k3, bsome, B1.rcv, seatAll_ok (f6 := lv2) (by omega) o1 B1 atl, bsome, sB9]
      dsimp only
      rw [c70, bsome, c12, bsome, clr, forget_ok, bsome]
      dsimp only
      rw [c70, bsome, c10, bsome, (cR2).g0, bsome]
    · have e5 := read52_loop (S := S) (Le := Le) (As := As) (Oo := Oo) (Im := Im) (kp := kp) (tp := tp) (ty := 0) (dr := dr2) (at_ := nI q) (It := It) (Mv := Mv) (Sz := Sz) (Ln := Ln) (x1 := nI n) (x2 := S 3) 40 0 1000 rfl (by decide)
      rw [cpI_0] at e5
      unfold m_X8_read_2 m_X8_readsAll
      rw [if_pos (by decide), g8r, q6w, bsome, show m_X8_readsAll_7 1000 0 0 (mh S Le As Oo (Im, kp, tp, nI len, zI dr 40, 0, It, Mv, Sz, Ln)) = _ from z2, bsome]
      dsimp only
      rw [q4w, bsome, if_pos (nI_pos' (by omega)), g80, bsome, rS3, bsome]
      exact e5
    · have hm : m < n := hm
      rw [eS _ (by omega) (by omega) (by omega) (by omega)]
      exact (hx2 m hm).1
    · have hm : m < n := hm
      rw [eS _ (by omega) (by omega) (by omega) (by omega)]
      exact hx3 m hm t ht
    · rw [eS 2 (by decide) (by decide) (by decide) (by decide)]
      exact x1 2 (by decide)
    · rw [updN_n (by decide), updN_s]
      exact mB.2.2.1
    · have hm : m < n := hm
      rw [eS _ (by omega) (by omega) (by omega) (by omega)]
      show _ = nI (cpyN lv2 lvO n m)
      rw [show cpyN lv2 lvO n m = lv2 m from if_pos hm]
      exact (hx2 m hm).2.1
    · have hj : j < n := hj
      rw [eS _ (by omega) (by omega) (by omega) (by omega)]
      show _ = nI (cpyN (fun i => i) svO n j)
      rw [show cpyN (fun i => i) svO n j = j from if_pos hj]
      exact (hx2 j hj).2.2.1
    · show sbF n pl sb n m < 64
      unfold sbF
      split
      · exact sbN_lt o1
      · exact o4 m hm
    · show sbF n pl sb n m = _
      unfold sbF
      rw [if_pos hm]
    · have hi : i < n := hi
      show cpyN (fun i => i) svO n i < 6
      rw [show cpyN (fun i => i) svO n i = i from if_pos hi]
      omega
    · show cpyN lv2 lvO n m < 100
      by_cases c : m < n
      · rw [show cpyN lv2 lvO n m = lv2 m from if_pos c]
        have := (hx2 m c).2.2.2.2
        omega
      · rw [show cpyN lv2 lvO n m = lvO m from if_neg c]
        exact wB.1.2.2.2 m hm
    · have hi : i < n := hi
      show cpyN (fun i => i) svO n i < n
      rw [show cpyN (fun i => i) svO n i = i from if_pos hi]
      exact hi
    · have hi : i < n := hi
      have hj : j < n := hj
      have e : cpyN (fun i => i) svO n i = cpyN (fun i => i) svO n j := e
      rw [show cpyN (fun i => i) svO n i = i from if_pos hi, show cpyN (fun i => i) svO n j = j from if_pos hj] at e
      exact e
    · have hm : m < n := hm
      show cpyN lv2 lvO n m ≠ 0 ↔ ∃ i, i < n ∧ cpyN (fun i => i) svO n i = m
      rw [show cpyN lv2 lvO n m = lv2 m from if_pos hm]
      have := (hx2 m hm).2.2.2.1
      exact ⟨fun _ => ⟨m, hm, if_pos hm⟩, fun _ => by omega⟩
