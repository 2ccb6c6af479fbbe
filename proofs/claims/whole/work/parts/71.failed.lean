/-! FAILED: would he fail as the row tells? -/
def fitN (kd sb : Nat → Nat) (f : Nat → Int64) (m : Nat) : Nat → Nat → Bn → Bool
  | 0, _, _ => true
  | t + 1, i, B => if lg_cmp (f i) (nI ((yrB kd sb B).1 m)).toInt64 = 0 then fitN kd sb f m t (i + 1) (yrB kd sb B) else false
def kdR (R : Rl) (m c : Nat) : Rl := (R.1, updN R.2.1 m c, R.2.2.1, R.2.2.2)
def lvB (B : Bn) (m l : Nat) : Bn := (updN B.1 m l, B.2.1, B.2.2.1, B.2.2.2.1, B.2.2.2.2)
section FAI
variable {s k : St} {kf : Int32} {T : Tp} {X : Nat → Sh} {O : Od} {ch : Nat → Nat}
theorem doesFail_loop {gu : Rl} (oG : okR gu) {N m n a j : Nat} (hm : m < 6) (hj : j < 4) (ha : a + n ≤ 24) : ∀ (t y f : Nat) (tr : Bn), y + t = n → t < f → Wb N tr → tr.2.2.2.1 + t < 100000 → ∃ tr2, m_X7_doesFail_3 f 0 (nI m) (100 + 2 * j) (nI a) (nI n) (nI y) (chp s k kf T X tr gu O ch) = some (bI (fitN gu.2.1 gu.2.2.2 (X j).2.2.2 m t (a + y) tr), chp s k kf T X tr2 gu O ch) := by
  intro t
  induction t with
  | zero =>
    intro y f tr hy hf wB hyr
    obtain ⟨f, rfl⟩ := fuel_s hf
    refine ⟨tr, ?_⟩
    unfold m_X7_doesFail_3
    rw [if_pos (nI_le (by omega) (by omega))]
    rfl
  | succ t ih =>
    intro y f tr hy hf wB hyr
    obtain ⟨f, rfl⟩ := fuel_s hf
    obtain ⟨tr2, e⟩ := ih (y + 1) f (yrB gu.2.1 gu.2.2.2 tr) (by omega) (by omega) (Wb_yr wB (by omega)) (show tr.2.2.2.1 + 1 + t < 100000 by omega)
    by_cases c : lg_cmp ((X j).2.2.2 (a + y)) (nI ((yrB gu.2.1 gu.2.2.2 tr).1 m)).toInt64 = 0
    · refine ⟨tr2, ?_⟩
      unfold m_X7_doesFail_3
      rw [if_neg (nI_ge (by omega) (by omega)), c75, bsome, c76, bsome, (cB86).rcv, yr_ok (by omega) oG wB.1 cB86 cR89, sB86, bsome, sh_g3 hj, bsome, nI_add, sh_rl hj (by omega), bsome, c75, bsome, (cB86).g0, bsome, (cB86).al hm, bsome, if_pos c, nI_1, e]
      show _ = some (bI (if lg_cmp ((X j).2.2.2 (a + y)) (nI ((yrB gu.2.1 gu.2.2.2 tr).1 m)).toInt64 = 0 then fitN gu.2.1 gu.2.2.2 (X j).2.2.2 m t (a + y + 1) (yrB gu.2.1 gu.2.2.2 tr) else false), _)
      rw [if_pos c]
      rfl
    · refine ⟨yrB gu.2.1 gu.2.2.2 tr, ?_⟩
      unfold m_X7_doesFail_3
      rw [if_neg (nI_ge (by omega) (by omega)), c75, bsome, c76, bsome, (cB86).rcv, yr_ok (by omega) oG wB.1 cB86 cR89, sB86, bsome, sh_g3 hj, bsome, nI_add, sh_rl hj (by omega), bsome, c75, bsome, (cB86).g0, bsome, (cB86).al hm, bsome, if_neg c]
      show _ = some (bI (if lg_cmp ((X j).2.2.2 (a + y)) (nI ((yrB gu.2.1 gu.2.2.2 tr).1 m)).toInt64 = 0 then fitN gu.2.1 gu.2.2.2 (X j).2.2.2 m t (a + y + 1) (yrB gu.2.1 gu.2.2.2 tr) else false), _)
      rw [if_neg c]
      rfl
theorem doesFail_ok {gu : Rl} {tr : Bn} (oG : okR gu) {N m n a j : Nat} (hm : m < 6) (hj : j < 4) (ha : a + n ≤ 24) (wB : Wb N tr) (hy : tr.2.2.2.1 + n < 100000) : ∃ tr2, m_X7_doesFail 0 (nI m) (100 + 2 * j) (nI a) (nI n) (chp s k kf T X tr gu O ch) = some (bI (fitN gu.2.1 gu.2.2.2 (X j).2.2.2 m n a tr), chp s k kf T X tr2 gu O ch) := by
  obtain ⟨tr2, e⟩ := doesFail_loop (s := s) (k := k) (kf := kf) (T := T) (X := X) (O := O) (ch := ch) oG hm hj ha n 0 1000 tr (by omega) (by omega) wB hy
  exact ⟨tr2, e⟩
theorem okR_kd {R : Rl} (h : okR R) {m c : Nat} (hc : c < 5) : okR (kdR R m c) := by
  refine ⟨h.1, fun q hq => ?_, h.2.2.1, h.2.2.2⟩
  show updN R.2.1 m c q < 5
  by_cases e : q = m
  · rw [e, updN_s]; exact hc
  · rw [updN_n e]; exact h.2.1 q hq
theorem Wb_lv {N : Nat} {B : Bn} (h : Wb N B) {m l i : Nat} (hl : l < 100) (h0 : l ≠ 0) (hi : i < B.2.2.1) (he : B.2.1 i = m) : Wb N (lvB B m l) := by
  obtain ⟨⟨a1, a2, a3, a4⟩, b1, b2, b3, b4⟩ := h
  refine ⟨⟨a1, a2, a3, fun q hq => ?_⟩, b1, b2, b3, fun q hq => ?_⟩
  · show updN B.1 m l q < 100
    by_cases e : q = m
    · rw [e, updN_s]; exact hl
    · rw [updN_n e]; exact a4 q hq
  · show updN B.1 m l q ≠ 0 ↔ ∃ i, i < B.2.2.1 ∧ B.2.1 i = q
    by_cases e : q = m
    · rw [e, updN_s]
      exact ⟨fun _ => ⟨i, hi, he⟩, fun _ => h0⟩
    · rw [updN_n e]; exact b4 q hq
/-- kinds, lives that fit -/
def kdF (P : Nat → Bool) : Nat → Nat → Nat → Nat
  | _, 0, w => w
  | c, t + 1, w => kdF P (c + 1) t (if P c then w ||| 2 ^ c else w)
def cntU (P : Nat → Bool) : Nat → Nat → Nat
  | _, 0 => 0
  | l, t + 1 => (if P l then 1 else 0) + cntU P (l + 1) t
def lstU (P : Nat → Bool) : Nat → Nat → Int32
  | _, 0 => -4
  | l, t + 1 => if P l then nI l else lstU P (l + 1) t
theorem cntU_le (P : Nat → Bool) : ∀ t l, cntU P l t ≤ t := by
  intro t
  induction t with
  | zero => intro l; exact Nat.le_refl _
  | succ t ih =>
    intro l
    have := ih (l + 1)
    show (if P l then 1 else 0) + cntU P (l + 1) t ≤ t + 1
    split <;> omega
theorem kinds_loop (oR : okR s.1) (wB : Wb s.1.1 s.2.1) {m n a j : Nat} (hm : m < 6) (hj : j < 4) (ha : a + n ≤ 24) (hy : s.2.1.2.2.2.1 + n < 100000) : ∀ (t c f w : Nat) (tr : Bn) (gu : Rl), c + t = 5 → t < f → ∃ tr2 gu2, m_X7_kindsThatFit_6 f 0 (nI m) (100 + 2 * j) (nI a) (nI n) (nI w) (nI c) (chp s k kf T X tr gu O ch) = some (nI (kdF (fun c => fitN (updN s.1.2.1 m c) s.1.2.2.2 (X j).2.2.2 m n a s.2.1) c t w), chp s k kf T X tr2 gu2 O ch) := by
  intro t
  induction t with
  | zero =>
    intro c f w tr gu hc hf
    obtain ⟨f, rfl⟩ := fuel_s hf
    obtain rfl : c = 5 := by omega
    refine ⟨tr, gu, ?_⟩
    unfold m_X7_kindsThatFit_6
    rw [if_pos (by decide)]
    rfl
  | succ t ih =>
    intro c f w tr gu hc hf
    obtain ⟨f, rfl⟩ := fuel_s hf
    obtain ⟨tr2, e⟩ := doesFail_ok (s := s) (k := k) (kf := kf) (T := T) (X := X) (O := O) (ch := ch) (gu := kdR s.1 m c) (okR_kd oR (show c < 5 by omega)) hm hj ha wB hy
    have e0 : m_X7_kindsThatFit_6 (f + 1) 0 (nI m) (100 + 2 * j) (nI a) (nI n) (nI w) (nI c) (chp s k kf T X tr gu O ch) = m_X7_kindsThatFit_6 f 0 (nI m) (100 + 2 * j) (nI a) (nI n) (nI (if fitN (updN s.1.2.1 m c) s.1.2.2.2 (X j).2.2.2 m n a s.2.1 then w ||| 2 ^ c else w)) (nI (c + 1)) (chp s k kf T X tr2 (kdR s.1 m c) O ch) := by
      conv => lhs; unfold m_X7_kindsThatFit_6
      unfold m_X7_kindsThatFit_72
      rw [if_neg (show ¬ (5 : Int32) ≤ nI c from Lge 5 (by omega) (by decide)), c76, bsome, c70, bsome, c10, bsome, (cR89).rcv, rtake_ok (by omega) cR2 cR89, bsome, sR89, c76, bsome, (cR89).g1, bsome, (cR89).wk hm, bsome, sR89, c75, bsome, c70, bsome, c11, bsome, (cB86).rcv, takeFrom_ok (by omega) cB9 cB86, bsome, sB86, c7r, show m_X7_doesFail 0 (nI m) (100 + 2 * j) (nI a) (nI n) (chp s k kf T X s.2.1 (s.1.1, updN s.1.2.1 m c, s.1.2.2.1, s.1.2.2.2) O ch) = _ from e, bsome]
      dsimp only
      rw [ite_b, one_shl (by omega), or_nI, nI_1]
      show (if fitN (updN s.1.2.1 m c) s.1.2.2.2 (X j).2.2.2 m n a s.2.1 then _ else _) = _
      cases fitN (updN s.1.2.1 m c) s.1.2.2.2 (X j).2.2.2 m n a s.2.1 <;> rfl
    obtain ⟨tr3, gu3, e3⟩ := ih (c + 1) f (if fitN (updN s.1.2.1 m c) s.1.2.2.2 (X j).2.2.2 m n a s.2.1 then w ||| 2 ^ c else w) tr2 (kdR s.1 m c) (by omega) (by omega)
    exact ⟨tr3, gu3, e0.trans e3⟩
theorem lifeFit_ok {tr : Bn} {gu : Rl} (oR : okR s.1) (wB : Wb s.1.1 s.2.1) {m n a j l i : Nat} (hm : m < 6) (hj : j < 4) (ha : a + n ≤ 24) (hy : s.2.1.2.2.2.1 + n < 100000) (hl : l < 100) (h0 : l ≠ 0) (hi : i < s.2.1.2.2.1) (he : s.2.1.2.1 i = m) : ∃ tr2 gu2, m_X7_doesLifeFit 0 (nI m) (nI l) (100 + 2 * j) (nI a) (nI n) (chp s k kf T X tr gu O ch) = some (bI (fitN s.1.2.1 s.1.2.2.2 (X j).2.2.2 m n a (lvB s.2.1 m l)), chp s k kf T X tr2 gu2 O ch) := by
  obtain ⟨tr2, e⟩ := doesFail_ok (s := s) (k := k) (kf := kf) (T := T) (X := X) (O := O) (ch := ch) (gu := s.1) oR hm hj ha (Wb_lv wB hl h0 hi he) hy
  refine ⟨tr2, s.1, ?_⟩
  unfold m_X7_doesLifeFit
  rw [c76, bsome, c70, bsome, c10, bsome, (cR89).rcv, rtake_ok (by omega) cR2 cR89, bsome, sR89, c75, bsome, c70, bsome, c11, bsome, (cB86).rcv, takeFrom_ok (by omega) cB9 cB86, bsome, sB86, c75, bsome, (cB86).g0, bsome, (cB86).wl hm, bsome, sB86, c7r, show m_X7_doesFail 0 (nI m) (100 + 2 * j) (nI a) (nI n) (chp s k kf T X (updN s.2.1.1 m l, s.2.1.2.1, s.2.1.2.2.1, s.2.1.2.2.2.1, s.2.1.2.2.2.2) s.1 O ch) = _ from e, bsome]
  exact rz_b _ _
theorem many_loop (oR : okR s.1) (wB : Wb s.1.1 s.2.1) {m n a j i : Nat} (hm : m < 6) (hj : j < 4) (ha : a + n ≤ 24) (hy : s.2.1.2.2.2.1 + n < 100000) (hi : i < s.2.1.2.2.1) (he : s.2.1.2.1 i = m) : ∀ (t l f w : Nat) (tr : Bn) (gu : Rl), l + t = 61 → 0 < l → t < f → ∃ tr2 gu2, m_X7_howManyLivesFit_6 f 0 (nI m) (100 + 2 * j) (nI a) (nI n) (nI w) (nI l) (chp s k kf T X tr gu O ch) = some (nI (w + cntU (fun l => fitN s.1.2.1 s.1.2.2.2 (X j).2.2.2 m n a (lvB s.2.1 m l)) l t), chp s k kf T X tr2 gu2 O ch) := by
  intro t
  induction t with
  | zero =>
    intro l f w tr gu hl h0 hf
    obtain ⟨f, rfl⟩ := fuel_s hf
    obtain rfl : l = 61 := by omega
    refine ⟨tr, gu, ?_⟩
    unfold m_X7_howManyLivesFit_6
    rw [if_pos (by decide)]
    rfl
  | succ t ih =>
    intro l f w tr gu hl h0 hf
    obtain ⟨f, rfl⟩ := fuel_s hf
    obtain ⟨tr2, gu2, e⟩ := lifeFit_ok (k := k) (kf := kf) (T := T) (X := X) (O := O) (ch := ch) (tr := tr) (gu := gu) oR wB (l := l) hm hj ha hy (by omega) (by omega) hi he
    obtain ⟨tr3, gu3, e3⟩ := ih (l + 1) f (w + if fitN s.1.2.1 s.1.2.2.2 (X j).2.2.2 m n a (lvB s.2.1 m l) then 1 else 0) tr2 gu2 (by omega) (by omega) (by omega)
    refine ⟨tr3, gu3, ?_⟩
    unfold m_X7_howManyLivesFit_6 m_X7_howManyLivesFit_30
    rw [if_neg (show ¬ (60 : Int32) < nI l from nI_nlt (a := 60) (by omega) (by decide)), c7r, e, bsome]
    dsimp only
    rw [ite_b, nI_1, nI_1]
    show _ = some (nI (w + ((if fitN s.1.2.1 s.1.2.2.2 (X j).2.2.2 m n a (lvB s.2.1 m l) then 1 else 0) + cntU (fun l => fitN s.1.2.1 s.1.2.2.2 (X j).2.2.2 m n a (lvB s.2.1 m l)) (l + 1) t)), _)
    rw [← Nat.add_assoc, ← e3]
    cases fitN s.1.2.1 s.1.2.2.2 (X j).2.2.2 m n a (lvB s.2.1 m l) <;> rfl
theorem least_loop (oR : okR s.1) (wB : Wb s.1.1 s.2.1) {m n a j i : Nat} (hm : m < 6) (hj : j < 4) (ha : a + n ≤ 24) (hy : s.2.1.2.2.2.1 + n < 100000) (hi : i < s.2.1.2.2.1) (he : s.2.1.2.1 i = m) : ∀ (t l f : Nat) (tr : Bn) (gu : Rl), l + t = 61 → 0 < l → t < f → ∃ tr2 gu2, m_X7_leastLifeThatFits_3 f 0 (nI m) (100 + 2 * j) (nI a) (nI n) (nI l) (chp s k kf T X tr gu O ch) = some (lstU (fun l => fitN s.1.2.1 s.1.2.2.2 (X j).2.2.2 m n a (lvB s.2.1 m l)) l t, chp s k kf T X tr2 gu2 O ch) := by
  intro t
  induction t with
  | zero =>
    intro l f tr gu hl h0 hf
    obtain ⟨f, rfl⟩ := fuel_s hf
    obtain rfl : l = 61 := by omega
    refine ⟨tr, gu, ?_⟩
    unfold m_X7_leastLifeThatFits_3
    rw [if_pos (by decide)]
    rfl
  | succ t ih =>
    intro l f tr gu hl h0 hf
    obtain ⟨f, rfl⟩ := fuel_s hf
    obtain ⟨tr2, gu2, e⟩ := lifeFit_ok (k := k) (kf := kf) (T := T) (X := X) (O := O) (ch := ch) (tr := tr) (gu := gu) oR wB (l := l) hm hj ha hy (by omega) (by omega) hi he
    obtain ⟨tr3, gu3, e3⟩ := ih (l + 1) f tr2 gu2 (by omega) (by omega) (by omega)
    have e0 : m_X7_leastLifeThatFits_3 (f + 1) 0 (nI m) (100 + 2 * j) (nI a) (nI n) (nI l) (chp s k kf T X tr gu O ch) = if fitN s.1.2.1 s.1.2.2.2 (X j).2.2.2 m n a (lvB s.2.1 m l) then some (nI l, chp s k kf T X tr2 gu2 O ch) else m_X7_leastLifeThatFits_3 f 0 (nI m) (100 + 2 * j) (nI a) (nI n) (nI (l + 1)) (chp s k kf T X tr2 gu2 O ch) := by
      conv => lhs; unfold m_X7_leastLifeThatFits_3
      rw [if_neg (show ¬ (60 : Int32) < nI l from nI_nlt (a := 60) (by omega) (by decide)), c7r, e, bsome]
      dsimp only
      rw [ite_b, nI_1]
    rw [e0, e3]
    by_cases c : fitN s.1.2.1 s.1.2.2.2 (X j).2.2.2 m n a (lvB s.2.1 m l) = true
    · refine ⟨tr2, gu2, ?_⟩
      rw [if_pos c]
      show _ = some ((if fitN s.1.2.1 s.1.2.2.2 (X j).2.2.2 m n a (lvB s.2.1 m l) then nI l else lstU (fun l => fitN s.1.2.1 s.1.2.2.2 (X j).2.2.2 m n a (lvB s.2.1 m l)) (l + 1) t), _)
      rw [if_pos c]
    · refine ⟨tr3, gu3, ?_⟩
      rw [if_neg c]
      show _ = some ((if fitN s.1.2.1 s.1.2.2.2 (X j).2.2.2 m n a (lvB s.2.1 m l) then nI l else lstU (fun l => fitN s.1.2.1 s.1.2.2.2 (X j).2.2.2 m n a (lvB s.2.1 m l)) (l + 1) t), _)
      rw [if_neg c]
end FAI
/-! the model's -/
section FAM
variable {S As Oo Im tp dr Sz Ln : Nat → Int32} {kp ty at_ : Int32} {It Mv : Nat → Int64}
theorem isSo_loop {R : Rl} {g : Nat → Int64} (wR : Wr R) {m n a j : Nat} (hm : m < R.1) (hj : j < 4) (ha : a + n ≤ 24) (hg : ∀ i, i < 24 → It (24 * j + i) = g i) : ∀ (t y f : Nat) (S2 Le : Nat → Int32) (tr : Bn), y + t = n → t < f → frR S S2 R tr → tr.2.2.2.1 + t < 100000 → ∃ Le2, m_X8_isSo_6 f 0 (nI m) (nI (24 * j + a)) (nI n) 1 (nI y) (mh S2 Le (cpI S As 40) Oo (Im, kp, tp, ty, dr, at_, It, Mv, Sz, Ln)) = some (bI (fitN R.2.1 R.2.2.2 g m t (a + y) tr), mh S Le2 (cpI S As 40) Oo (Im, kp, tp, ty, dr, at_, It, Mv, Sz, Ln)) := by
  have o1 := wR.1.1
  intro t
  induction t with
  | zero =>
    intro y f S2 Le tr hy hf F hyr
    obtain ⟨f, rfl⟩ := fuel_s hf
    refine ⟨Le, ?_⟩
    unfold m_X8_isSo_6 m_X8_isSo_56
    rw [if_pos (nI_le (by omega) (by omega)), g8r, lets_ok F.2.2.2, bsome, rz_1]
    rfl
  | succ t ih =>
    intro y f S2 Le tr hy hf F hyr
    obtain ⟨f, rfl⟩ := fuel_s hf
    obtain ⟨S3, Le3, e, F3⟩ := frR_step (Le := Le) (As := cpI S As 40) (Oo := Oo) (M := (Im, kp, tp, ty, dr, at_, It, Mv, Sz, Ln)) wR F (by omega)
    obtain ⟨Le4, e4⟩ := ih (y + 1) f S3 Le3 _ (by omega) (by omega) F3 (show tr.2.2.2.1 + 1 + t < 100000 by omega)
    have e0 : m_X8_isSo_6 (f + 1) 0 (nI m) (nI (24 * j + a)) (nI n) 1 (nI y) (mh S2 Le (cpI S As 40) Oo (Im, kp, tp, ty, dr, at_, It, Mv, Sz, Ln)) = if lg_cmp (g (a + y)) (nI ((yrB R.2.1 R.2.2.2 tr).1 m)).toInt64 = 0 then m_X8_isSo_6 f 0 (nI m) (nI (24 * j + a)) (nI n) 1 (nI (y + 1)) (mh S3 Le3 (cpI S As 40) Oo (Im, kp, tp, ty, dr, at_, It, Mv, Sz, Ln)) else m_X8_isSo_6 f 0 (nI m) (nI (24 * j + a)) (nI n) 0 (nI (y + 1)) (mh S3 Le3 (cpI S As 40) Oo (Im, kp, tp, ty, dr, at_, It, Mv, Sz, Ln)) := by
      conv => lhs; unfold m_X8_isSo_6
      unfold m_X8_isSo_48
      rw [if_neg (nI_ge (by omega) (by omega)), if_neg one_ne, g8r, e, bsome, g87, bsome, nI_add, rIt (by omega), bsome, g80, bsome, ix4, rS (by omega), bsome, F3.2.1.2.2.2.1 m hm, show 24 * j + a + y = 24 * j + (a + y) by omega, hg _ (by omega), nI_1]
    rw [e0, e4]
    by_cases c : lg_cmp (g (a + y)) (nI ((yrB R.2.1 R.2.2.2 tr).1 m)).toInt64 = 0
    · refine ⟨Le4, ?_⟩
      rw [if_pos c]
      show _ = some (bI (if lg_cmp (g (a + y)) (nI ((yrB R.2.1 R.2.2.2 tr).1 m)).toInt64 = 0 then fitN R.2.1 R.2.2.2 g m t (a + y + 1) (yrB R.2.1 R.2.2.2 tr) else false), _)
      rw [if_pos c]
      rfl
    · refine ⟨Le3, ?_⟩
      rw [if_neg c]
      show _ = some (bI (if lg_cmp (g (a + y)) (nI ((yrB R.2.1 R.2.2.2 tr).1 m)).toInt64 = 0 then fitN R.2.1 R.2.2.2 g m t (a + y + 1) (yrB R.2.1 R.2.2.2 tr) else false), _)
      rw [if_neg c]
      obtain ⟨f, rfl⟩ := fuel_s (show t < f by omega)
      unfold m_X8_isSo_6 m_X8_isSo_56
      rw [if_pos (show (0 : Int32) = 0 from rfl), ite_self, g8r, lets_ok F3.2.2.2, bsome, rz_0]
      rfl
theorem isSo_ok {R : Rl} {g : Nat → Int64} (wR : Wr R) {m n a j : Nat} (hm : m < R.1) (hj : j < 4) (ha : a + n ≤ 24) (hg : ∀ i, i < 24 → It (24 * j + i) = g i) {S2 Le : Nat → Int32} {tr : Bn} (F : frR S S2 R tr) (hy : tr.2.2.2.1 + n < 100000) : ∃ Le2, m_X8_isSo 0 (nI m) (nI (24 * j + a)) (nI n) (mh S2 Le (cpI S As 40) Oo (Im, kp, tp, ty, dr, at_, It, Mv, Sz, Ln)) = some (bI (fitN R.2.1 R.2.2.2 g m n a tr), mh S Le2 (cpI S As 40) Oo (Im, kp, tp, ty, dr, at_, It, Mv, Sz, Ln)) := by
  obtain ⟨Le2, e⟩ := isSo_loop (As := As) (Oo := Oo) (Im := Im) (kp := kp) (tp := tp) (ty := ty) (dr := dr) (at_ := at_) (Mv := Mv) (Sz := Sz) (Ln := Ln) wR hm hj ha hg n 0 1000 S2 Le tr (by omega) (by omega) F hy
  exact ⟨Le2, e⟩
theorem frR_kd {s : St} (hS : stR S s) {m c : Nat} (hm : m < s.1.1) : frR S (updN S (16 + m) (nI c)) (kdR s.1 m c) s.2.1 := by
  have o1 := hS.2.2.1.1.1
  obtain ⟨⟨a1, a2, a3⟩, ⟨b1, b2, b3, b4, b5⟩, wR, wB, -⟩ := hS
  have k6 := wB.1.1
  have kn := wB.2.1
  refine ⟨⟨?_, fun q hq => ?_, fun q hq t ht => ?_⟩, ⟨?_, ?_, ?_, fun q hq => ?_, fun q hq => ?_⟩, wB, fun i hi => updN_n (by omega)⟩
  · rw [updN_n (by omega)]; exact a1
  · show updN S (16 + m) (nI c) (16 + q) = nI (updN s.1.2.1 m c q)
    have hq : q < s.1.1 := hq
    by_cases e : q = m
    · rw [e, updN_s, updN_s]
    · rw [updN_n (by omega), updN_n e]; exact a2 q hq
  · have hq : q < s.1.1 := hq
    rw [updN_n (by omega)]; exact a3 q hq t ht
  · rw [updN_n (by omega)]; exact b1
  · rw [updN_n (by omega)]; exact b2
  · rw [updN_n (by omega)]; exact b3
  · have hq : q < s.1.1 := hq
    rw [updN_n (by omega)]; exact b4 q hq
  · rw [updN_n (by omega)]; exact b5 q hq
theorem frR_lv {s : St} (hS : stR S s) {m l i : Nat} (hm : m < s.1.1) (hl : l < 100) (h0 : l ≠ 0) (hi : i < s.2.1.2.2.1) (he : s.2.1.2.1 i = m) : frR S (updN S (4 + m) (nI l)) s.1 (lvB s.2.1 m l) := by
  have o1 := hS.2.2.1.1.1
  obtain ⟨⟨a1, a2, a3⟩, ⟨b1, b2, b3, b4, b5⟩, wR, wB, -⟩ := hS
  have k6 := wB.1.1
  refine ⟨⟨?_, fun q hq => ?_, fun q hq t ht => ?_⟩, ⟨?_, ?_, ?_, fun q hq => ?_, fun q hq => ?_⟩, Wb_lv wB hl h0 hi he, fun i hi => updN_n (by omega)⟩
  · rw [updN_n (by omega)]; exact a1
  · rw [updN_n (by omega)]; exact a2 q hq
  · rw [updN_n (by omega)]; exact a3 q hq t ht
  · rw [updN_n (by omega)]; exact b1
  · rw [updN_n (by omega)]; exact b2
  · rw [updN_n (by omega)]; exact b3
  · show updN S (4 + m) (nI l) (4 + q) = nI (updN s.2.1.1 m l q)
    by_cases e : q = m
    · rw [e, updN_s, updN_s]
    · rw [updN_n (by omega), updN_n e]; exact b4 q hq
  · have hq : q < s.2.1.2.2.1 := hq
    rw [updN_n (by omega)]; exact b5 q hq
theorem kinds8_loop {s : St} {g : Nat → Int64} (hS : stR S s) {m n a j : Nat} {x6 : Int32} (hm : m < s.1.1) (hj : j < 4) (ha : a + n ≤ 24) (hg : ∀ i, i < 24 → It (24 * j + i) = g i) (hy : s.2.1.2.2.2.1 + n < 100000) : ∀ (t c f w : Nat) (Le : Nat → Int32), c + t = 5 → t < f → ∃ Le2, m_X8_failed_99 f 0 (nI m) (nI n) x6 (nI (24 * j + a)) (nI w) (nI c) (mh S Le (cpI S As 40) Oo (Im, kp, tp, ty, dr, at_, It, Mv, Sz, Ln)) = m_X8_failed_158 1000 0 (nI m) (nI n) x6 (nI (24 * j + a)) (nI (kdF (fun c => fitN (updN s.1.2.1 m c) s.1.2.2.2 g m n a s.2.1) c t w)) 0 (-4) 60 (mh S Le2 (cpI S As 40) Oo (Im, kp, tp, ty, dr, at_, It, Mv, Sz, Ln)) := by
  have o1 := hS.2.2.1.1.1
  intro t
  induction t with
  | zero =>
    intro c f w Le hc hf
    obtain ⟨f, rfl⟩ := fuel_s hf
    obtain rfl : c = 5 := by omega
    refine ⟨Le, ?_⟩
    conv => lhs; unfold m_X8_failed_99
    rw [if_pos (by decide)]
    rfl
  | succ t ih =>
    intro c f w Le hc hf
    obtain ⟨f, rfl⟩ := fuel_s hf
    have wR : Wr (kdR s.1 m c) := ⟨okR_kd hS.2.2.1.1 (show c < 5 by omega), hS.2.2.1.2⟩
    obtain ⟨Le2, e⟩ := isSo_ok (Le := Le) (As := As) (Oo := Oo) (Im := Im) (kp := kp) (tp := tp) (ty := ty) (dr := dr) (at_ := at_) (Mv := Mv) (Sz := Sz) (Ln := Ln) wR (m := m) hm hj ha hg (frR_kd hS hm) hy
    obtain ⟨Le3, e3⟩ := ih (c + 1) f (if fitN (updN s.1.2.1 m c) s.1.2.2.2 g m n a s.2.1 then w ||| 2 ^ c else w) Le2 (by omega) (by omega)
    refine ⟨Le3, ?_⟩
    have e0 : m_X8_failed_99 (f + 1) 0 (nI m) (nI n) x6 (nI (24 * j + a)) (nI w) (nI c) (mh S Le (cpI S As 40) Oo (Im, kp, tp, ty, dr, at_, It, Mv, Sz, Ln)) = m_X8_failed_99 f 0 (nI m) (nI n) x6 (nI (24 * j + a)) (nI (if fitN (updN s.1.2.1 m c) s.1.2.2.2 g m n a s.2.1 then w ||| 2 ^ c else w)) (nI (c + 1)) (mh S Le2 (cpI S As 40) Oo (Im, kp, tp, ty, dr, at_, It, Mv, Sz, Ln)) := by
      conv => lhs; unfold m_X8_failed_99
      unfold m_X8_failed_138
      rw [if_neg (show ¬ (4 : Int32) < nI c from nI_nlt (a := 4) (by omega) (by decide)), g80, bsome, ix16, wS (by omega), bsome, g8r, e, bsome]
      dsimp only
      rw [ite_b, one_shl (by omega), or_nI, show nI w ||| 0 = nI (w ||| 0) from or_nI w 0, Nat.or_zero, nI_1]
      show (if fitN (updN s.1.2.1 m c) s.1.2.2.2 g m n a s.2.1 then _ else _) = _
      cases fitN (updN s.1.2.1 m c) s.1.2.2.2 g m n a s.2.1 <;> rfl
    exact e0.trans e3
theorem lives8f_loop {s : St} {g : Nat → Int64} (hS : stR S s) {m n a j i : Nat} {x6 w : Int32} (hm : m < s.1.1) (hj : j < 4) (ha : a + n ≤ 24) (hg : ∀ i, i < 24 → It (24 * j + i) = g i) (hy : s.2.1.2.2.2.1 + n < 100000) (hi : i < s.2.1.2.2.1) (he : s.2.1.2.1 i = m) : ∀ (l f : Nat) (Le : Nat → Int32), l ≤ 60 → l < f → ∃ Le2, m_X8_failed_158 f 0 (nI m) (nI n) x6 (nI (24 * j + a)) w (nI (cntU (fun l => fitN s.1.2.1 s.1.2.2.2 g m n a (lvB s.2.1 m l)) (l + 1) (60 - l))) (lstU (fun l => fitN s.1.2.1 s.1.2.2.2 g m n a (lvB s.2.1 m l)) (l + 1) (60 - l)) (nI l) (mh S Le (cpI S As 40) Oo (Im, kp, tp, ty, dr, at_, It, Mv, Sz, Ln)) = some (if x6 = 0 then w else if x6 = 1 then nI (cntU (fun l => fitN s.1.2.1 s.1.2.2.2 g m n a (lvB s.2.1 m l)) 1 60) else lstU (fun l => fitN s.1.2.1 s.1.2.2.2 g m n a (lvB s.2.1 m l)) 1 60, mh S Le2 (cpI S As 40) Oo (Im, kp, tp, ty, dr, at_, It, Mv, Sz, Ln)) := by
  have o1 := hS.2.2.1.1.1
  intro l
  induction l with
  | zero =>
    intro f Le hl hf
    obtain ⟨f, rfl⟩ := fuel_s hf
    refine ⟨Le, ?_⟩
    unfold m_X8_failed_158 m_X8_failed_242
    rw [if_pos (show nI 0 ≤ (0 : Int32) by decide)]
    split
    · rfl
    · split <;> rfl
  | succ l ih =>
    intro f Le hl hf
    obtain ⟨f, rfl⟩ := fuel_s hf
    obtain ⟨Le2, e⟩ := isSo_ok (Le := Le) (As := As) (Oo := Oo) (Im := Im) (kp := kp) (tp := tp) (ty := ty) (dr := dr) (at_ := at_) (Mv := Mv) (Sz := Sz) (Ln := Ln) hS.2.2.1 hm hj ha hg (frR_lv hS (l := l + 1) hm (by omega) (by omega) hi he) hy
    obtain ⟨Le3, e3⟩ := ih f Le2 (by omega) (by omega)
    refine ⟨Le3, ?_⟩
    rw [← e3]
    conv => lhs; unfold m_X8_failed_158
    unfold m_X8_failed_196 m_X8_failed_211
    rw [if_neg (nI_nle (by omega) (by omega)), g80, bsome, ix4, wS (by omega), bsome, g8r, e, bsome]
    dsimp only
    simp only [ite_b]
    rw [pk_m1, nI_1, show ∀ q : Nat, nI q + 0 = nI (q + 0) from fun q => nI_add q 0, show 60 - l = (60 - (l + 1)) + 1 by omega]
    show _ = m_X8_failed_158 f 0 (nI m) (nI n) x6 (nI (24 * j + a)) w (nI ((if fitN s.1.2.1 s.1.2.2.2 g m n a (lvB s.2.1 m (l + 1)) then 1 else 0) + cntU (fun l => fitN s.1.2.1 s.1.2.2.2 g m n a (lvB s.2.1 m l)) (l + 1 + 1) (60 - (l + 1)))) (if fitN s.1.2.1 s.1.2.2.2 g m n a (lvB s.2.1 m (l + 1)) then nI (l + 1) else lstU (fun l => fitN s.1.2.1 s.1.2.2.2 g m n a (lvB s.2.1 m l)) (l + 1 + 1) (60 - (l + 1))) (nI l) _
    cases fitN s.1.2.1 s.1.2.2.2 g m n a (lvB s.2.1 m (l + 1)) with
    | true =>
      simp only [if_true, Nat.add_comm 1]
    | false =>
      simp only [Bool.false_eq_true, if_false, Nat.zero_add, Nat.add_zero]
end FAM
theorem sim_failed_ok : sim_failed RR := by
  intro hX hM x1 x2 x3 x4 x5 x6 h0
  have h1 := h0
  obtain ⟨s, k, kf, T, X, tr, gu, O, ch, S, Le, As, Oo, M, rfl, rfl, hS, hD⟩ := h1
  obtain ⟨Im, kp, tp, ty, dr, at_, It, Mv, Sz, Ln⟩ := M
  have AR := cR2 (s := s) (k := k) (kf := kf) (T := T) (X := X) (tr := tr) (gu := gu) (O := O) (ch := ch)
  have o1 := hS.2.2.1.1.1
  have hy := hS.2.2.2.2.1
  rcases man_or x1 o1 with e1 | ⟨m, hm, rfl, e1⟩
  · refine ⟨-1, _, _, ?_, ?_, h0⟩
    · unfold m_X7_failed
      rw [c70, bsome, c10, bsome, AR.rcv, has_ok3 AR, bsome, e1]
      rfl
    · unfold m_X8_failed
      rw [g8r, isMan_ok hS.1, bsome, e1]
      rfl
  · rcases inB_or x2 (lo := 0) (hi := 3) 0 3 rfl rfl (by decide) (by decide) with e2 | ⟨j, -, hj, rfl, e2⟩
    · refine ⟨-1, _, _, ?_, ?_, h0⟩
      · unfold m_X7_failed
        rw [c70, bsome, c10, bsome, AR.rcv, has_ok3 AR, bsome, e1, if_neg one_ne, isSheet_ok, bsome, e2]
        rfl
      · unfold m_X8_failed
        rw [g8r, isMan_ok hS.1, bsome, e1, if_neg one_ne, isSheet8_ok, bsome, e2]
        rfl
    · rcases inB_01 x3 0 3 with e3 | e3
      · refine ⟨-1, _, _, ?_, ?_, h0⟩
        · unfold m_X7_failed
          rw [c70, bsome, c10, bsome, AR.rcv, has_ok3 AR, bsome, e1, if_neg one_ne, isSheet_ok, bsome, e2, if_neg one_ne, isLane_ok, bsome, e3]
          rfl
        · unfold m_X8_failed
          rw [g8r, isMan_ok hS.1, bsome, e1, if_neg one_ne, isSheet8_ok, bsome, e2, if_neg one_ne, in_ok, bsome, e3]
          rfl
      · rcases inB_or x5 (lo := 1) (hi := 8) 1 8 rfl rfl (by decide) (by decide) with e4 | ⟨n, n1, n2, rfl, e4⟩
        · refine ⟨-1, _, _, ?_, ?_, h0⟩
          · unfold m_X7_failed
            rw [c70, bsome, c10, bsome, AR.rcv, has_ok3 AR, bsome, e1, if_neg one_ne, isSheet_ok, bsome, e2, if_neg one_ne, isLane_ok, bsome, e3, if_neg one_ne, within_ok, bsome, e4]
            rfl
          · unfold m_X8_failed
            rw [g8r, isMan_ok hS.1, bsome, e1, if_neg one_ne, isSheet8_ok, bsome, e2, if_neg one_ne, in_ok, bsome, e3, if_neg one_ne, in_ok, bsome, e4]
            rfl
        · rcases inB_01 x6 0 2 with e5 | e5
          · refine ⟨-1, _, _, ?_, ?_, h0⟩
            · unfold m_X7_failed
              rw [c70, bsome, c10, bsome, AR.rcv, has_ok3 AR, bsome, e1, if_neg one_ne, isSheet_ok, bsome, e2, if_neg one_ne, isLane_ok, bsome, e3, if_neg one_ne, within_ok, bsome, e4, if_neg one_ne, within_ok, bsome, e5]
              rfl
            · unfold m_X8_failed
              rw [g8r, isMan_ok hS.1, bsome, e1, if_neg one_ne, isSheet8_ok, bsome, e2, if_neg one_ne, in_ok, bsome, e3, if_neg one_ne, in_ok, bsome, e4, if_neg one_ne, in_ok, bsome, e5]
              rfl
          · have hj4 : j < 4 := by omega
            have hs := hD.2.2.2 j hj4
            rcases rfS_or (shR_len hs) x3 x4 (nI n) with q | ⟨q, q1, q2, a, b, rfl, hb, q3⟩
            · refine ⟨rfS (X j) x3 x4 (nI n), _, _, ?_, ?_, h0⟩
              · unfold m_X7_failed
                rw [c70, bsome, c10, bsome, AR.rcv, has_ok3 AR, bsome, e1, if_neg one_ne, isSheet_ok, bsome, e2, if_neg one_ne, isLane_ok, bsome, e3, if_neg one_ne, within_ok, bsome, e4, if_neg one_ne, within_ok, bsome, e5, if_neg one_ne, c74, bsome, sh_ar hj4, bsome, sh_rcv hj4, refusal_ok hj4, bsome, if_neg q]
              · unfold m_X8_failed
                rw [g8r, isMan_ok hS.1, bsome, e1, if_neg one_ne, isSheet8_ok, bsome, e2, if_neg one_ne, in_ok, bsome, e3, if_neg one_ne, in_ok, bsome, e4, if_neg one_ne, in_ok, bsome, e5, if_neg one_ne, g8r, barred_ok hj4 hs, bsome, if_neg q]
            · have l24 : (X j).2.2.1 ≤ 24 := (shR_len hs).resolve_left q1
              obtain rfl : n = b := (nI_eq (by omega) (by omega)).mp hb
              have hg : ∀ i, i < 24 → It (24 * j + i) = (X j).2.2.2 i := by
                rcases hs with ⟨-, -, -, -, a5⟩ | ⟨a1, -⟩
                · exact a5
                · exact absurd a1 q1
              have wB := hS.2.2.2.1
              have hm6 : m < 6 := by omega
              have hse := seatOf_ok (cB9 (s := s) (k := k) (kf := kf) (T := T) (X := X) (tr := tr) (gu := gu) (O := O) (ch := ch)) wB.1.1 wB.1.2.2.1 hm6
              have hse8 := seatOf8_ok (Le := Le) (As := As) (Or := Oo) (M := (Im, kp, tp, ty, dr, at_, It, Mv, Sz, Ln)) hS.2.1 wB o1 hm6
              rcases seat_or s.2.1.2.1 m s.2.1.2.2.1 with ⟨i, i1, i2, i3, i4⟩ | ⟨i1, i2⟩
              · have k6 := wB.1.1
                obtain ⟨Le2, w2⟩ := kinds8_loop (As := As) (Oo := Oo) (Im := Im) (kp := kp) (tp := tp) (ty := ty) (dr := dr) (at_ := at_) (Mv := Mv) (Sz := Sz) (Ln := Ln) (g := (X j).2.2.2) (x6 := x6) hS hm hj4 (n := n) (a := a) (by omega) hg (by omega) 5 0 1000 0 Le rfl (by decide)
                obtain ⟨Le3, w3⟩ := lives8f_loop (As := As) (Oo := Oo) (Im := Im) (kp := kp) (tp := tp) (ty := ty) (dr := dr) (at_ := at_) (Mv := Mv) (Sz := Sz) (Ln := Ln) (g := (X j).2.2.2) (x6 := x6) (w := nI (kdF (fun c => fitN (updN s.1.2.1 m c) s.1.2.2.2 (X j).2.2.2 m n a s.2.1) 0 5 0)) hS hm hj4 (n := n) (a := a) (by omega) hg (by omega) i1 i2 60 1000 Le2 (by omega) (by omega)
                have eM : m_X8_failed 0 (nI m) (nI j) x3 (nI a) (nI n) x6 (mh S Le As Oo (Im, kp, tp, ty, dr, at_, It, Mv, Sz, Ln)) = some (if x6 = 0 then nI (kdF (fun c => fitN (updN s.1.2.1 m c) s.1.2.2.2 (X j).2.2.2 m n a s.2.1) 0 5 0) else if x6 = 1 then nI (cntU (fun l => fitN s.1.2.1 s.1.2.2.2 (X j).2.2.2 m n a (lvB s.2.1 m l)) 1 60) else lstU (fun l => fitN s.1.2.1 s.1.2.2.2 (X j).2.2.2 m n a (lvB s.2.1 m l)) 1 60, mh S Le3 (cpI S As 40) Oo (Im, kp, tp, ty, dr, at_, It, Mv, Sz, Ln)) := by
                  unfold m_X8_failed
                  rw [g8r, isMan_ok hS.1, bsome, e1, if_neg one_ne, isSheet8_ok, bsome, e2, if_neg one_ne, in_ok, bsome, e3, if_neg one_ne, in_ok, bsome, e4, if_neg one_ne, in_ok, bsome, e5, if_neg one_ne, g8r, barred_ok hj4 hs, bsome, if_pos q, g8r, hse8, bsome, i4]
                  dsimp only
                  rw [if_neg (nI_m4 (by omega)), g8r, holds8_ok, bsome, ix24]
                  exact w2.trans w3
                rw [eM]
                have eX : m_X7_failed 0 (nI m) (nI j) x3 (nI a) (nI n) x6 (chp s k kf T X tr gu O ch) = if x6 = 0 then m_X7_kindsThatFit 0 (nI m) (100 + 2 * j) (nI a) (nI n) (chp s k kf T X tr gu O ch) else if x6 = 1 then m_X7_howManyLivesFit 0 (nI m) (100 + 2 * j) (nI a) (nI n) (chp s k kf T X tr gu O ch) else m_X7_leastLifeThatFits 0 (nI m) (100 + 2 * j) (nI a) (nI n) (chp s k kf T X tr gu O ch) := by
                  unfold m_X7_failed
                  rw [c70, bsome, c10, bsome, AR.rcv, has_ok3 AR, bsome, e1, if_neg one_ne, isSheet_ok, bsome, e2, if_neg one_ne, isLane_ok, bsome, e3, if_neg one_ne, within_ok, bsome, e4, if_neg one_ne, within_ok, bsome, e5, if_neg one_ne, c74, bsome, sh_ar hj4, bsome, sh_rcv hj4, refusal_ok hj4, bsome, if_pos q, c70, bsome, c11, bsome, (cB9).rcv, hse, bsome, i4]
                  dsimp only
                  rw [if_neg (nI_m4 (by omega)), c7r, c7r, c7r]
                  have bp : ∀ x : Option (Int32 × bb_H), (x.bind fun r => some (r.1, r.2)) = x := fun x => by cases x <;> rfl
                  rw [bp, bp, bp]
                rw [eX]
                obtain ⟨tA, gA, zA⟩ := kinds_loop (k := k) (kf := kf) (T := T) (X := X) (O := O) (ch := ch) hS.2.2.1.1 wB hm6 hj4 (n := n) (a := a) (by omega) (by omega) 5 0 1000 0 tr gu rfl (by decide)
                obtain ⟨tB, gB, zB⟩ := many_loop (k := k) (kf := kf) (T := T) (X := X) (O := O) (ch := ch) hS.2.2.1.1 wB hm6 hj4 (n := n) (a := a) (by omega) (by omega) i1 i2 60 1 1000 0 tr gu rfl (by decide) (by decide)
                obtain ⟨tC, gC, zC⟩ := least_loop (k := k) (kf := kf) (T := T) (X := X) (O := O) (ch := ch) hS.2.2.1.1 wB hm6 hj4 (n := n) (a := a) (by omega) (by omega) i1 i2 60 1 1000 tr gu rfl (by decide) (by decide)
                rw [Nat.zero_add] at zB
                by_cases c0 : x6 = 0
                · rw [if_pos c0, if_pos c0]
                  exact ⟨_, _, _, zA, rfl, RR_mk hS hD⟩
                · rw [if_neg c0, if_neg c0]
                  by_cases c1 : x6 = 1
                  · rw [if_pos c1, if_pos c1]
                    exact ⟨_, _, _, zB, rfl, RR_mk hS hD⟩
                  · rw [if_neg c1, if_neg c1]
                    exact ⟨_, _, _, zC, rfl, RR_mk hS hD⟩
              · refine ⟨-2, _, _, ?_, ?_, h0⟩
                · unfold m_X7_failed
                  rw [c70, bsome, c10, bsome, AR.rcv, has_ok3 AR, bsome, e1, if_neg one_ne, isSheet_ok, bsome, e2, if_neg one_ne, isLane_ok, bsome, e3, if_neg one_ne, within_ok, bsome, e4, if_neg one_ne, within_ok, bsome, e5, if_neg one_ne, c74, bsome, sh_ar hj4, bsome, sh_rcv hj4, refusal_ok hj4, bsome, if_pos q, c70, bsome, c11, bsome, (cB9).rcv, hse, bsome, i2]
                  rfl
                · unfold m_X8_failed
                  rw [g8r, isMan_ok hS.1, bsome, e1, if_neg one_ne, isSheet8_ok, bsome, e2, if_neg one_ne, in_ok, bsome, e3, if_neg one_ne, in_ok, bsome, e4, if_neg one_ne, in_ok, bsome, e5, if_neg one_ne, g8r, barred_ok hj4 hs, bsome, if_pos q, g8r, hse8, bsome, i2]
                  rfl
