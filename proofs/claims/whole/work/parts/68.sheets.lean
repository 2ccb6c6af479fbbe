/-! SHEETS: sheet, drop, item, copy -/
section SHC
variable {s k : St} {kf : Int32} {T : Tp} {X : Nat → Sh} {tr : Bn} {gu : Rl} {O : Od} {ch : Nat → Nat}
theorem sh_at {j : Nat} (hj : j < 4) : (chp s k kf T X tr gu O ch)[100 + 2 * j]? = some (.inr 4, [.int (X j).1, .int (X j).2.1, .int (nI (X j).2.2.1), .ref (100 + 2 * j + 1)]) := by
  rcases (show j = 0 ∨ j = 1 ∨ j = 2 ∨ j = 3 by omega) with rfl | rfl | rfl | rfl <;> rfl
theorem sh_it {j : Nat} (hj : j < 4) : (chp s k kf T X tr gu O ch)[100 + 2 * j + 1]? = some (.inl .long, fnL 24 (X j).2.2.2) := by
  rcases (show j = 0 ∨ j = 1 ∨ j = 2 ∨ j = 3 by omega) with rfl | rfl | rfl | rfl <;> rfl
theorem sh_ar {j : Nat} (hj : j < 4) : bb_aR (chp s k kf T X tr gu O ch) 85 (.object "BattleBench$Sheet") (nI j) = some (100 + 2 * j) := by
  refine aR_of (h := chp s k kf T X tr gu O ch) (vs := [.ref 100, .ref 102, .ref 104, .ref 106]) rfl (by omega) ?_
  rcases (show j = 0 ∨ j = 1 ∨ j = 2 ∨ j = 3 by omega) with rfl | rfl | rfl | rfl <;> rfl
theorem sh_rcv {α : Type} {x : Option α} {j : Nat} (hj : j < 4) : bb_rcv (chp s k kf T X tr gu O ch) (100 + 2 * j) 4 x = x := rcv_of (sh_at hj)
theorem sh_g0 {j : Nat} (hj : j < 4) : bb_gI (chp s k kf T X tr gu O ch) (100 + 2 * j) 4 0 = some (X j).1 := gI_of (sh_at hj) rfl
theorem sh_g1 {j : Nat} (hj : j < 4) : bb_gI (chp s k kf T X tr gu O ch) (100 + 2 * j) 4 1 = some (X j).2.1 := gI_of (sh_at hj) rfl
theorem sh_g2 {j : Nat} (hj : j < 4) : bb_gI (chp s k kf T X tr gu O ch) (100 + 2 * j) 4 2 = some (nI (X j).2.2.1) := gI_of (sh_at hj) rfl
theorem sh_g3 {j : Nat} (hj : j < 4) : bb_gR (chp s k kf T X tr gu O ch) (100 + 2 * j) 4 3 = some (100 + 2 * j + 1) := gR_of (sh_at hj) rfl
set_option maxRecDepth 100000 in
theorem sh_p0 {j : Nat} (hj : j < 4) {x : Int32} (hx : x = 0 ∨ x = 1) : bb_pZ (chp s k kf T X tr gu O ch) (100 + 2 * j) 4 0 x = some (chp s k kf T (updN X j (x, (X j).2)) tr gu O ch) := by
  rw [pZ_of hx (sh_at hj) (Nat.le_of_ble_eq_true rfl)]
  rcases (show j = 0 ∨ j = 1 ∨ j = 2 ∨ j = 3 by omega) with rfl | rfl | rfl | rfl <;> rfl
set_option maxRecDepth 100000 in
theorem sh_p1 {j : Nat} (hj : j < 4) (x : Int32) : bb_pI (chp s k kf T X tr gu O ch) (100 + 2 * j) 4 1 x = some (chp s k kf T (updN X j ((X j).1, x, (X j).2.2)) tr gu O ch) := by
  rw [pI_of (sh_at hj) (Nat.le_of_ble_eq_true rfl)]
  rcases (show j = 0 ∨ j = 1 ∨ j = 2 ∨ j = 3 by omega) with rfl | rfl | rfl | rfl <;> rfl
set_option maxRecDepth 100000 in
theorem sh_p2 {j : Nat} (hj : j < 4) (x : Nat) : bb_pI (chp s k kf T X tr gu O ch) (100 + 2 * j) 4 2 (nI x) = some (chp s k kf T (updN X j ((X j).1, (X j).2.1, x, (X j).2.2.2)) tr gu O ch) := by
  rw [pI_of (sh_at hj) (Nat.le_of_ble_eq_true rfl)]
  rcases (show j = 0 ∨ j = 1 ∨ j = 2 ∨ j = 3 by omega) with rfl | rfl | rfl | rfl <;> rfl
set_option maxRecDepth 100000 in
theorem sh_set {j : Nat} (hj : j < 4) (f : Nat → Int64) : (chp s k kf T X tr gu O ch).set (100 + 2 * j + 1) (.inl .long, fnL 24 f) = chp s k kf T (updN X j ((X j).1, (X j).2.1, (X j).2.2.1, f)) tr gu O ch := by
  rcases (show j = 0 ∨ j = 1 ∨ j = 2 ∨ j = 3 by omega) with rfl | rfl | rfl | rfl <;> rfl
theorem sh_rl {j i : Nat} (hj : j < 4) (hi : i < 24) : bb_aL (chp s k kf T X tr gu O ch) (100 + 2 * j + 1) (nI i) = some ((X j).2.2.2 i) := aL_of (sh_it hj) hi (by decide)
theorem sh_wl {j i : Nat} (hj : j < 4) (hi : i < 24) (v : Int64) : bb_sV (chp s k kf T X tr gu O ch) (100 + 2 * j + 1) .long (nI i) (.long v) = some (chp s k kf T (updN X j ((X j).1, (X j).2.1, (X j).2.2.1, updN (X j).2.2.2 i v)) tr gu O ch) := by
  rw [sL_of (sh_it hj) hi (by decide), sh_set hj]
end SHC
theorem updN_u {α : Type} (f : Nat → α) (k : Nat) (x y : α) : updN (updN f k x) k y = updN f k y := by
  funext j
  by_cases e : j = k
  · rw [e, updN_s, updN_s]
  · rw [updN_n e, updN_n e, updN_n e]
theorem isSheet_ok (x : Int32) (h : bb_H) : m_X7_isSheet x h = some (inB x 0 3, h) := by
  unfold m_X7_isSheet
  rw [within_ok, bsome]
  exact rz_in _ _ _ _
theorem isLane_ok (x : Int32) (h : bb_H) : m_X7_isLane x h = some (inB x 0 3, h) := by
  unfold m_X7_isLane
  rw [within_ok, bsome]
  exact rz_in _ _ _ _
theorem isSheet8_ok (x : Int32) (h : bb_H) : m_X8_isSheet x h = some (inB x 0 3, h) := by
  unfold m_X8_isSheet
  rw [in_ok, bsome]
  exact rz_in _ _ _ _
/-! the model's rows of sheets -/
section MSH
variable {S Le As Oo Im tp dr Sz Ln : Nat → Int32} {kp ty at_ : Int32} {It Mv : Nat → Int64}
theorem rIt {i : Nat} (hi : i < 96) : bb_aL (mh S Le As Oo (Im, kp, tp, ty, dr, at_, It, Mv, Sz, Ln)) 5 (nI i) = some (It i) := aL_of (h := mh S Le As Oo (Im, kp, tp, ty, dr, at_, It, Mv, Sz, Ln)) rfl hi (by decide)
theorem wIt {i : Nat} (hi : i < 96) (v : Int64) : bb_sV (mh S Le As Oo (Im, kp, tp, ty, dr, at_, It, Mv, Sz, Ln)) 5 .long (nI i) (.long v) = some (mh S Le As Oo (Im, kp, tp, ty, dr, at_, updN It i v, Mv, Sz, Ln)) := (sL_of (h := mh S Le As Oo (Im, kp, tp, ty, dr, at_, It, Mv, Sz, Ln)) rfl hi (by decide)).trans rfl
theorem rMv {i : Nat} (hi : i < 24) : bb_aL (mh S Le As Oo (Im, kp, tp, ty, dr, at_, It, Mv, Sz, Ln)) 6 (nI i) = some (Mv i) := aL_of (h := mh S Le As Oo (Im, kp, tp, ty, dr, at_, It, Mv, Sz, Ln)) rfl hi (by decide)
theorem wMv {i : Nat} (hi : i < 24) (v : Int64) : bb_sV (mh S Le As Oo (Im, kp, tp, ty, dr, at_, It, Mv, Sz, Ln)) 6 .long (nI i) (.long v) = some (mh S Le As Oo (Im, kp, tp, ty, dr, at_, It, updN Mv i v, Sz, Ln)) := (sL_of (h := mh S Le As Oo (Im, kp, tp, ty, dr, at_, It, Mv, Sz, Ln)) rfl hi (by decide)).trans rfl
theorem rSz {i : Nat} (hi : i < 4) : bb_aI (mh S Le As Oo (Im, kp, tp, ty, dr, at_, It, Mv, Sz, Ln)) 7 .int (nI i) = some (Sz i) := aI_of (h := mh S Le As Oo (Im, kp, tp, ty, dr, at_, It, Mv, Sz, Ln)) rfl hi (by decide)
theorem wSz {i : Nat} (hi : i < 4) (v : Int32) : bb_sV (mh S Le As Oo (Im, kp, tp, ty, dr, at_, It, Mv, Sz, Ln)) 7 .int (nI i) (.int v) = some (mh S Le As Oo (Im, kp, tp, ty, dr, at_, It, Mv, updN Sz i v, Ln)) := (sI_of (h := mh S Le As Oo (Im, kp, tp, ty, dr, at_, It, Mv, Sz, Ln)) rfl hi (by decide)).trans rfl
theorem rLn {i : Nat} (hi : i < 4) : bb_aI (mh S Le As Oo (Im, kp, tp, ty, dr, at_, It, Mv, Sz, Ln)) 8 .int (nI i) = some (Ln i) := aI_of (h := mh S Le As Oo (Im, kp, tp, ty, dr, at_, It, Mv, Sz, Ln)) rfl hi (by decide)
theorem wLn {i : Nat} (hi : i < 4) (v : Int32) : bb_sV (mh S Le As Oo (Im, kp, tp, ty, dr, at_, It, Mv, Sz, Ln)) 8 .int (nI i) (.int v) = some (mh S Le As Oo (Im, kp, tp, ty, dr, at_, It, Mv, Sz, updN Ln i v)) := (sI_of (h := mh S Le As Oo (Im, kp, tp, ty, dr, at_, It, Mv, Sz, Ln)) rfl hi (by decide)).trans rfl
end MSH
theorem ix24 (j i : Nat) : (24 : Int32) * nI j + nI i = nI (24 * j + i) := by
  rw [show (24 : Int32) * nI j = nI (24 * j) from pk_mul 24 j, nI_add]
/-! why a row is refused -/
def spS (len : Nat) (i n : Int32) : Int32 := if i < 0 then 0 else if n < 0 then 0 else if nI len - n < i then 0 else 1
def rfS (Y : Sh) (lane i n : Int32) : Int32 := if Y.1 = 0 then -11 else if Y.2.1 = lane then (if spS Y.2.2.1 i n = 0 then -13 else 0) else -12
theorem sub_neg {a b : Nat} (ha : a ≤ 24) (hb : b < 2 ^ 31) (h : a < b) : nI a - nI b < 0 := by
  rw [Int32.lt_iff_toInt_lt, Int32.toInt_sub, nI_toInt (by omega), nI_toInt hb, show (0 : Int32).toInt = 0 from by decide, Int.bmod_eq_of_le (by omega) (by omega)]
  omega
theorem spS_or {len : Nat} (hl : len ≤ 24) (i n : Int32) : spS len i n = 0 ∨ ∃ a b, i = nI a ∧ n = nI b ∧ a + b ≤ len ∧ spS len i n = 1 := by
  unfold spS
  by_cases c1 : i < 0
  · exact Or.inl (if_pos c1)
  · obtain ⟨a, ha, rfl⟩ := nI_of c1
    rw [if_neg c1]
    by_cases c2 : n < 0
    · exact Or.inl (if_pos c2)
    · obtain ⟨b, hb, rfl⟩ := nI_of c2
      rw [if_neg c2]
      by_cases c3 : b ≤ len
      · rw [pk_sub c3, ite_lt (by omega) ha]
        by_cases c4 : len - b < a
        · exact Or.inl (if_pos c4)
        · exact Or.inr ⟨a, b, rfl, rfl, by omega, if_neg c4⟩
      · refine Or.inl (if_pos ?_)
        have h1 := sub_neg hl hb (show len < b by omega)
        rw [Int32.lt_iff_toInt_lt] at h1 ⊢
        rw [nI_toInt ha]
        have h2 : (0 : Int32).toInt = 0 := by decide
        omega
theorem rfS_or {Y : Sh} (hl : Y.1 = 0 ∨ Y.2.2.1 ≤ 24) (lane i n : Int32) : ¬ rfS Y lane i n = 0 ∨ (rfS Y lane i n = 0 ∧ ¬ Y.1 = 0 ∧ Y.2.1 = lane ∧ ∃ a b, i = nI a ∧ n = nI b ∧ a + b ≤ Y.2.2.1) := by
  unfold rfS
  by_cases c1 : Y.1 = 0
  · rw [if_pos c1]; exact Or.inl (by decide)
  · rw [if_neg c1]
    by_cases c2 : Y.2.1 = lane
    · rw [if_pos c2]
      rcases spS_or (hl.resolve_left c1) i n with e | ⟨a, b, h1, h2, h3, e⟩
      · rw [if_pos e]; exact Or.inl (by decide)
      · rw [if_neg (by rw [e]; decide)]
        exact Or.inr ⟨rfl, c1, c2, a, b, h1, h2, h3⟩
    · rw [if_neg c2]; exact Or.inl (by decide)
section RFU
variable {s k : St} {kf : Int32} {T : Tp} {X : Nat → Sh} {tr : Bn} {gu : Rl} {O : Od} {ch : Nat → Nat}
theorem spans_ok {j : Nat} (hj : j < 4) (i n : Int32) : m_X4_spans (100 + 2 * j) i n (chp s k kf T X tr gu O ch) = some (spS (X j).2.2.1 i n, chp s k kf T X tr gu O ch) := by
  unfold m_X4_spans m_X4_spans_22 m_X4_spans_23 spS
  rw [sh_g2 hj, bsome]
  split
  · rfl
  · split
    · rfl
    · split <;> rfl
theorem refusal_ok {j : Nat} (hj : j < 4) (lane i n : Int32) : m_X4_refusalOf (100 + 2 * j) lane i n (chp s k kf T X tr gu O ch) = some (rfS (X j) lane i n, chp s k kf T X tr gu O ch) := by
  unfold m_X4_refusalOf m_X4_refusalOf_36 rfS
  rw [sh_g0 hj, bsome, sh_g1 hj, bsome, sh_rcv hj, spans_ok hj, bsome]
  dsimp only
  split
  · rfl
  · split
    · split <;> rfl
    · rfl
def cutS (lane : Int32) (v : Int64) : Int64 := if lane = 0 then v.toInt32.toInt8.toInt32.toInt64 else if lane = 1 then v.toInt32.toInt16.toInt32.toInt64 else if lane = 2 then v.toInt32.toInt64 else v
theorem cut4_ok {j : Nat} (hj : j < 4) (v : Int64) : m_X4_cut (100 + 2 * j) v (chp s k kf T X tr gu O ch) = some (cutS (X j).2.1 v, chp s k kf T X tr gu O ch) := by
  unfold m_X4_cut cutS
  rw [sh_g1 hj, bsome]
  split
  · rfl
  · split
    · rfl
    · split <;> rfl
theorem cut8_ok (lane : Int32) (v : Int64) (h : bb_H) : m_X8_cut lane v h = some (cutS lane v, h) := by
  unfold m_X8_cut m_X8_cut_35 cutS
  split
  · rfl
  · split
    · rfl
    · split <;> rfl
theorem put_ok {j i : Nat} (hj : j < 4) (hi : i < (X j).2.2.1) (hl : (X j).2.2.1 ≤ 24) (v : Int64) : m_X4_put (100 + 2 * j) (nI i) v (chp s k kf T X tr gu O ch) = some (chp s k kf T (updN X j ((X j).1, (X j).2.1, (X j).2.2.1, updN (X j).2.2.2 i (cutS (X j).2.1 v))) tr gu O ch) := by
  unfold m_X4_put m_X4_put_25
  rw [sh_g2 hj, bsome, within_ok, bsome]
  dsimp only
  rw [show inB (nI i) 0 (nI (X j).2.2.1 - 1) = 1 from inB_in (c := 0) (by omega) (by omega), if_neg one_ne, sh_g3 hj, bsome, sh_rcv hj, cut4_ok hj, bsome]
  dsimp only
  rw [sh_wl hj (by omega), bsome]
end RFU
section BAR
variable {S Le As Oo Im tp dr Sz Ln : Nat → Int32} {kp ty at_ : Int32} {It Mv : Nat → Int64} {Y : Sh}
theorem shR_len {j : Nat} {M : Mx} (h : shR1 Y j M) : Y.1 = 0 ∨ Y.2.2.1 ≤ 24 := by
  rcases h with ⟨-, -, -, h4, -⟩ | ⟨h1, -⟩
  · exact Or.inr h4
  · exact Or.inl h1
theorem barred_ok {j : Nat} (hj : j < 4) (hs : shR1 Y j (Im, kp, tp, ty, dr, at_, It, Mv, Sz, Ln)) (lane i n : Int32) : m_X8_barred 0 (nI j) lane i n (mh S Le As Oo (Im, kp, tp, ty, dr, at_, It, Mv, Sz, Ln)) = some (rfS Y lane i n, mh S Le As Oo (Im, kp, tp, ty, dr, at_, It, Mv, Sz, Ln)) := by
  unfold m_X8_barred m_X8_barred_58 m_X8_barred_64 rfS
  rcases hs with ⟨h1, h2, h3, h4, h5⟩ | ⟨h1, h2⟩
  · have h2 : Sz j = nI Y.2.2.1 := h2
    have h3 : Ln j = Y.2.1 := h3
    rw [g89, bsome, rSz hj, bsome, h2, if_pos (nI_pos' (by omega)), g8a, bsome, rLn hj, bsome, h3, h1, if_neg one_ne]
    by_cases c : Y.2.1 = lane
    · rw [if_pos c, if_pos c]
      unfold spS
      by_cases c1 : i < 0
      · rw [if_pos c1, if_pos c1]; rfl
      · obtain ⟨a, ha, rfl⟩ := nI_of c1
        rw [if_neg c1, if_neg c1]
        by_cases c2 : n < 0
        · rw [if_pos c2, if_pos c2]; rfl
        · obtain ⟨b, hb, rfl⟩ := nI_of c2
          rw [if_neg c2, if_neg c2, bsome, rSz hj, bsome, h2]
          by_cases c3 : b ≤ Y.2.2.1
          · rw [if_neg (nI_nlt c3 (by omega)), bsome, rSz hj, bsome, h2, pk_sub c3, ite_lt (by omega) ha, ite_le ha (by omega)]
            by_cases c4 : Y.2.2.1 - b < a
            · rw [if_neg (by omega), if_pos c4]; rfl
            · rw [if_pos (by omega), if_neg c4]; rfl
          · have z1 := sub_neg h4 hb (show Y.2.2.1 < b by omega)
            rw [if_pos (nI_lt (by omega) hb), if_pos (show nI Y.2.2.1 - nI b < nI a from by
              rw [Int32.lt_iff_toInt_lt] at z1 ⊢
              rw [nI_toInt ha]
              have z2 : (0 : Int32).toInt = 0 := by decide
              omega)]
            rfl
    · rw [if_neg c, if_neg c]
  · have h2 : Sz j = -1 := h2
    rw [g89, bsome, rSz hj, bsome, h2, if_neg (by decide), h1, if_pos rfl]
end BAR
/-! one sheet is another: the others are as they were -/
theorem shR_upd {X : Nat → Sh} {Y : Sh} {j : Nat} {Im tp dr Sz Ln Sz2 Ln2 Im2 tp2 dr2 : Nat → Int32} {kp ty at_ kp2 ty2 at2 : Int32} {It Mv It2 Mv2 : Nat → Int64} (h : ∀ q, q < 4 → shR1 (X q) q (Im, kp, tp, ty, dr, at_, It, Mv, Sz, Ln)) (hY : shR1 Y j (Im2, kp2, tp2, ty2, dr2, at2, It2, Mv2, Sz2, Ln2)) (h1 : ∀ q, q ≠ j → Sz2 q = Sz q) (h2 : ∀ q, q ≠ j → Ln2 q = Ln q) (h3 : ∀ i, i < 24 * j ∨ 24 * j + 24 ≤ i → It2 i = It i) : ∀ q, q < 4 → shR1 (updN X j Y q) q (Im2, kp2, tp2, ty2, dr2, at2, It2, Mv2, Sz2, Ln2) := by
  intro q hq
  by_cases e : q = j
  · rw [e, updN_s]; exact hY
  · rw [updN_n e]
    rcases h q hq with ⟨a1, a2, a3, a4, a5⟩ | ⟨a1, a2⟩
    · refine Or.inl ⟨a1, (h1 q e).trans a2, (h2 q e).trans a3, a4, fun i hi => ?_⟩
      refine (h3 (24 * q + i) ?_).trans (a5 i hi)
      omega
    · exact Or.inr ⟨a1, (h1 q e).trans a2⟩
/-! sheet -/
def zL (g : Nat → Int64) (i : Nat) : Nat → Int64 := fun q => if q < i then 0 else g q
theorem zL_0 (g : Nat → Int64) : zL g 0 = g := by funext q; exact if_neg (by omega)
theorem zL_s (g : Nat → Int64) (i : Nat) : updN (zL g i) i 0 = zL g (i + 1) := by
  funext q
  unfold updN zL
  by_cases e : q = i
  · rw [if_pos e, if_pos (by omega)]
  · rw [if_neg e]
    by_cases c : q < i
    · rw [if_pos c, if_pos (by omega)]
    · rw [if_neg c, if_neg (by omega)]
def zM (g : Nat → Int64) (o i : Nat) : Nat → Int64 := fun q => if o ≤ q ∧ q < o + i then 0 else g q
theorem zM_0 (g : Nat → Int64) (o : Nat) : zM g o 0 = g := by funext q; exact if_neg (by omega)
theorem zM_s (g : Nat → Int64) (o i : Nat) : updN (zM g o i) (o + i) 0 = zM g o (i + 1) := by
  funext q
  unfold updN zM
  by_cases e : q = o + i
  · rw [if_pos e, if_pos (by omega)]
  · rw [if_neg e]
    by_cases c : o ≤ q ∧ q < o + i
    · rw [if_pos c, if_pos (by omega)]
    · rw [if_neg c, if_neg (by omega)]
theorem renew_loop {s k : St} {kf : Int32} {T : Tp} {X : Nat → Sh} {tr : Bn} {gu : Rl} {O : Od} {ch : Nat → Nat} {j c : Nat} (hj : j < 4) {a b : Int32} {g : Nat → Int64} : ∀ (t i f : Nat), i + t = 24 → t < f → m_X4_renew_17 f (100 + 2 * j) (nI i) (chp s k kf T (updN X j (a, b, c, zL g i)) tr gu O ch) = some (chp s k kf T (updN X j (a, b, c, zL g 24)) tr gu O ch) := by
  intro t
  induction t with
  | zero =>
    intro i f hi hf
    obtain ⟨f, rfl⟩ := fuel_s hf
    obtain rfl : i = 24 := by omega
    unfold m_X4_renew_17
    rw [if_pos (by decide)]
  | succ t ih =>
    intro i f hi hf
    obtain ⟨f, rfl⟩ := fuel_s hf
    unfold m_X4_renew_17
    rw [if_neg (show ¬ (24 : Int32) ≤ nI i from Lge 24 (by omega) (by decide)), sh_g3 hj, bsome, sh_wl hj (by omega), bsome, updN_s, updN_u]
    dsimp only
    rw [zL_s, nI_1, ih (i + 1) f (by omega) (by omega)]
theorem renew_ok {s k : St} {kf : Int32} {T : Tp} {X : Nat → Sh} {tr : Bn} {gu : Rl} {O : Od} {ch : Nat → Nat} {j n : Nat} (hj : j < 4) (lane : Int32) : m_X4_renew (100 + 2 * j) lane (nI n) (chp s k kf T X tr gu O ch) = some (chp s k kf T (updN X j (1, lane, n, zL (X j).2.2.2 24)) tr gu O ch) := by
  unfold m_X4_renew
  rw [sh_p0 hj (Or.inr rfl), bsome, sh_p1 hj, bsome, updN_s, updN_u]
  dsimp only
  rw [sh_p2 hj, bsome, updN_s, updN_u]
  dsimp only
  have e := renew_loop (s := s) (k := k) (kf := kf) (T := T) (X := X) (tr := tr) (gu := gu) (O := O) (ch := ch) (c := n) (a := 1) (b := lane) (g := (X j).2.2.2) hj 24 0 1000 rfl (by decide)
  rw [zL_0] at e
  exact e
theorem sheet8_loop {S Le As Oo Im tp dr Sz Ln : Nat → Int32} {kp ty at_ : Int32} {It Mv : Nat → Int64} {j : Nat} (hj : j < 4) {x : Int32} : ∀ (t i f : Nat), i + t = 24 → t < f → m_X8_sheet_48 f 0 (nI j) x (nI i) (mh S Le As Oo (Im, kp, tp, ty, dr, at_, zM It (24 * j) i, Mv, Sz, Ln)) = some (x, mh S Le As Oo (Im, kp, tp, ty, dr, at_, zM It (24 * j) 24, Mv, Sz, Ln)) := by
  intro t
  induction t with
  | zero =>
    intro i f hi hf
    obtain ⟨f, rfl⟩ := fuel_s hf
    obtain rfl : i = 24 := by omega
    unfold m_X8_sheet_48
    rw [if_pos (by decide)]
  | succ t ih =>
    intro i f hi hf
    obtain ⟨f, rfl⟩ := fuel_s hf
    unfold m_X8_sheet_48
    rw [if_neg (show ¬ (24 : Int32) ≤ nI i from Lge 24 (by omega) (by decide)), g87, bsome, ix24, wIt (by omega), bsome, zM_s, nI_1, ih (i + 1) f (by omega) (by omega)]
theorem sim_sheet_ok : sim_sheet RR := by
  intro hX hM x1 x2 x3 h0
  have h1 := h0
  obtain ⟨s, k, kf, T, X, tr, gu, O, ch, S, Le, As, Oo, M, rfl, rfl, hS, hD⟩ := h1
  obtain ⟨Im, kp, tp, ty, dr, at_, It, Mv, Sz, Ln⟩ := M
  rcases inB_or x1 (lo := 0) (hi := 3) 0 3 rfl rfl (by decide) (by decide) with e1 | ⟨j, -, hj, rfl, e1⟩
  · refine ⟨-1, _, _, ?_, ?_, h0⟩
    · unfold m_X7_sheet
      rw [isSheet_ok, bsome, e1]
      rfl
    · unfold m_X8_sheet
      rw [isSheet8_ok, bsome, e1]
      rfl
  · rcases inB_01 x2 0 3 with e2 | e2
    · refine ⟨-1, _, _, ?_, ?_, h0⟩
      · unfold m_X7_sheet
        rw [isSheet_ok, bsome, e1, if_neg one_ne, isLane_ok, bsome, e2]
        rfl
      · unfold m_X8_sheet
        rw [isSheet8_ok, bsome, e1, if_neg one_ne, in_ok, bsome, e2]
        rfl
    · by_cases c1 : x3 ≤ 24
      · by_cases c2 : 0 ≤ x3
        · have hj4 : j < 4 := by omega
          obtain ⟨n, hn, rfl⟩ := nI_of (x := x3) (fun z => by
            rw [Int32.lt_iff_toInt_lt] at z
            rw [Int32.le_iff_toInt_le] at c2
            omega)
          have n24 : n ≤ 24 := (nI_leI (b := 24) hn (by decide)).mp c1
          refine ⟨nI n, chp s k kf T (updN X j (1, x2, n, zL (X j).2.2.2 24)) tr gu O ch, mh S Le As Oo (Im, kp, tp, ty, dr, at_, zM It (24 * j) 24, Mv, updN Sz j (nI n), updN Ln j x2), ?_, ?_, RR_mk hS ⟨hD.1, hD.2.1, hD.2.2.1, ?_⟩⟩
          · unfold m_X7_sheet
            rw [isSheet_ok, bsome, e1, if_neg one_ne, isLane_ok, bsome, e2, if_neg one_ne, if_pos c1, if_pos c2, c74, bsome, sh_ar hj4, bsome, sh_rcv hj4, renew_ok hj4, bsome]
          · have e := sheet8_loop (S := S) (Le := Le) (As := As) (Oo := Oo) (Im := Im) (kp := kp) (tp := tp) (ty := ty) (dr := dr) (at_ := at_) (It := It) (Mv := Mv) (Sz := updN Sz j (nI n)) (Ln := updN Ln j x2) (x := nI n) hj4 24 0 1000 rfl (by decide)
            rw [zM_0] at e
            unfold m_X8_sheet
            rw [isSheet8_ok, bsome, e1, if_neg one_ne, in_ok, bsome, e2, if_neg one_ne, if_pos c1, if_pos c2, g89, bsome, wSz hj4, bsome, g8a, bsome, wLn hj4, bsome]
            exact e
          · refine shR_upd hD.2.2.2 (Or.inl ⟨rfl, updN_s, updN_s, n24, fun i hi => ?_⟩) (fun q hq => updN_n hq) (fun q hq => updN_n hq) (fun i hi => if_neg (by omega))
            show zM It (24 * j) 24 (24 * j + i) = zL (X j).2.2.2 24 i
            unfold zM zL
            rw [if_pos (by omega), if_pos hi]
        · refine ⟨-14, _, _, ?_, ?_, h0⟩
          · unfold m_X7_sheet
            rw [isSheet_ok, bsome, e1, if_neg one_ne, isLane_ok, bsome, e2, if_neg one_ne, if_pos c1, if_neg c2]
          · unfold m_X8_sheet
            rw [isSheet8_ok, bsome, e1, if_neg one_ne, in_ok, bsome, e2, if_neg one_ne, if_pos c1, if_neg c2]
      · refine ⟨-1, _, _, ?_, ?_, h0⟩
        · unfold m_X7_sheet
          rw [isSheet_ok, bsome, e1, if_neg one_ne, isLane_ok, bsome, e2, if_neg one_ne, if_neg c1]
          rfl
        · unfold m_X8_sheet
          rw [isSheet8_ok, bsome, e1, if_neg one_ne, in_ok, bsome, e2, if_neg one_ne, if_neg c1]
          rfl
theorem sim_drop_ok : sim_drop RR := by
  intro hX hM x1 h0
  have h1 := h0
  obtain ⟨s, k, kf, T, X, tr, gu, O, ch, S, Le, As, Oo, M, rfl, rfl, hS, hD⟩ := h1
  obtain ⟨Im, kp, tp, ty, dr, at_, It, Mv, Sz, Ln⟩ := M
  rcases inB_or x1 (lo := 0) (hi := 3) 0 3 rfl rfl (by decide) (by decide) with e1 | ⟨j, -, hj, rfl, e1⟩
  · refine ⟨-1, _, _, ?_, ?_, h0⟩
    · unfold m_X7_drop
      rw [isSheet_ok, bsome, e1]
      rfl
    · unfold m_X8_drop
      rw [isSheet8_ok, bsome, e1]
      rfl
  · have hj4 : j < 4 := by omega
    rcases hD.2.2.2 j hj4 with ⟨a1, a2, a3, a4, a5⟩ | ⟨a1, a2⟩
    · have a2 : Sz j = nI (X j).2.2.1 := a2
      refine ⟨nI (X j).2.2.1, chp s k kf T (updN X j (0, (X j).2)) tr gu O ch, mh S Le As Oo (Im, kp, tp, ty, dr, at_, It, Mv, updN Sz j (-1), Ln), ?_, ?_, RR_mk hS ⟨hD.1, hD.2.1, hD.2.2.1, ?_⟩⟩
      · unfold m_X7_drop
        rw [isSheet_ok, bsome, e1, if_neg one_ne, c74, bsome, sh_ar hj4, bsome, sh_g0 hj4, bsome, a1, if_neg one_ne, sh_p0 hj4 (Or.inl rfl), bsome, sh_g2 hj4, bsome, updN_s]
      · unfold m_X8_drop
        rw [isSheet8_ok, bsome, e1, if_neg one_ne, g89, bsome, rSz hj4, bsome, a2, if_pos (nI_pos' (by omega)), bsome, rSz hj4, bsome, bsome, wSz hj4, bsome, a2]
      · exact shR_upd hD.2.2.2 (Or.inr ⟨rfl, updN_s⟩) (fun q hq => updN_n hq) (fun q hq => rfl) (fun i hi => rfl)
    · have a2 : Sz j = -1 := a2
      refine ⟨-11, _, _, ?_, ?_, h0⟩
      · unfold m_X7_drop
        rw [isSheet_ok, bsome, e1, if_neg one_ne, c74, bsome, sh_ar hj4, bsome, sh_g0 hj4, bsome, a1, if_pos rfl]
      · unfold m_X8_drop
        rw [isSheet8_ok, bsome, e1, if_neg one_ne, g89, bsome, rSz hj4, bsome, a2, if_neg (by decide)]
theorem sim_item_ok : sim_item RR := by
  intro hX hM x1 x2 x3 v h0
  have h1 := h0
  obtain ⟨s, k, kf, T, X, tr, gu, O, ch, S, Le, As, Oo, M, rfl, rfl, hS, hD⟩ := h1
  obtain ⟨Im, kp, tp, ty, dr, at_, It, Mv, Sz, Ln⟩ := M
  rcases inB_or x1 (lo := 0) (hi := 3) 0 3 rfl rfl (by decide) (by decide) with e1 | ⟨j, -, hj, rfl, e1⟩
  · refine ⟨-1, _, _, ?_, ?_, h0⟩
    · unfold m_X7_item
      rw [isSheet_ok, bsome, e1]
      rfl
    · unfold m_X8_item
      rw [isSheet8_ok, bsome, e1]
      rfl
  · have hj4 : j < 4 := by omega
    rcases inB_01 x2 0 3 with e2 | e2
    · refine ⟨-1, _, _, ?_, ?_, h0⟩
      · unfold m_X7_item
        rw [isSheet_ok, bsome, e1, if_neg one_ne, isLane_ok, bsome, e2]
        rfl
      · unfold m_X8_item
        rw [isSheet8_ok, bsome, e1, if_neg one_ne, in_ok, bsome, e2]
        rfl
    · have hs := hD.2.2.2 j hj4
      rcases rfS_or (shR_len hs) x2 x3 1 with q | ⟨q, q1, q2, a, b, rfl, hb, q3⟩
      · refine ⟨rfS (X j) x2 x3 1, _, _, ?_, ?_, h0⟩
        · unfold m_X7_item
          rw [isSheet_ok, bsome, e1, if_neg one_ne, isLane_ok, bsome, e2, if_neg one_ne, c74, bsome, sh_ar hj4, bsome, sh_rcv hj4, refusal_ok hj4, bsome, if_neg q]
        · unfold m_X8_item
          rw [isSheet8_ok, bsome, e1, if_neg one_ne, in_ok, bsome, e2, if_neg one_ne, g8r, barred_ok hj4 hs, bsome, if_neg q]
      · rcases hs with ⟨a1, a2, a3, a4, a5⟩ | ⟨a1, -⟩
        · have b1 : b = 1 := by
            by_cases z : b < 2 ^ 31
            · exact ((nI_eq (a := 1) (by decide) z).mp hb).symm
            · omega
          refine ⟨1, chp s k kf T (updN X j ((X j).1, (X j).2.1, (X j).2.2.1, updN (X j).2.2.2 a (cutS (X j).2.1 v))) tr gu O ch, mh S Le As Oo (Im, kp, tp, ty, dr, at_, updN It (24 * j + a) (cutS (X j).2.1 v), Mv, Sz, Ln), ?_, ?_, RR_mk hS ⟨hD.1, hD.2.1, hD.2.2.1, ?_⟩⟩
          · unfold m_X7_item
            rw [isSheet_ok, bsome, e1, if_neg one_ne, isLane_ok, bsome, e2, if_neg one_ne, c74, bsome, sh_ar hj4, bsome, sh_rcv hj4, refusal_ok hj4, bsome, if_pos q, c74, bsome, sh_ar hj4, bsome, sh_rcv hj4, put_ok hj4 (by omega) a4, bsome]
          · unfold m_X8_item
            rw [isSheet8_ok, bsome, e1, if_neg one_ne, in_ok, bsome, e2, if_neg one_ne, g8r, barred_ok hj4 (hD.2.2.2 j hj4), bsome, if_pos q, g87, bsome, cut8_ok, bsome]
            dsimp only
            rw [ix24, wIt (by omega), bsome, q2]
          · refine shR_upd hD.2.2.2 (Or.inl ⟨a1, a2, a3, a4, fun i hi => ?_⟩) (fun q hq => rfl) (fun q hq => rfl) (fun i hi => updN_n (by omega))
            show updN It (24 * j + a) (cutS (X j).2.1 v) (24 * j + i) = updN (X j).2.2.2 a (cutS (X j).2.1 v) i
            by_cases z : i = a
            · rw [z, updN_s, updN_s]
            · rw [updN_n z, updN_n (by omega)]
              exact a5 i hi
        · exact absurd a1 q1
