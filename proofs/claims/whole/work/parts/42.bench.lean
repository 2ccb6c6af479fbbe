/-! A BENCH of the class: lives, seats, how many sit, the year, the draw -/
abbrev Bn : Type := (Nat → Nat) × (Nat → Nat) × Nat × Nat × Int32
def nF (f : Nat → Nat) : Nat → Int32 := fun i => nI (f i)
theorem updN_nF (f : Nat → Nat) (k x : Nat) : updN (nF f) k (nI x) = nF (updN f k x) := by
  funext j
  show (if j = k then nI x else nI (f j)) = nI (if j = k then x else f j)
  split <;> rfl
theorem set_self {h : bb_H} {i : Nat} {c : bb_C} (e : h[i]? = some c) : h.set i c = h := by
  apply List.ext_getElem?
  intro j
  by_cases q : j = i
  · subst q
    rw [List.getElem?_set_self (List.getElem?_eq_some_iff.mp e).1, e]
  · rw [List.getElem?_set_ne (fun z => q z.symm)]
def bnO (b : Nat) (B : Bn) : bb_C := (.inr 0, [.ref (b + 1), .ref (b + 2), .int (nI B.2.2.1), .int (nI B.2.2.2.1), .int B.2.2.2.2])
def bnAt (h : bb_H) (b : Nat) (B : Bn) : Prop := h[b]? = some (bnO b B) ∧ h[b + 1]? = some (.inl .int, fnI 6 (nF B.1)) ∧ h[b + 2]? = some (.inl .int, fnI 6 (nF B.2.1))
def bnSet (h : bb_H) (b : Nat) (B : Bn) : bb_H := ((h.set b (bnO b B)).set (b + 1) (.inl .int, fnI 6 (nF B.1))).set (b + 2) (.inl .int, fnI 6 (nF B.2.1))
theorem bnSet_len (h : bb_H) (b : Nat) (B : Bn) : (bnSet h b B).length = h.length := by simp [bnSet]
theorem bnSet_ne {h : bb_H} {b i : Nat} {B : Bn} (h1 : i < b ∨ b + 3 ≤ i) : (bnSet h b B)[i]? = h[i]? := by
  unfold bnSet
  rw [List.getElem?_set_ne (by omega), List.getElem?_set_ne (by omega), List.getElem?_set_ne (by omega)]
theorem bnSet_at {h : bb_H} {b : Nat} {B : Bn} (hl : b + 2 < h.length) : bnAt (bnSet h b B) b B := by
  unfold bnSet bnAt
  refine ⟨?_, ?_, ?_⟩
  · rw [List.getElem?_set_ne (by omega), List.getElem?_set_ne (by omega), List.getElem?_set_self (by omega)]
  · rw [List.getElem?_set_ne (by omega), List.getElem?_set_self (by rw [List.length_set]; omega)]
  · rw [List.getElem?_set_self (by rw [List.length_set, List.length_set]; omega)]
theorem bnSet_bn {h : bb_H} {b : Nat} (hl : b + 2 < h.length) (B B' : Bn) : bnSet (bnSet h b B) b B' = bnSet h b B' := by
  apply List.ext_getElem?
  intro j
  by_cases hj : j < b ∨ b + 3 ≤ j
  · rw [bnSet_ne hj, bnSet_ne hj, bnSet_ne hj]
  · have a1 := bnSet_at (B := B') (h := bnSet h b B) (b := b) (by rw [bnSet_len]; exact hl)
    have a2 := bnSet_at (B := B') (h := h) (b := b) hl
    rcases (show j = b ∨ j = b + 1 ∨ j = b + 2 by omega) with rfl | rfl | rfl
    · rw [a1.1, a2.1]
    · rw [a1.2.1, a2.2.1]
    · rw [a1.2.2, a2.2.2]
section BNA
variable {h : bb_H} {b : Nat} {lv sv : Nat → Nat} {n y : Nat} {d : Int32}
theorem bnAt.len {B : Bn} (A : bnAt h b B) : b + 2 < h.length := (List.getElem?_eq_some_iff.mp A.2.2).1
theorem bnAt.eq {B : Bn} (A : bnAt h b B) : bnSet h b B = h := by
  unfold bnSet
  rw [set_self A.1, set_self A.2.1, set_self A.2.2]
theorem bnAt.set {B : Bn} (A : bnAt h b B) (B' : Bn) : bnAt (bnSet h b B') b B' := bnSet_at A.len
theorem bnAt.rcv {B : Bn} {α : Type} {x : Option α} (A : bnAt h b B) : bb_rcv h b 0 x = x := rcv_of A.1
theorem bnAt.g0 (A : bnAt h b (lv, sv, n, y, d)) : bb_gR h b 0 0 = some (b + 1) := gR_of A.1 rfl
theorem bnAt.g1 (A : bnAt h b (lv, sv, n, y, d)) : bb_gR h b 0 1 = some (b + 2) := gR_of A.1 rfl
theorem bnAt.g2 (A : bnAt h b (lv, sv, n, y, d)) : bb_gI h b 0 2 = some (nI n) := gI_of A.1 rfl
theorem bnAt.g3 (A : bnAt h b (lv, sv, n, y, d)) : bb_gI h b 0 3 = some (nI y) := gI_of A.1 rfl
theorem bnAt.g4 (A : bnAt h b (lv, sv, n, y, d)) : bb_gI h b 0 4 = some d := gI_of A.1 rfl
theorem bnAt.al (A : bnAt h b (lv, sv, n, y, d)) {k : Nat} (hk : k < 6) : bb_aI h (b + 1) .int (nI k) = some (nI (lv k)) := aI_of A.2.1 hk (by decide)
theorem bnAt.as (A : bnAt h b (lv, sv, n, y, d)) {k : Nat} (hk : k < 6) : bb_aI h (b + 2) .int (nI k) = some (nI (sv k)) := aI_of A.2.2 hk (by decide)
theorem bnAt.wl (A : bnAt h b (lv, sv, n, y, d)) {k : Nat} (hk : k < 6) (x : Nat) : bb_sV h (b + 1) .int (nI k) (.int (nI x)) = some (bnSet h b (updN lv k x, sv, n, y, d)) := by
  have e := A.eq
  rw [sI_of A.2.1 hk (by decide), updN_nF]
  congr 1
  unfold bnSet at e ⊢
  rw [show h.set b (bnO b (updN lv k x, sv, n, y, d)) = h from set_self A.1]
  exact (set_self (by rw [List.getElem?_set_ne (by omega)]; exact A.2.2)).symm
theorem bnAt.ws (A : bnAt h b (lv, sv, n, y, d)) {k : Nat} (hk : k < 6) (x : Nat) : bb_sV h (b + 2) .int (nI k) (.int (nI x)) = some (bnSet h b (lv, updN sv k x, n, y, d)) := by
  rw [sI_of A.2.2 hk (by decide), updN_nF]
  congr 1
  unfold bnSet
  rw [show h.set b (bnO b (lv, updN sv k x, n, y, d)) = h from set_self A.1, set_self A.2.1]
theorem bnAt.p2 (A : bnAt h b (lv, sv, n, y, d)) (x : Nat) : bb_pI h b 0 2 (nI x) = some (bnSet h b (lv, sv, x, y, d)) := by
  rw [pI_of A.1 (Nat.le_of_ble_eq_true rfl)]
  congr 1
  unfold bnSet
  exact ((set_self (by rw [List.getElem?_set_ne (by omega), List.getElem?_set_ne (by omega)]; exact A.2.2)).trans (set_self (by rw [List.getElem?_set_ne (by omega)]; exact A.2.1))).symm
theorem bnAt.p3 (A : bnAt h b (lv, sv, n, y, d)) (x : Nat) : bb_pI h b 0 3 (nI x) = some (bnSet h b (lv, sv, n, x, d)) := by
  rw [pI_of A.1 (Nat.le_of_ble_eq_true rfl)]
  congr 1
  unfold bnSet
  exact ((set_self (by rw [List.getElem?_set_ne (by omega), List.getElem?_set_ne (by omega)]; exact A.2.2)).trans (set_self (by rw [List.getElem?_set_ne (by omega)]; exact A.2.1))).symm
theorem bnAt.p4 (A : bnAt h b (lv, sv, n, y, d)) (x : Int32) : bb_pI h b 0 4 x = some (bnSet h b (lv, sv, n, y, x)) := by
  rw [pI_of A.1 (Nat.le_of_ble_eq_true rfl)]
  congr 1
  unfold bnSet
  exact ((set_self (by rw [List.getElem?_set_ne (by omega), List.getElem?_set_ne (by omega)]; exact A.2.2)).trans (set_self (by rw [List.getElem?_set_ne (by omega)]; exact A.2.1))).symm
/-- only the first six places of a row count -/
theorem bnSet_cong {lv2 sv2 : Nat → Nat} (h1 : ∀ k, k < 6 → lv k = lv2 k) (h2 : ∀ k, k < 6 → sv k = sv2 k) : bnSet h b (lv, sv, n, y, d) = bnSet h b (lv2, sv2, n, y, d) := by
  unfold bnSet
  rw [show fnI 6 (nF lv) = fnI 6 (nF lv2) from fnI_cong (fun k hk => by unfold nF; rw [h1 k hk]), show fnI 6 (nF sv) = fnI 6 (nF sv2) from fnI_cong (fun k hk => by unfold nF; rw [h2 k hk])]
  rfl
end BNA
theorem fuel_s {f d : Nat} (h : d < f) : ∃ g, f = g + 1 := ⟨f - 1, by omega⟩
/-! takeFrom -/
def cpyN (f g : Nat → Nat) (j : Nat) : Nat → Nat := fun i => if i < j then f i else g i
theorem cpyN_s (f g : Nat → Nat) (j : Nat) : updN (cpyN f g j) j (f j) = cpyN f g (j + 1) := by
  funext i
  unfold updN cpyN
  by_cases e : i = j
  · subst e
    rw [if_pos rfl, if_pos (by omega)]
  · by_cases q : i < j
    · rw [if_neg e, if_pos q, if_pos (by omega)]
    · rw [if_neg e, if_neg q, if_neg (by omega)]
theorem takeFrom_loop {o b : Nat} {lo so : Nat → Nat} {no yo : Nat} {do_ : Int32} (hd : b + 3 ≤ o ∨ o + 3 ≤ b) : ∀ (k j f : Nat) (h : bb_H) (lv sv : Nat → Nat) (n y : Nat) (d : Int32), j + k = 6 → k < f → bnAt h o (lo, so, no, yo, do_) → bnAt h b (cpyN lo lv j, cpyN so sv j, n, y, d) → m_X0_takeFrom_2 f b o (nI j) h = some (bnSet h b (lo, so, no, yo, do_)) := by
  intro k
  induction k with
  | zero =>
    intro j f h lv sv n y d hj hf O A
    obtain ⟨g, rfl⟩ := fuel_s hf
    obtain rfl : j = 6 := (by omega)
    unfold m_X0_takeFrom_2
    rw [if_pos (by decide), O.g2, bsome, A.p2, bsome]
    have A1 := A.set (cpyN lo lv 6, cpyN so sv 6, no, y, d)
    have O1 : bnAt (bnSet h b (cpyN lo lv 6, cpyN so sv 6, no, y, d)) o (lo, so, no, yo, do_) := ⟨by rw [bnSet_ne (by omega)]; exact O.1, by rw [bnSet_ne (by omega)]; exact O.2.1, by rw [bnSet_ne (by omega)]; exact O.2.2⟩
    rw [O1.g3, bsome, A1.p3, bsome, bnSet_bn A.len]
    have A2 := A.set (cpyN lo lv 6, cpyN so sv 6, no, yo, d)
    have O2 : bnAt (bnSet h b (cpyN lo lv 6, cpyN so sv 6, no, yo, d)) o (lo, so, no, yo, do_) := ⟨by rw [bnSet_ne (by omega)]; exact O.1, by rw [bnSet_ne (by omega)]; exact O.2.1, by rw [bnSet_ne (by omega)]; exact O.2.2⟩
    rw [O2.g4, bsome, A2.p4, bsome, bnSet_bn A.len]
    exact congrArg some (bnSet_cong (fun k hk => if_pos hk) (fun k hk => if_pos hk))
  | succ k ih =>
    intro j f h lv sv n y d hj hf O A
    obtain ⟨g, rfl⟩ := fuel_s hf
    unfold m_X0_takeFrom_2
    rw [if_neg (show ¬ (6 : Int32) ≤ nI j from Lge 6 (by omega) (by decide)), A.g0, bsome, O.g0, bsome, O.al (by omega), bsome, A.wl (by omega), bsome, cpyN_s]
    have A1 := A.set (cpyN lo lv (j + 1), cpyN so sv j, n, y, d)
    have O1 : bnAt (bnSet h b (cpyN lo lv (j + 1), cpyN so sv j, n, y, d)) o (lo, so, no, yo, do_) := ⟨by rw [bnSet_ne (by omega)]; exact O.1, by rw [bnSet_ne (by omega)]; exact O.2.1, by rw [bnSet_ne (by omega)]; exact O.2.2⟩
    rw [A1.g1, bsome, O1.g1, bsome, O1.as (by omega), bsome, A1.ws (by omega), bsome, cpyN_s, bnSet_bn A.len, nI_1]
    have A2 := A.set (cpyN lo lv (j + 1), cpyN so sv (j + 1), n, y, d)
    have O2 : bnAt (bnSet h b (cpyN lo lv (j + 1), cpyN so sv (j + 1), n, y, d)) o (lo, so, no, yo, do_) := ⟨by rw [bnSet_ne (by omega)]; exact O.1, by rw [bnSet_ne (by omega)]; exact O.2.1, by rw [bnSet_ne (by omega)]; exact O.2.2⟩
    rw [ih (j + 1) g _ lv sv n y d (by omega) (by omega) O2 A2, bnSet_bn A.len]
theorem takeFrom_ok {h : bb_H} {o b : Nat} {O B : Bn} (hd : b + 3 ≤ o ∨ o + 3 ≤ b) (hO : bnAt h o O) (hB : bnAt h b B) : m_X0_takeFrom b o h = some (bnSet h b O) := by
  obtain ⟨lo, so, no, yo, do_⟩ := O
  obtain ⟨lv, sv, n, y, d⟩ := B
  unfold m_X0_takeFrom
  refine takeFrom_loop hd 6 0 1000 h lv sv n y d rfl (by decide) hO ?_
  exact hB
/-! where one sits; who sits -/
def sp_seat (sv : Nat → Nat) (m : Nat) : Nat → Nat → Int32
  | _, 0 => -4
  | j, k + 1 => if sv j = m then nI j else sp_seat sv m (j + 1) k
theorem seatOf_loop {h : bb_H} {b : Nat} {lv sv : Nat → Nat} {n y : Nat} {d : Int32} (A : bnAt h b (lv, sv, n, y, d)) (hn : n ≤ 6) (hs : ∀ i, i < n → sv i < 6) {m : Nat} (hm : m < 6) : ∀ (k j f : Nat), j + k = n → k < f → m_X0_seatOf_2 f b (nI m) (nI j) h = some (sp_seat sv m j k, h) := by
  intro k
  induction k with
  | zero =>
    intro j f hj hf
    obtain ⟨g, rfl⟩ := fuel_s hf
    unfold m_X0_seatOf_2
    rw [A.g2, bsome, if_pos (nI_le (by omega) (by omega))]
    rfl
  | succ k ih =>
    intro j f hj hf
    obtain ⟨g, rfl⟩ := fuel_s hf
    unfold m_X0_seatOf_2
    rw [A.g2, bsome, if_neg (nI_ge (by omega) (by omega)), A.g1, bsome, A.as (by omega), bsome]
    have h1 := hs j (by omega)
    rw [ite_e (by omega) (by omega), nI_1, ih (j + 1) g (by omega) (by omega)]
    show _ = some ((if sv j = m then nI j else sp_seat sv m (j + 1) k), h)
    split <;> rfl
theorem seatOf_ok {h : bb_H} {b : Nat} {lv sv : Nat → Nat} {n y : Nat} {d : Int32} (A : bnAt h b (lv, sv, n, y, d)) (hn : n ≤ 6) (hs : ∀ i, i < n → sv i < 6) {m : Nat} (hm : m < 6) : m_X0_seatOf b (nI m) h = some (sp_seat sv m 0 n, h) := seatOf_loop A hn hs hm n 0 1000 (by omega) (by omega)
/-- the set of those on the first places -/
def sp_who (sv : Nat → Nat) : Nat → Nat → Int32 → Int32
  | _, 0, w => w
  | j, k + 1, w => sp_who sv (j + 1) k (w ||| (1 <<< (nI (sv j) &&& 31)))
theorem whoSits_loop {h : bb_H} {b : Nat} {lv sv : Nat → Nat} {n y : Nat} {d : Int32} (A : bnAt h b (lv, sv, n, y, d)) (hn : n ≤ 6) : ∀ (k j f : Nat) (w : Int32), j + k = n → k < f → m_X0_whoSits_4 f b w (nI j) h = some (sp_who sv j k w, h) := by
  intro k
  induction k with
  | zero =>
    intro j f w hj hf
    obtain ⟨g, rfl⟩ := fuel_s hf
    unfold m_X0_whoSits_4
    rw [A.g2, bsome, if_pos (nI_le (by omega) (by omega))]
    rfl
  | succ k ih =>
    intro j f w hj hf
    obtain ⟨g, rfl⟩ := fuel_s hf
    unfold m_X0_whoSits_4
    rw [A.g2, bsome, if_neg (nI_ge (by omega) (by omega)), A.g1, bsome, A.as (by omega), bsome, nI_1, ih (j + 1) g _ (by omega) (by omega)]
    rfl
theorem whoSits_ok {h : bb_H} {b : Nat} {lv sv : Nat → Nat} {n y : Nat} {d : Int32} (A : bnAt h b (lv, sv, n, y, d)) (hn : n ≤ 6) : m_X0_whoSits b h = some (sp_who sv 0 n 0, h) := whoSits_loop A hn n 0 1000 0 (by omega) (by omega)
/-- the lives of those on the first places together -/
def sp_sum (lv sv : Nat → Nat) : Nat → Nat → Nat → Nat
  | _, 0, w => w
  | j, k + 1, w => sp_sum lv sv (j + 1) k (w + lv (sv j))
theorem lifeOfAll_loop {h : bb_H} {b : Nat} {lv sv : Nat → Nat} {n y : Nat} {d : Int32} (A : bnAt h b (lv, sv, n, y, d)) (hn : n ≤ 6) (hs : ∀ i, i < n → sv i < 6) : ∀ (k j f w : Nat), j + k = n → k < f → m_X0_lifeOfAll_4 f b (nI w) (nI j) h = some (nI (sp_sum lv sv j k w), h) := by
  intro k
  induction k with
  | zero =>
    intro j f w hj hf
    obtain ⟨g, rfl⟩ := fuel_s hf
    unfold m_X0_lifeOfAll_4
    rw [A.g2, bsome, if_pos (nI_le (by omega) (by omega))]
    rfl
  | succ k ih =>
    intro j f w hj hf
    obtain ⟨g, rfl⟩ := fuel_s hf
    unfold m_X0_lifeOfAll_4
    rw [A.g2, bsome, if_neg (nI_ge (by omega) (by omega)), A.g0, bsome, A.g1, bsome, A.as (by omega), bsome, A.al (hs j (by omega)), bsome, nI_1, nI_add, ih (j + 1) g _ (by omega) (by omega)]
    rfl
theorem lifeOfAll_ok {h : bb_H} {b : Nat} {lv sv : Nat → Nat} {n y : Nat} {d : Int32} (A : bnAt h b (lv, sv, n, y, d)) (hn : n ≤ 6) (hs : ∀ i, i < n → sv i < 6) : m_X0_lifeOfAll b h = some (nI (sp_sum lv sv 0 n 0), h) := lifeOfAll_loop A hn hs n 0 1000 0 (by omega) (by omega)
/-! numbers within bounds -/
def inB (v lo hi : Int32) : Int32 := if v < lo then 0 else if hi < v then 0 else 1
theorem within_ok (v lo hi : Int32) (h : bb_H) : m_X7_within v lo hi h = some (inB v lo hi, h) := by
  unfold m_X7_within inB m_X7_within_14 m_X7_within_15
  split
  · rfl
  · split <;> rfl
theorem in_ok (v lo hi : Int32) (h : bb_H) : m_X8_in v lo hi h = some (inB v lo hi, h) := by
  unfold m_X8_in inB m_X8_in_14 m_X8_in_15
  split
  · rfl
  · split <;> rfl
def hasB (s k : Int32) : Int32 := if ((s >>> (k &&& 31)) &&& 1) = 1 then 1 else 0
theorem holds_ok (s k : Int32) (h : bb_H) : m_X7_holds s k h = some (hasB s k, h) := by
  unfold m_X7_holds hasB m_X7_holds_14
  split <;> rfl
theorem has_ok (s k : Int32) (h : bb_H) : m_X8_has s k h = some (hasB s k, h) := by
  unfold m_X8_has hasB m_X8_has_14
  split <;> rfl
theorem inB_01 (v lo hi : Int32) : inB v lo hi = 0 ∨ inB v lo hi = 1 := by
  unfold inB
  split
  · exact Or.inl rfl
  · split
    · exact Or.inl rfl
    · exact Or.inr rfl
theorem rz_in (v lo hi : Int32) (h : bb_H) : bb_rz (inB v lo hi) h = some (inB v lo hi, h) := by
  unfold bb_rz
  rw [if_pos (inB_01 v lo hi)]
