/-! the next order: the class's, the model's -/
theorem chk_w {w : Nat} (hw : w < 64) : ∃ ls, itr 720 (srt w) = some ls ∧ (∀ l, l ∈ ls → okL w (srt w).length l = true) ∧ mir [] ls = true ∧ trd (srt w) = false := by
  have h := List.all_eq_true.mp chk_all w (List.mem_range.mpr hw)
  unfold chkW at h
  cases e : itr 720 (srt w) with
  | none => rw [e] at h; cases h
  | some ls =>
    rw [e] at h
    dsimp only at h
    rw [Bool.and_eq_true, Bool.and_eq_true, List.all_eq_true, Bool.not_eq_true'] at h
    exact ⟨ls, rfl, h.1, h.2.1, h.2.2⟩
section ODC
variable {s k : St} {kf : Int32} {T : Tp} {X : Nat → Sh} {tr : Bn} {gu : Rl} {O : Od} {ch : Nat → Nat}
theorem co0 : bb_gR (chp s k kf T X tr gu O ch) 96 2 0 = some 97 := rfl
theorem co1 : bb_gR (chp s k kf T X tr gu O ch) 96 2 1 = some 98 := rfl
theorem co2 : bb_gI (chp s k kf T X tr gu O ch) 96 2 2 = some (nI O.2.2) := rfl
theorem cor {α : Type} {x : Option α} : bb_rcv (chp s k kf T X tr gu O ch) 96 2 x = x := rfl
theorem po2 (x : Nat) : bb_pI (chp s k kf T X tr gu O ch) 96 2 2 (nI x) = some (chp s k kf T X tr gu (O.1, O.2.1, x) ch) := rfl
theorem rom {i : Nat} (hi : i < 6) : bb_aI (chp s k kf T X tr gu O ch) 97 .int (nI i) = some (nI (O.1 i)) := aI_of (h := chp s k kf T X tr gu O ch) (f := nF O.1) rfl hi (by decide)
theorem wom {i : Nat} (hi : i < 6) (x : Nat) : bb_sV (chp s k kf T X tr gu O ch) 97 .int (nI i) (.int (nI x)) = some (chp s k kf T X tr gu (updN O.1 i x, O.2) ch) := by
  rw [sI_of (h := chp s k kf T X tr gu O ch) (f := nF O.1) (n := 6) rfl hi (by decide), updN_nF]
  rfl
theorem rob {i : Nat} (hi : i < 6) : bb_aI (chp s k kf T X tr gu O ch) 98 .int (nI i) = some (nI (O.2.1 i)) := aI_of (h := chp s k kf T X tr gu O ch) (f := nF O.2.1) rfl hi (by decide)
theorem wob {i : Nat} (hi : i < 6) (x : Nat) : bb_sV (chp s k kf T X tr gu O ch) 98 .int (nI i) (.int (nI x)) = some (chp s k kf T X tr gu (O.1, updN O.2.1 i x, O.2.2) ch) := by
  rw [sI_of (h := chp s k kf T X tr gu O ch) (f := nF O.2.1) (n := 6) rfl hi (by decide), updN_nF]
  rfl
theorem aom : (chp s k kf T X tr gu O ch)[97]? = some (.inl .int, fnI 6 (nF O.1)) := rfl
theorem aob : (chp s k kf T X tr gu O ch)[98]? = some (.inl .int, fnI 6 (nF O.2.1)) := rfl
theorem swapO_ok {a b : Nat} (ha : a < 6) (hb : b < 6) : m_X2_swap 96 (nI a) (nI b) (chp s k kf T X tr gu O ch) = some (chp s k kf T X tr gu (sw2 O.1 a b, O.2) ch) := by
  unfold m_X2_swap
  rw [co0, bsome, rom ha, bsome, bsome, bsome, rom hb, bsome, wom ha, bsome, co0, bsome, wom hb, bsome]
  rfl
end ODC
section ODA
variable {s k : St} {kf : Int32} {T : Tp} {X : Nat → Sh} {tr : Bn} {gu : Rl} {bst : Nat → Nat} {n : Nat} {ch : Nat → Nat}
theorem romT {m : Nat → Nat} {i : Nat} (hi : i < 6) : bb_aI (chp s k kf T X tr gu (m, bst, n) ch) 97 .int (nI i) = some (nI (m i)) := rom hi
theorem co2T {m : Nat → Nat} : bb_gI (chp s k kf T X tr gu (m, bst, n) ch) 96 2 2 = some (nI n) := rfl
theorem adv93 : ∀ (t lo hi f : Nat) (m : Nat → Nat), hi ≤ lo + 2 * t → hi < 6 → lo < 100 → t < f → m_X2_advance_93 f 96 (nI lo) (nI hi) (chp s k kf T X tr gu (m, bst, n) ch) = some (1, chp s k kf T X tr gu (rvN t lo hi m, bst, n) ch) := by
  intro t
  induction t with
  | zero =>
    intro lo hi f m h1 h2 h3 hf
    obtain ⟨g, rfl⟩ := fuel_s hf
    unfold m_X2_advance_93
    rw [ite_le (by omega) (by omega), if_pos (by omega)]
    rfl
  | succ t ih =>
    intro lo hi f m h1 h2 h3 hf
    obtain ⟨g, rfl⟩ := fuel_s hf
    unfold m_X2_advance_93 rvN
    by_cases c : hi ≤ lo
    · rw [if_pos c, ite_le (by omega) (by omega), if_pos c]
    · obtain ⟨h', rfl⟩ : ∃ h', hi = h' + 1 := ⟨hi - 1, by omega⟩
      rw [if_neg c, if_neg (nI_ge (by omega) (by omega)), cor, swapO_ok (by omega) (by omega), bsome, nI_1, pk_m1, ih (lo + 1) h' g _ (by omega) (by omega) (by omega) (by omega)]
      rfl
theorem adv75 {r o : Nat} {m : Nat → Nat} (hn : n ≤ 6) (hr : r + 1 < n) (ho : o < n) : m_X2_advance_75 96 (nI r) (nI o) (chp s k kf T X tr gu (m, bst, n) ch) = some (1, chp s k kf T X tr gu (rvN 6 (r + 1) (n - 1) (sw2 m r o), bst, n) ch) := by
  unfold m_X2_advance_75
  rw [cor, swapO_ok (by omega) (by omega), bsome, co2T, bsome, nI_1, show nI n - 1 = nI (n - 1) from pk_sub (b := 1) (by omega)]
  exact adv93 6 (r + 1) (n - 1) 1000 _ (by omega) (by omega) (by omega) (by decide)
theorem adv47 {r : Nat} {m : Nat → Nat} (hn : n ≤ 6) (hr : r + 1 < n) (hm : ∀ i, i < n → m i < 6) : ∀ (o f : Nat), o < n → o < f → m_X2_advance_47 f 96 (nI r) (nI o) (chp s k kf T X tr gu (m, bst, n) ch) = some (1, chp s k kf T X tr gu (rvN 6 (r + 1) (n - 1) (sw2 m r (otN m r o)), bst, n) ch) := by
  intro o
  induction o with
  | zero =>
    intro f ho hf
    obtain ⟨g, rfl⟩ := fuel_s hf
    unfold m_X2_advance_47
    rw [nI_1, if_pos (nI_le (by omega) (by omega)), adv75 hn hr ho]
    rfl
  | succ o ih =>
    intro f ho hf
    obtain ⟨g, rfl⟩ := fuel_s hf
    have m1 := hm r (by omega)
    have m2 := hm (o + 1) ho
    unfold m_X2_advance_47 otN
    rw [nI_1, ite_le (by omega) (by omega)]
    by_cases c1 : o + 1 ≤ r + 1
    · rw [if_pos c1, if_pos c1, adv75 hn hr ho]
    · rw [if_neg c1, if_neg c1, co0, bsome, romT (by omega), bsome, bsome, romT (by omega), bsome, ite_le (by omega) (by omega)]
      by_cases c2 : m r ≤ m (o + 1)
      · rw [if_pos c2, if_pos c2, adv75 hn hr ho]
      · rw [if_neg c2, if_neg c2, pk_m1, ih g (by omega) (by omega)]
theorem adv7 {m : Nat → Nat} (hn : n ≤ 6) (h1 : 1 ≤ n) (hm : ∀ i, i < n → m i < 6) : ∀ (r f : Nat), r < n → r < f → m_X2_advance_7 f 96 (nI r - 1) (chp s k kf T X tr gu (m, bst, n) ch) = match rsN m r with
    | none => some (0, chp s k kf T X tr gu (m, bst, n) ch)
    | some q => some (1, chp s k kf T X tr gu (rvN 6 (q + 1) (n - 1) (sw2 m q (otN m q (n - 1))), bst, n) ch) := by
  intro r
  induction r with
  | zero =>
    intro f hr hf
    obtain ⟨g, rfl⟩ := fuel_s hf
    unfold m_X2_advance_7 m_X2_advance_34
    rw [if_pos (show nI 0 - 1 < (0 : Int32) by decide), if_neg (by decide)]
    rfl
  | succ r ih =>
    intro f hr hf
    obtain ⟨g, rfl⟩ := fuel_s hf
    have m1 := hm r (by omega)
    have m2 := hm (r + 1) hr
    unfold m_X2_advance_7 rsN
    rw [nI_pred, if_neg (nI_pos (by omega)), co0, bsome, romT (by omega), bsome, bsome, nI_1, romT (by omega), bsome, ite_le (by omega) (by omega)]
    by_cases c : m r ≤ m (r + 1)
    · rw [if_pos c, if_pos c]
      unfold m_X2_advance_34
      rw [if_pos (nI_pos' (by omega)), co2T, bsome, show nI n - 1 = nI (n - 1) from pk_sub (b := 1) (by omega), adv47 hn hr hm (n - 1) 1000 (by omega) (by omega)]
    · rw [if_neg c, if_neg c, show nI r + (-1) = nI r - 1 from (Int32.sub_eq_add_neg _ _).symm, ih g (by omega) (by omega)]
theorem adv_ok {m : Nat → Nat} (hn : n ≤ 6) (hm : ∀ i, i < n → m i < 6) : m_X2_advance 96 (chp s k kf T X tr gu (m, bst, n) ch) = match nxt n m with
    | none => some (0, chp s k kf T X tr gu (m, bst, n) ch)
    | some g => some (1, chp s k kf T X tr gu (g, bst, n) ch) := by
  unfold m_X2_advance nxt
  rw [co2T, bsome]
  by_cases h1 : 1 ≤ n
  · rw [show nI n - 2 = nI (n - 1) - 1 from by
      rw [show nI (n - 1) = nI n - 1 from (pk_sub (b := 1) (by omega)).symm, show (2 : Int32) = 1 + 1 from by decide, Int32.sub_eq_add_neg, Int32.sub_eq_add_neg, Int32.sub_eq_add_neg, Int32.add_assoc]
      congr 1, adv7 hn h1 hm (n - 1) 1000 (by omega) (by omega)]
    cases rsN m (n - 1) <;> rfl
  · obtain rfl : n = 0 := by omega
    unfold m_X2_advance_7 m_X2_advance_34
    rw [if_pos (by decide), if_neg (by decide)]
    rfl
theorem keepBest_loop {m : Nat → Nat} : ∀ (t j f : Nat) (b0 : Nat → Nat), j + t = 6 → t < f → m_X2_keepAsBest_2 f 96 (nI j) (chp s k kf T X tr gu (m, cpyN m b0 j, n) ch) = some (chp s k kf T X tr gu (m, m, n) ch) := by
  intro t
  induction t with
  | zero =>
    intro j f b0 hj hf
    obtain ⟨g, rfl⟩ := fuel_s hf
    obtain rfl : j = 6 := by omega
    unfold m_X2_keepAsBest_2
    rw [if_pos (by decide)]
    rfl
  | succ t ih =>
    intro j f b0 hj hf
    obtain ⟨g, rfl⟩ := fuel_s hf
    unfold m_X2_keepAsBest_2
    rw [if_neg (show ¬ (6 : Int32) ≤ nI j from Lge 6 (by omega) (by decide)), co1, bsome, co0, bsome, rom (by omega), bsome, wob (by omega), bsome]
    dsimp only
    rw [cpyN_s, nI_1, ih (j + 1) g b0 (by omega) (by omega)]
theorem keepBest_ok {m b0 : Nat → Nat} : m_X2_keepAsBest 96 (chp s k kf T X tr gu (m, b0, n) ch) = some (chp s k kf T X tr gu (m, m, n) ch) := by
  have e := keepBest_loop (s := s) (k := k) (kf := kf) (T := T) (X := X) (tr := tr) (gu := gu) (n := n) (ch := ch) (m := m) 6 0 1000 b0 rfl (by decide)
  exact e
/-- those of a set, from j on, put behind c -/
theorem start_loop {w : Nat} (hw : w < 64) : ∀ (t j f c : Nat) (m b0 : Nat → Nat), j + t = 6 → t < f → c = ((List.range j).filter (fun q => w.testBit q)).length → (∀ i, i < c → m i = ((List.range j).filter (fun q => w.testBit q)).getD i 0) → ∃ m2, m_X2_start_12 f 96 (nI w) (nI j) (chp s k kf T X tr gu (m, b0, c) ch) = some (chp s k kf T X tr gu (m2, m2, (srt w).length) ch) ∧ ∀ i, i < (srt w).length → m2 i = (srt w).getD i 0 := by
  intro t
  induction t with
  | zero =>
    intro j f c m b0 hj hf hc hm
    obtain ⟨g, rfl⟩ := fuel_s hf
    obtain rfl : j = 6 := by omega
    refine ⟨m, ?_, fun i hi => hm i (by rw [hc]; exact hi)⟩
    unfold m_X2_start_12
    rw [if_pos (by decide), cor, keepBest_ok, bsome, hc]
    rfl
  | succ t ih =>
    intro j f c m b0 hj hf hc hm
    obtain ⟨g, rfl⟩ := fuel_s hf
    have hcj : c ≤ j := by
      rw [hc]
      have := List.length_filter_le (fun q => w.testBit q) (List.range j)
      rw [List.length_range] at this
      exact this
    have hs : (List.range (j + 1)).filter (fun q => w.testBit q) = (List.range j).filter (fun q => w.testBit q) ++ (if w.testBit j then [j] else []) := by
      rw [List.range_succ, List.filter_append]
      congr 1
      cases e : w.testBit j <;> simp [e]
    have key0 : m_X2_start_12 (g + 1) 96 (nI w) (nI j) (chp s k kf T X tr gu (m, b0, c) ch) = if w.testBit j then m_X2_start_12 g 96 (nI w) (nI (j + 1)) (chp s k kf T X tr gu (updN m c j, b0, c + 1) ch) else m_X2_start_12 g 96 (nI w) (nI (j + 1)) (chp s k kf T X tr gu (m, b0, c) ch) := by
      conv => lhs; unfold m_X2_start_12
      unfold m_X2_start_46
      rw [if_neg (show ¬ (6 : Int32) ≤ nI j from Lge 6 (by omega) (by decide)), holds_ok, bsome]
      dsimp only
      rw [bit_ite hw (by omega), co0, bsome, co2, bsome]
      dsimp only
      rw [wom (by omega), bsome, co2, bsome]
      dsimp only
      rw [nI_1, po2, bsome, nI_1]
    rw [key0]
    cases e : w.testBit j with
    | true =>
      rw [e, if_pos rfl] at hs
      rw [if_pos rfl]
      refine ih (j + 1) g (c + 1) _ b0 (by omega) (by omega) (by rw [hs, List.length_append, ← hc]; rfl) (fun i hi => ?_)
      rw [hs]
      by_cases z : i = c
      · rw [z, updN_s, List.getD_eq_getElem?_getD, List.getElem?_append_right (by omega), ← hc, Nat.sub_self]
        rfl
      · rw [updN_n z, hm i (by omega), List.getD_eq_getElem?_getD, List.getD_eq_getElem?_getD, List.getElem?_append_left (by omega)]
    | false =>
      rw [e, if_neg (by decide), List.append_nil] at hs
      rw [if_neg (by decide)]
      exact ih (j + 1) g c m b0 (by omega) (by omega) (by rw [hs]; exact hc) (fun i hi => by rw [hs]; exact hm i hi)
end ODA
theorem start_ok {s k : St} {kf : Int32} {T : Tp} {X : Nat → Sh} {tr : Bn} {gu : Rl} {O : Od} {ch : Nat → Nat} (hB : okB s.2.1) : ∃ m2, m_X2_start 96 9 (chp s k kf T X tr gu O ch) = some (chp s k kf T X tr gu (m2, m2, (srt (whoN s.2.1.2.1 0 s.2.1.2.2.1 0)).length) ch) ∧ ∀ i, i < (srt (whoN s.2.1.2.1 0 s.2.1.2.2.1 0)).length → m2 i = (srt (whoN s.2.1.2.1 0 s.2.1.2.2.1 0)).getD i 0 := by
  obtain ⟨e1, e2⟩ := sp_who_ok hB.2.2.1
  obtain ⟨m, b0, n⟩ := O
  obtain ⟨m2, e3, h3⟩ := start_loop (s := s) (k := k) (kf := kf) (T := T) (X := X) (tr := tr) (gu := gu) (ch := ch) e2 6 0 1000 0 m b0 rfl (by decide) rfl (fun i hi => by omega)
  refine ⟨m2, ?_, h3⟩
  unfold m_X2_start
  rw [(cB9).rcv, whoSits_ok cB9 hB.1, bsome, e1]
  dsimp only
  rw [show (0 : Int32) = nI 0 from rfl, po2, bsome]
  exact e3
/-! the model's next order -/
def frO (S0 S : Nat → Int32) (n : Nat) (f : Nat → Nat) : Prop := (∀ i, i < n → S (10 + i) = nI (f i)) ∧ ∀ i, i < 10 ∨ 16 ≤ i → S i = S0 i
section ODM
variable {S0 Le As Oo : Nat → Int32} {M : Mx} {n : Nat}
theorem frO_sw {S : Nat → Int32} {f : Nat → Nat} {a b : Nat} (hn : n ≤ 6) (ha : a < n) (hb : b < n) (F : frO S0 S n f) : frO S0 (updN (updN S (10 + a) (S (10 + b))) (10 + b) (S (10 + a))) n (sw2 f a b) := by
  refine ⟨fun i hi => ?_, fun i hi => ?_⟩
  · unfold sw2
    by_cases c1 : i = b
    · rw [c1, updN_s, updN_s]
      exact F.1 a ha
    · rw [updN_n (by omega), updN_n c1]
      by_cases c2 : i = a
      · rw [c2, updN_s, updN_s]
        exact F.1 b hb
      · rw [updN_n (by omega), updN_n c2]
        exact F.1 i hi
  · rw [updN_n (by omega), updN_n (by omega)]
    exact F.2 i hi
theorem nx137 (hn : n ≤ 6) : ∀ (t lo hi g : Nat) (S : Nat → Int32) (f : Nat → Nat), hi ≤ lo + 2 * t → hi < n → lo < 100 → t < g → frO S0 S n f → ∃ S2, m_X8_nextOrder_137 g 0 (nI lo) (nI hi) (mh S Le As Oo M) = some (1, mh S2 Le As Oo M) ∧ frO S0 S2 n (rvN t lo hi f) := by
  intro t
  induction t with
  | zero =>
    intro lo hi g S f h1 h2 h3 hg F
    obtain ⟨g, rfl⟩ := fuel_s hg
    refine ⟨S, ?_, F⟩
    unfold m_X8_nextOrder_137
    rw [ite_le (by omega) (by omega), if_pos (by omega)]
  | succ t ih =>
    intro lo hi g S f h1 h2 h3 hg F
    obtain ⟨g, rfl⟩ := fuel_s hg
    unfold rvN
    by_cases c : hi ≤ lo
    · refine ⟨S, ?_, by rw [if_pos c]; exact F⟩
      unfold m_X8_nextOrder_137
      rw [ite_le (by omega) (by omega), if_pos c]
    · obtain ⟨h', rfl⟩ : ∃ h', hi = h' + 1 := ⟨hi - 1, by omega⟩
      obtain ⟨S2, e, F2⟩ := ih (lo + 1) h' g _ _ (by omega) (by omega) (by omega) (by omega) (frO_sw hn (show lo < n by omega) h2 F)
      refine ⟨S2, ?_, by rw [if_neg c]; exact F2⟩
      unfold m_X8_nextOrder_137
      rw [if_neg (nI_ge (by omega) (by omega)), g80, bsome, ix10, rS (by omega), bsome, bsome, bsome, ix10, rS (by omega), bsome, wS (by omega), bsome, g80, bsome, wS (by omega), bsome, nI_1, pk_m1]
      exact e
theorem nx57 (hn : n ≤ 6) {S : Nat → Int32} {f : Nat → Nat} {r : Nat} (hr : r + 1 < n) (hf6 : ∀ i, i < n → f i < 6) (hle : f r ≤ f (r + 1)) (h1 : S0 1 = nI n) (F : frO S0 S n f) : ∀ (o g : Nat), r + 1 ≤ o → o < n → o < g → ∃ S2, m_X8_nextOrder_57 g 0 (nI r) (nI o) (mh S Le As Oo M) = some (1, mh S2 Le As Oo M) ∧ frO S0 S2 n (rvN 6 (r + 1) (n - 1) (sw2 f r (otN f r o))) := by
  intro o
  induction o with
  | zero => intro g h; omega
  | succ o ih =>
    intro g ho1 ho2 hg
    obtain ⟨g, rfl⟩ := fuel_s hg
    have m1 := hf6 r (by omega)
    have m2 := hf6 (o + 1) ho2
    by_cases c : f r ≤ f (o + 1)
    · have hot : otN f r (o + 1) = o + 1 := by
        unfold otN
        split
        · rfl
        · rfl
      have F2 := frO_sw hn (show r < n by omega) ho2 F
      obtain ⟨S2, e, F3⟩ := nx137 (Le := Le) (As := As) (Oo := Oo) (M := M) hn 6 (r + 1) (n - 1) 1000 _ _ (by omega) (by omega) (by omega) (by decide) F2
      refine ⟨S2, ?_, by rw [hot]; exact F3⟩
      unfold m_X8_nextOrder_57
      rw [g80, bsome, ix10, rS (by omega), bsome, bsome, ix10, rS (by omega), bsome, F.1 _ ho2, F.1 r (by omega), ite_le (by omega) (by omega), if_pos c, bsome, rS (by omega), bsome, bsome, bsome, rS (by omega), bsome, wS (by omega), bsome, g80, bsome, wS (by omega), bsome, g80, bsome, rS1, bsome, updN_n (by omega), updN_n (by omega), F.2 1 (by omega), h1, nI_1, show nI n - 1 = nI (n - 1) from pk_sub (b := 1) (by omega)]
      exact e
    · have hne : o ≠ r := fun z => c (by rw [z]; exact hle)
      have hot : otN f r (o + 1) = otN f r o := by
        conv => lhs; unfold otN
        rw [if_neg (by omega), if_neg c]
      obtain ⟨S2, e, F3⟩ := ih g (by omega) (by omega) (by omega)
      refine ⟨S2, ?_, by rw [hot]; exact F3⟩
      unfold m_X8_nextOrder_57
      rw [g80, bsome, ix10, rS (by omega), bsome, bsome, ix10, rS (by omega), bsome, F.1 _ ho2, F.1 r (by omega), ite_le (by omega) (by omega), if_neg c, pk_m1]
      exact e
theorem nx9 (hn : n ≤ 6) (hn1 : 1 ≤ n) {S : Nat → Int32} {f : Nat → Nat} (hf6 : ∀ i, i < n → f i < 6) (h1 : S0 1 = nI n) (F : frO S0 S n f) : ∀ (r g : Nat), r < n → r < g → (rsN f r = none ∧ m_X8_nextOrder_9 g 0 (nI r - 1) (mh S Le As Oo M) = some (0, mh S Le As Oo M)) ∨ ∃ q S2, rsN f r = some q ∧ m_X8_nextOrder_9 g 0 (nI r - 1) (mh S Le As Oo M) = some (1, mh S2 Le As Oo M) ∧ frO S0 S2 n (rvN 6 (q + 1) (n - 1) (sw2 f q (otN f q (n - 1)))) := by
  intro r
  induction r with
  | zero =>
    intro g hr hg
    obtain ⟨g, rfl⟩ := fuel_s hg
    refine Or.inl ⟨rfl, ?_⟩
    unfold m_X8_nextOrder_9 m_X8_nextOrder_42
    rw [if_pos (show nI 0 - 1 < (0 : Int32) by decide), if_neg (by decide)]
  | succ r ih =>
    intro g hr hg
    obtain ⟨g, rfl⟩ := fuel_s hg
    have m1 := hf6 r (by omega)
    have m2 := hf6 (r + 1) hr
    by_cases c : f r ≤ f (r + 1)
    · obtain ⟨S2, e, F2⟩ := nx57 (Le := Le) (As := As) (Oo := Oo) (M := M) hn hr hf6 c h1 F (n - 1) 1000 (by omega) (by omega) (by omega)
      refine Or.inr ⟨r, S2, by unfold rsN; rw [if_pos c], ?_, F2⟩
      unfold m_X8_nextOrder_9 m_X8_nextOrder_42
      rw [nI_pred, if_neg (nI_pos (by omega)), g80, bsome, ix10, rS (by omega), bsome, bsome, nI_1, rS (by omega), bsome, F.1 r (by omega), show 10 + r + 1 = 10 + (r + 1) by omega, F.1 (r + 1) hr, ite_le (by omega) (by omega), if_pos c, if_pos (nI_pos' (by omega)), bsome, rS1, bsome, F.2 1 (by omega), h1, show nI n - 1 = nI (n - 1) from pk_sub (b := 1) (by omega)]
      exact e
    · have key0 : m_X8_nextOrder_9 (g + 1) 0 (nI (r + 1) - 1) (mh S Le As Oo M) = m_X8_nextOrder_9 g 0 (nI r - 1) (mh S Le As Oo M) := by
        conv => lhs; unfold m_X8_nextOrder_9
        rw [nI_pred, if_neg (nI_pos (by omega)), g80, bsome, ix10, rS (by omega), bsome, bsome, nI_1, rS (by omega), bsome, F.1 r (by omega), show 10 + r + 1 = 10 + (r + 1) by omega, F.1 (r + 1) hr, ite_le (by omega) (by omega), if_neg c, show nI r + (-1) = nI r - 1 from (Int32.sub_eq_add_neg _ _).symm]
      have hrs : rsN f (r + 1) = rsN f r := by
        conv => lhs; unfold rsN
        rw [if_neg c]
      rw [key0, hrs]
      exact ih g (by omega) (by omega)
theorem next_ok (hn : n ≤ 6) {S : Nat → Int32} {f : Nat → Nat} (hf6 : ∀ i, i < n → f i < 6) (h1 : S0 1 = nI n) (F : frO S0 S n f) : (nxt n f = none ∧ m_X8_nextOrder 0 (mh S Le As Oo M) = some (0, mh S Le As Oo M)) ∨ ∃ g S2, nxt n f = some g ∧ m_X8_nextOrder 0 (mh S Le As Oo M) = some (1, mh S2 Le As Oo M) ∧ frO S0 S2 n g := by
  unfold m_X8_nextOrder nxt
  rw [g80, bsome, rS1, bsome, F.2 1 (by omega), h1]
  by_cases hn1 : 1 ≤ n
  · rw [show nI n - 2 = nI (n - 1) - 1 from by
      rw [show nI (n - 1) = nI n - 1 from (pk_sub (b := 1) (by omega)).symm, show (2 : Int32) = 1 + 1 from by decide, Int32.sub_eq_add_neg, Int32.sub_eq_add_neg, Int32.sub_eq_add_neg, Int32.add_assoc]
      congr 1]
    rcases nx9 (Le := Le) (As := As) (Oo := Oo) (M := M) hn hn1 hf6 h1 F (n - 1) 1000 (by omega) (by omega) with ⟨e1, e2⟩ | ⟨q, S2, e1, e2, e3⟩
    · rw [e1]
      exact Or.inl ⟨rfl, e2⟩
    · rw [e1]
      exact Or.inr ⟨_, S2, rfl, e2, e3⟩
  · obtain rfl : n = 0 := by omega
    refine Or.inl ⟨rfl, ?_⟩
    unfold m_X8_nextOrder_9 m_X8_nextOrder_42
    rw [if_pos (by decide), if_neg (by decide)]
end ODM
