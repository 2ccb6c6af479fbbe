/-! ways, ease -/
theorem whoN_pc {sv : Nat → Nat} {k0 : Nat} (hs : ∀ i, i < k0 → sv i < 6) (hi : ∀ a b, a < k0 → b < k0 → sv a = sv b → a = b) : ∀ (t j w : Nat), j + t = k0 → w < 64 → (∀ i, j ≤ i → i < k0 → w.testBit (sv i) = false) → pc6 (whoN sv j t w) = pc6 w + t := by
  intro t
  induction t with
  | zero => intro j w _ hw _; rfl
  | succ t ih =>
    intro j w hj hw h
    show pc6 (whoN sv (j + 1) t (w ||| 2 ^ sv j)) = pc6 w + (t + 1)
    rw [ih (j + 1) (w ||| 2 ^ sv j) (by omega) (or_lt64 hw (hs j (by omega))) (fun i h1 h2 => by
      rw [Nat.testBit_or, h i (by omega) h2, Nat.testBit_two_pow_of_ne (fun e => by
        have := hi j i (by omega) h2 e
        omega)]
      rfl), pc6_add w hw _ (hs j (by omega)) (h j (Nat.le_refl _) (by omega))]
    omega
theorem whoN_cnt {sv : Nat → Nat} {k0 : Nat} (hs : ∀ i, i < k0 → sv i < 6) (hi : ∀ a b, a < k0 → b < k0 → sv a = sv b → a = b) : pc6 (whoN sv 0 k0 0) = k0 := by
  rw [whoN_pc hs hi k0 0 0 (by omega) (by decide) (fun i _ _ => Nat.zero_testBit _)]
  show 0 + k0 = k0
  omega
theorem srt_len : ∀ w, w < 64 → (srt w).length = pc6 w := by decide +kernel
set_option maxRecDepth 100000 in
theorem sub_eq : ∀ a, a < 64 → ∀ w, w < 64 → a &&& w = a → pc6 a = pc6 w → a = w := by decide +kernel
theorem who_has {sv : Nat → Nat} {k0 q : Nat} : (whoN sv 0 k0 0).testBit q = true ↔ ∃ i, i < k0 ∧ sv i = q := by
  rw [whoN_bit, Nat.zero_testBit, Bool.false_or, anyN_iff]
  constructor
  · rintro ⟨i, -, h1, h2⟩
    exact ⟨i, by omega, beq_iff_eq.mp h2⟩
  · rintro ⟨i, h1, h2⟩
    exact ⟨i, Nat.zero_le _, by omega, beq_iff_eq.mpr h2⟩
theorem ndL_inj : ∀ (l : List Nat), ndL l = true → ∀ a b, a < l.length → b < l.length → l.getD a 0 = l.getD b 0 → a = b := by
  intro l
  induction l with
  | nil => intro _ a b h; simp at h
  | cons c l ih =>
    intro h a b ha hb e
    unfold ndL at h
    rw [Bool.and_eq_true, Bool.not_eq_true', List.elem_eq_mem, decide_eq_false_iff_not] at h
    cases a with
    | zero =>
      cases b with
      | zero => rfl
      | succ b =>
        exfalso
        apply h.1
        have hb' : b < l.length := by simpa using hb
        have : c = l.getD b 0 := by simpa using e
        rw [this]
        exact getD_mem hb'
    | succ a =>
      have ha' : a < l.length := by simpa using ha
      cases b with
      | zero =>
        exfalso
        apply h.1
        have : l.getD a 0 = c := by simpa using e
        rw [← this]
        exact getD_mem ha'
      | succ b =>
        have hb' : b < l.length := by simpa using hb
        have : l.getD a 0 = l.getD b 0 := by simpa using e
        rw [ih h.2 a b ha' hb' this]
/-- an order of those on the bench is a bench like it -/
theorem ord_ok {n k0 y : Nat} {lv sv f : Nat → Nat} {d : Int32} (wB : Wb n (lv, sv, k0, y, d)) (hl : okL (whoN sv 0 k0 0) k0 (rpr k0 f) = true) : Wb n (lv, f, k0, y, d) := by
  obtain ⟨⟨q1, q2, q3, q4⟩, w1, w2, w3, w4⟩ := wB
  dsimp only at q1 q2 q3 q4 w1 w2 w3 w4
  unfold okL at hl
  rw [Bool.and_eq_true, Bool.and_eq_true, List.all_eq_true] at hl
  obtain ⟨-, h1, h2⟩ := hl
  have hb : ∀ i, i < k0 → ∃ a, a < k0 ∧ sv a = f i := fun i hi => by
    have := h1 (f i) (by rw [← rpr_at (f := f) hi]; exact getD_mem (by rw [rpr_len]; exact hi))
    exact who_has.mp this
  have hf6 : ∀ i, i < k0 → f i < 6 := fun i hi => by
    obtain ⟨a, ha, e⟩ := hb i hi
    rw [← e]
    exact q3 a ha
  have hinj : ∀ a b, a < k0 → b < k0 → f a = f b → a = b := fun a b ha hb e => by
    refine ndL_inj _ h2 a b (by rw [rpr_len]; exact ha) (by rw [rpr_len]; exact hb) ?_
    rw [rpr_at ha, rpr_at hb]
    exact e
  have hw : whoN f 0 k0 0 = whoN sv 0 k0 0 := by
    refine sub_eq _ (sp_who_ok hf6).2 _ (sp_who_ok q3).2 ?_ ?_
    · apply Nat.eq_of_testBit_eq
      intro q
      rw [Nat.testBit_and]
      cases e : (whoN f 0 k0 0).testBit q with
      | false => rfl
      | true =>
        obtain ⟨i, hi, rfl⟩ := who_has.mp e
        rw [who_has.mpr (hb i hi)]
        rfl
    · rw [whoN_cnt hf6 hinj, whoN_cnt q3 w3]
  refine ⟨⟨q1, q2, hf6, q4⟩, w1, fun i hi => ?_, hinj, fun m hm => ?_⟩
  · obtain ⟨a, ha, e⟩ := hb i hi
    show f i < n
    rw [← e]
    exact w2 a ha
  · refine (w4 m hm).trans ?_
    rw [← who_has, ← who_has, hw]
section FO
variable {S Le As Oo : Nat → Int32} {M : Mx}
theorem Mb_ord {S2 : Nat → Int32} {n k0 y : Nat} {lv sv f : Nat → Nat} {d : Int32} (hn : n ≤ 6) (m : Mb S n (lv, sv, k0, y, d)) (F : frO S S2 k0 f) : Mb S2 n (lv, f, k0, y, d) := by
  obtain ⟨b1, b2, b3, b4, b5⟩ := m
  refine ⟨?_, ?_, ?_, fun m hm => ?_, fun j hj => F.1 j hj⟩
  · rw [F.2 1 (by omega)]; exact b1
  · rw [F.2 2 (by omega)]; exact b2
  · rw [F.2 3 (by omega)]; exact b3
  · rw [F.2 _ (by omega)]; exact b4 m hm
theorem Mr_ord {S2 : Nat → Int32} {R : Rl} {k0 : Nat} {f : Nat → Nat} (m : Mr S R) (F : frO S S2 k0 f) : Mr S2 R := by
  obtain ⟨a1, a2, a3⟩ := m
  refine ⟨?_, fun m hm => ?_, fun m hm t ht => ?_⟩
  · rw [F.2 0 (by omega)]; exact a1
  · rw [F.2 _ (by omega)]; exact a2 m hm
  · rw [F.2 _ (by omega)]; exact a3 m hm t ht
theorem first_loop {w : Nat} (hw : w < 64) : ∀ (t j f c : Nat) (S2 : Nat → Int32), j + t = 6 → t < f → c = ((List.range j).filter (fun q => w.testBit q)).length → (∀ i, i < c → S2 (10 + i) = nI (((List.range j).filter (fun q => w.testBit q)).getD i 0)) → (∀ i, i < 10 ∨ 16 ≤ i → S2 i = S i) → ∃ S3, m_X8_firstOrder_9 f 0 (nI w) (nI c) (nI j) (mh S2 Le As Oo M) = some (mh S3 Le As Oo M) ∧ (∀ i, i < (srt w).length → S3 (10 + i) = nI ((srt w).getD i 0)) ∧ (∀ i, i < 10 ∨ 16 ≤ i → S3 i = S i) := by
  intro t
  induction t with
  | zero =>
    intro j f c S2 hj hf hc hm hk
    obtain ⟨g, rfl⟩ := fuel_s hf
    obtain rfl : j = 6 := by omega
    refine ⟨S2, ?_, fun i hi => hm i (by rw [hc]; exact hi), hk⟩
    unfold m_X8_firstOrder_9
    rw [if_pos (by decide)]
  | succ t ih =>
    intro j f c S2 hj hf hc hm hk
    obtain ⟨g, rfl⟩ := fuel_s hf
    have hcj : c ≤ j := by
      rw [hc]
      have := List.length_filter_le (fun q => w.testBit q) (List.range j)
      rw [List.length_range] at this
      exact this
    have hs : (List.range (j + 1)).filter (fun q => w.testBit q) = (List.range j).filter (fun q => w.testBit q) ++ (if w.testBit j then [j] else []) := by
      rw [List.range_succ, List.filter_append]
      congr 1
      cases e : w.testBit j <;> simp [e]
    have key0 : m_X8_firstOrder_9 (g + 1) 0 (nI w) (nI c) (nI j) (mh S2 Le As Oo M) = if w.testBit j then m_X8_firstOrder_9 g 0 (nI w) (nI (c + 1)) (nI (j + 1)) (mh (updN S2 (10 + c) (nI j)) Le As Oo M) else m_X8_firstOrder_9 g 0 (nI w) (nI c) (nI (j + 1)) (mh S2 Le As Oo M) := by
      conv => lhs; unfold m_X8_firstOrder_9
      unfold m_X8_firstOrder_36
      rw [if_neg (show ¬ (6 : Int32) ≤ nI j from Lge 6 (by omega) (by decide)), has_ok, bsome]
      dsimp only
      rw [bit_ite hw (by omega), g80, bsome, ix10, wS (by omega), bsome, nI_1, nI_1]
    rw [key0]
    cases e : w.testBit j with
    | true =>
      rw [e, if_pos rfl] at hs
      rw [if_pos rfl]
      refine ih (j + 1) g (c + 1) _ (by omega) (by omega) (by rw [hs, List.length_append, ← hc]; rfl) (fun i hi => ?_) (fun i hi => by rw [updN_n (by omega)]; exact hk i hi)
      rw [hs]
      by_cases z : i = c
      · rw [z, updN_s, List.getD_eq_getElem?_getD, List.getElem?_append_right (by omega), ← hc, Nat.sub_self]
        rfl
      · rw [updN_n (by omega), hm i (by omega), List.getD_eq_getElem?_getD, List.getD_eq_getElem?_getD, List.getElem?_append_left (by omega)]
    | false =>
      rw [e, if_neg (by decide), List.append_nil] at hs
      rw [if_neg (by decide)]
      exact ih (j + 1) g c S2 (by omega) (by omega) (by rw [hs]; exact hc) (fun i hi => by rw [hs]; exact hm i hi) hk
theorem first_ok {n : Nat} {B : Bn} (mB : Mb S n B) (hB : okB B) {f : Nat → Nat} (hlen : (srt (whoN B.2.1 0 B.2.2.1 0)).length = B.2.2.1) (hf : ∀ i, i < B.2.2.1 → f i = (srt (whoN B.2.1 0 B.2.2.1 0)).getD i 0) : ∃ S2, m_X8_firstOrder 0 (mh S Le As Oo M) = some (mh S2 Le As Oo M) ∧ frO S S2 B.2.2.1 f := by
  obtain ⟨e1, e2⟩ := sp_who_ok hB.2.2.1
  obtain ⟨S3, e, h1, h2⟩ := first_loop (S := S) (Le := Le) (As := As) (Oo := Oo) (M := M) e2 6 0 1000 0 S rfl (by decide) rfl (fun i hi => by omega) (fun i _ => rfl)
  refine ⟨S3, ?_, fun i hi => ?_, h2⟩
  · unfold m_X8_firstOrder
    rw [g8r, bench_ok mB hB.1, bsome, e1]
    exact e
  · rw [h1 i (by rw [hlen]; exact hi), hf i hi]
end FO
/-- wrong pairs of an order -/
def wL (n : Nat) (pl : Nat → Nat → Nat) (l : List Nat) : Nat := wrP (tog n pl) (fun i => l.getD i 0) 1 (l.length - 1) 0
theorem wL_eq {n k0 : Nat} {pl : Nat → Nat → Nat} {f : Nat → Nat} : wrP (tog n pl) f 1 (k0 - 1) 0 = wL n pl (rpr k0 f) := by
  unfold wL
  rw [rpr_len]
  exact wrP_cong _ _ _ (fun i h1 h2 => by rw [rpr_at (by omega), rpr_at (by omega)])
theorem wL_le {n k0 : Nat} {pl : Nat → Nat → Nat} {f : Nat → Nat} : wL n pl (rpr k0 f) ≤ k0 - 1 := by
  rw [← wL_eq]
  have := wrP_le (tog n pl) f (k0 - 1) 1 0
  omega
theorem itr_s {t : Nat} {l : List Nat} {ls : List (List Nat)} (h : itr t l = some ls) : ∃ t2, t = t2 + 1 ∧ ((nxtL l = none ∧ ls = [l]) ∨ ∃ l2 ls2, nxtL l = some l2 ∧ itr t2 l2 = some ls2 ∧ ls = l :: ls2) := by
  cases t with
  | zero => cases h
  | succ t =>
    refine ⟨t, rfl, ?_⟩
    unfold itr at h
    cases e : nxtL l with
    | none =>
      rw [e] at h
      cases h
      exact Or.inl ⟨rfl, rfl⟩
    | some l2 =>
      rw [e] at h
      dsimp only at h
      cases e2 : itr t l2 with
      | none => rw [e2] at h; cases h
      | some ls2 =>
        rw [e2] at h
        cases h
        exact Or.inr ⟨l2, ls2, rfl, e2, rfl⟩
section WY
variable {R : Rl} {lv sv : Nat → Nat} {k0 y : Nat} {d : Int32} {L : Lg} {k : St} {kf : Int32} {T : Tp} {X : Nat → Sh} {tr : Bn} {gu : Rl} {bst ch : Nat → Nat} {S Le As Oo : Nat → Int32} {M : Mx}
theorem ways_loop (hS : stR S (R, (lv, sv, k0, y, d), L)) : ∀ (t : Nat) (ls : List (List Nat)) (f : Nat → Nat) (S2 : Nat → Int32) (c o fu g : Nat), itr t (rpr k0 f) = some ls → (∀ l, l ∈ ls → okL (whoN sv 0 k0 0) k0 l = true) → frO S S2 k0 f → o + t = 720 → t < fu → t < g → ∃ (r : Int32) (f2 : Nat → Nat), m_X7_ways_18 fu 0 (nI c) (nI o) (chp (R, (lv, sv, k0, y, d), L) k kf T X tr gu (f, bst, k0) ch) = some (r, chp (R, (lv, sv, k0, y, d), L) k kf T X tr gu (f2, bst, k0) ch) ∧ m_X8_ways_12 g 0 (nI c) 1 (mh S2 Le (cpI S As 40) Oo M) = some (r, mh S Le (cpI S As 40) Oo M) := by
  have wR := hS.2.2.1
  have wB := hS.2.2.2.1
  have o1 : R.1 ≤ 6 := wR.1.1
  have k6 : k0 ≤ 6 := wB.1.1
  intro t
  induction t with
  | zero => intro ls f S2 c o fu g h; cases h
  | succ t ih =>
    intro ls f S2 c o fu g hi hok F ho hfu hg
    obtain ⟨fu, rfl⟩ := fuel_s hfu
    obtain ⟨g, rfl⟩ := fuel_s hg
    obtain ⟨t2, e0, hcase⟩ := itr_s hi
    obtain rfl : t2 = t := by omega
    have hl : okL (whoN sv 0 k0 0) k0 (rpr k0 f) = true := by
      rcases hcase with ⟨-, rfl⟩ | ⟨l2, ls2, -, -, rfl⟩
      · exact hok _ (List.mem_singleton.mpr rfl)
      · exact hok _ List.mem_cons_self
    have wf := ord_ok wB hl
    have mf := Mb_ord o1 hS.2.1 F
    have rf := Mr_ord hS.1 F
    have f6 : ∀ i, i < k0 → f i < 6 := wf.1.2.2.1
    have AR := cR2 (s := (R, (lv, sv, k0, y, d), L)) (k := k) (kf := kf) (T := T) (X := X) (tr := tr) (gu := gu) (O := (f, bst, k0)) (ch := ch)
    have eW := wrong_ok (k0 := k0) AR (aom (s := (R, (lv, sv, k0, y, d), L)) (k := k) (kf := kf) (T := T) (X := X) (tr := tr) (gu := gu) (O := (f, bst, k0)) (ch := ch)) k6 wR.1.2.2.2 f6
    rw [wr_eq (sv := f) wR wf.2.2.1 wf.2.2.2.1] at eW
    have eM := wrong8_ok (Le := Le) (As := cpI S As 40) (Oo := Oo) (M := M) rf mf wR k6 wf.2.2.1
    have hadv := adv_ok (s := (R, (lv, sv, k0, y, d), L)) (k := k) (kf := kf) (T := T) (X := X) (tr := tr) (gu := gu) (bst := bst) (ch := ch) (n := k0) (m := f) k6 f6
    have hnx := next_ok (Le := Le) (As := cpI S As 40) (Oo := Oo) (M := M) k6 f6 (show S 1 = nI k0 from hS.2.1.1) F
    have hwl := wL_le (n := R.1) (pl := R.2.2.1) (k0 := k0) (f := f)
    rw [← wL_eq] at hwl
    have hcX : ∀ z : Unit, m_X7_ways_18 (fu + 1) 0 (nI c) (nI o) (chp (R, (lv, sv, k0, y, d), L) k kf T X tr gu (f, bst, k0) ch) = m_X7_ways_55 (m_X7_ways_18 fu) 0 (nI (c + if wrP (tog R.1 R.2.2.1) f 1 (k0 - 1) 0 = 0 then 1 else 0)) (nI o) (chp (R, (lv, sv, k0, y, d), L) k kf T X tr gu (f, bst, k0) ch) := fun _ => by
      conv => lhs; unfold m_X7_ways_18
      rw [if_neg (show ¬ (720 : Int32) ≤ nI o from Lge 720 (by omega) (by decide)), c70, bsome, c10, bsome, c77, bsome, co0, bsome, bsome, co2, bsome, AR.rcv, show m_X3_wrongPairs 2 97 (nI k0) (chp (R, (lv, sv, k0, y, d), L) k kf T X tr gu (f, bst, k0) ch) = _ from eW, bsome]
      dsimp only
      rw [show (0 : Int32) = nI 0 from rfl, ite_e (by omega) (by decide), nI_1]
      split <;> rfl
    have hcM : ∀ z : Unit, m_X8_ways_12 (g + 1) 0 (nI c) 1 (mh S2 Le (cpI S As 40) Oo M) = m_X8_ways_29 (m_X8_ways_12 g) 0 (nI c) (nI (if wrP (tog R.1 R.2.2.1) f 1 (k0 - 1) 0 = 0 then 1 else 0)) (mh S2 Le (cpI S As 40) Oo M) := fun _ => by
      conv => lhs; unfold m_X8_ways_12
      rw [if_neg one_ne, g8r, eM, bsome]
      dsimp only
      rw [show (0 : Int32) = nI 0 from rfl, ite_e (by omega) (by decide)]
      split <;> rfl
    rw [hcX (), hcM ()]
    unfold m_X7_ways_55 m_X8_ways_29
    rw [c77, bsome, cor, hadv, g8r]
    rcases hcase with ⟨hn, rfl⟩ | ⟨l2, ls2, hn, hi2, rfl⟩
    · rw [nxtL_ok] at hn
      rcases hnx with ⟨h1, h2⟩ | ⟨gg, S3, h1, -⟩
      · rw [h1, h2, bsome]
        refine ⟨nI (c + if wrP (tog R.1 R.2.2.1) f 1 (k0 - 1) 0 = 0 then 1 else 0), f, ?_, ?_⟩
        · rfl
        · obtain ⟨g, rfl⟩ := fuel_s (show 0 < g by omega)
          rw [bsome, nI_add]
          unfold m_X8_ways_12
          rw [if_pos rfl, g8r, lets_ok (fun i hi => F.2 i (by omega)), bsome]
      · rw [h1] at hn
        cases hn
    · rw [nxtL_ok] at hn
      rcases hnx with ⟨h1, -⟩ | ⟨gg, S3, h1, h2, F3⟩
      · rw [h1] at hn
        cases hn
      · rw [h1] at hn
        have hl2 : rpr k0 gg = l2 := Option.some.inj hn
        rw [h1, h2, bsome]
        dsimp only
        rw [bsome, if_neg one_ne, nI_1, nI_add]
        exact ih ls2 gg S3 _ (o + 1) fu g (by rw [hl2]; exact hi2) (fun l hl => hok l (List.mem_cons_of_mem _ hl)) F3 (by omega) (by omega) (by omega)
end WY
theorem sim_ways_ok : sim_ways RR := by
  intro hX hM h0
  obtain ⟨s, k, kf, T, X, tr, gu, O, ch, S, Le, As, Oo, M, rfl, rfl, hS, hD⟩ := h0
  obtain ⟨m2, e1, h2⟩ := start_ok (s := s) (k := k) (kf := kf) (T := T) (X := X) (tr := tr) (gu := gu) (O := O) (ch := ch) hS.2.2.2.1.1
  obtain ⟨R, ⟨lv, sv, k0, y, d⟩, L⟩ := s
  have wB := hS.2.2.2.1
  have hw : whoN sv 0 k0 0 < 64 := (sp_who_ok wB.1.2.2.1).2
  have hlen : (srt (whoN sv 0 k0 0)).length = k0 := by rw [srt_len _ hw, whoN_cnt wB.1.2.2.1 wB.2.2.2.1]
  dsimp only at e1 h2
  rw [hlen] at e1 h2
  obtain ⟨ls, q1, q2, q3, q4⟩ := chk_w hw
  rw [hlen] at q2
  have hr : rpr k0 m2 = srt (whoN sv 0 k0 0) := by
    rw [rpr_cong h2]
    apply List.ext_getElem?
    intro i
    by_cases hi : i < k0
    · rw [List.getElem?_eq_getElem (by rw [rpr_len]; exact hi), List.getElem?_eq_getElem (by rw [hlen]; exact hi)]
      congr 1
      have := rpr_at (n := k0) (f := fun i => (srt (whoN sv 0 k0 0)).getD i 0) hi
      rw [List.getD_eq_getElem?_getD, List.getElem?_eq_getElem (by rw [rpr_len]; exact hi), List.getD_eq_getElem?_getD, List.getElem?_eq_getElem (by rw [hlen]; exact hi)] at this
      exact this
    · rw [List.getElem?_eq_none (by rw [rpr_len]; omega), List.getElem?_eq_none (by rw [hlen]; omega)]
  obtain ⟨S2, f1, F⟩ := first_ok (Le := Le) (As := cpI S As 40) (Oo := Oo) (M := M) hS.2.1 wB.1 hlen h2
  obtain ⟨r, f2, g1, g2⟩ := ways_loop (k := k) (kf := kf) (T := T) (X := X) (tr := tr) (gu := gu) (bst := m2) (ch := ch) (Le := Le) (As := As) (Oo := Oo) (M := M) hS 720 ls m2 S2 0 0 1000 1000 (by rw [hr]; exact q1) q2 F rfl (by decide) (by decide)
  refine ⟨r, chp (R, (lv, sv, k0, y, d), L) k kf T X tr gu (f2, m2, k0) ch, mh S Le (cpI S As 40) Oo M, ?_, ?_, RR_mk hS hD⟩
  · unfold m_X7_ways
    rw [c77, bsome, c70, bsome, c11, bsome, cor, e1, bsome]
    exact g1
  · unfold m_X8_ways
    rw [g8r, holds8_ok, bsome, g8r, f1, bsome]
    exact g2
