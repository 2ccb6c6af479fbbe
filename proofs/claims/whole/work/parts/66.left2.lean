/-! left: the loops -/
def encM : Option (Nat × Nat) → Int32
  | none => -1
  | some a => nI a.1
def encL : Option (Nat × Nat) → Int32
  | none => -1
  | some a => nI a.2
/-- an order's fare, as a row of numbers -/
def oL (R : Rl) (lv : Nat → Nat) (k0 y : Nat) (d : Int32) (t : Nat) (l : List Nat) : Nat × Nat := ouB R.2.1 R.2.2.2 t R.1 (lv, fun i => l.getD i 0, k0, y, d)
section LX
variable {R : Rl} {lv sv : Nat → Nat} {k0 y : Nat} {d : Int32} {L : Lg} {k : St} {kf : Int32} {T : Tp} {X : Nat → Sh} {gu : Rl} {ch : Nat → Nat} {S As : Nat → Int32} {M : Mx}
theorem oL_eq {f g : Nat → Nat} {t : Nat} (hg : ∀ i, i < k0 → g i = f i) (W : Wb R.1 (lv, f, k0, y, d)) (hy : y + t < 100000) : ouB R.2.1 R.2.2.2 t R.1 (lv, g, k0, y, d) = oL R lv k0 y d t (rpr k0 f) := by
  have W1 : ∀ h : Nat → Nat, (∀ i, i < k0 → h i = f i) → Wb R.1 (lv, h, k0, y, d) := fun h hh => by
    obtain ⟨⟨q1, q2, q3, q4⟩, w1, w2, w3, w4⟩ := W
    refine ⟨⟨q1, q2, fun i hi => ?_, q4⟩, w1, fun i hi => ?_, fun a b ha hb e => ?_, fun m hm => ?_⟩
    · show h i < 6
      rw [hh i hi]; exact q3 i hi
    · show h i < R.1
      rw [hh i hi]; exact w2 i hi
    · have e2 : h a = h b := e
      rw [hh a ha, hh b hb] at e2
      exact w3 a b ha hb e2
    · refine (w4 m hm).trans ⟨?_, ?_⟩
      · rintro ⟨i, hi, e⟩
        exact ⟨i, hi, (hh i hi).trans e⟩
      · rintro ⟨i, hi, e⟩
        exact ⟨i, hi, (hh i hi).symm.trans e⟩
  unfold oL
  exact ouB_rq (b := false) ⟨rfl, rfl, fun i hi => by
    show g i = (rpr k0 f).getD i 0
    rw [rpr_at hi, hg i hi]⟩ (W1 _ (fun i hi => rpr_at hi)) (W1 g hg) hy
theorem Wb_cpy {f : Nat → Nat} (W : Wb R.1 (lv, f, k0, y, d)) : Wb R.1 (lv, cpyN f sv k0, k0, y, d) := by
  have hh : ∀ i, i < k0 → cpyN f sv k0 i = f i := fun i hi => if_pos hi
  obtain ⟨⟨q1, q2, q3, q4⟩, w1, w2, w3, w4⟩ := W
  refine ⟨⟨q1, q2, fun i hi => ?_, q4⟩, w1, fun i hi => ?_, fun a b ha hb e => ?_, fun m hm => ?_⟩
  · show cpyN f sv k0 i < 6
    rw [hh i hi]; exact q3 i hi
  · show cpyN f sv k0 i < R.1
    rw [hh i hi]; exact w2 i hi
  · have e2 : cpyN f sv k0 a = cpyN f sv k0 b := e
    rw [hh a ha, hh b hb] at e2
    exact w3 a b ha hb e2
  · refine (w4 m hm).trans ⟨?_, ?_⟩
    · rintro ⟨i, hi, e⟩
      exact ⟨i, hi, (hh i hi).trans e⟩
    · rintro ⟨i, hi, e⟩
      exact ⟨i, hi, (hh i hi).symm.trans e⟩
/-- the class foretells for a row -/
theorem foreFor_ok (wR : Wr R) (wB : Wb R.1 (lv, sv, k0, y, d)) {tr : Bn} {O : Od} {a t : Nat} {f : Nat → Nat} (ha : a = 97 ∨ a = 98) (V : ∀ tr2, (chp (R, (lv, sv, k0, y, d), L) k kf T X tr2 gu O ch)[a]? = some (.inl .int, fnI 6 (nF f))) (W : Wb R.1 (lv, f, k0, y, d)) (ht : t ≤ 60) (hy : y ≤ 9999) : m_X7_foretellFor 0 a (nI t) (chp (R, (lv, sv, k0, y, d), L) k kf T X tr gu O ch) = some (chp (R, (lv, sv, k0, y, d), L) k kf T X (yrs R.2.1 R.2.2.2 t (lv, cpyN f sv k0, k0, y, d)) gu O ch) := by
  have k6 : k0 ≤ 6 := wB.1.1
  unfold m_X7_foretellFor
  rw [c75, bsome, c70, bsome, c11, bsome, (cB86).rcv, takeFrom_ok (by omega) cB9 cB86, bsome, sB86, c75, bsome, (cB86).rcv, seatAs_ok (by omega) k6 cB86 (V _), bsome, sB86, c75, bsome, c70, bsome, c10, bsome, (cB86).rcv, yrs_ok (by omega) wR.1 (Wb_cpy W).1 (by omega) (by show y + t < 100000; omega) cB86 cR2, bsome, sB86]
theorem turned_ok {s : St} {tr : Bn} {f b : Nat → Nat} (k6 : k0 ≤ 6) (f6 : ∀ i, i < k0 → f i < 6) : m_X2_isTurnedRound 96 (chp s k kf T X tr gu (f, b, k0) ch) = some (bI (trd (rpr k0 f)), chp s k kf T X tr gu (f, b, k0) ch) := by
  unfold m_X2_isTurnedRound m_X2_isTurnedRound_32 m_X2_isTurnedRound_33 trd
  rw [co2T, bsome, rpr_len]
  by_cases q : k0 ≤ 1
  · rw [if_pos (show nI k0 ≤ (1 : Int32) from nI_le (b := 1) q (by decide)), decide_eq_false (by omega)]
    rfl
  · have a1 := f6 0 (by omega)
    have a2 := f6 (k0 - 1) (by omega)
    rw [if_neg (show ¬ nI k0 ≤ (1 : Int32) from nI_ge (a := 1) (by omega) (by omega)), co0, bsome, show (0 : Int32) = nI 0 from rfl, romT (by decide), bsome, bsome, bsome, show nI k0 - 1 = nI (k0 - 1) from pk_sub (b := 1) (by omega), romT (by omega), bsome, ite_le (by omega) (by omega), decide_eq_true (show 1 < k0 by omega), rpr_at (show 0 < k0 by omega), rpr_at (show k0 - 1 < k0 by omega)]
    by_cases z : f 0 ≤ f (k0 - 1)
    · rw [if_pos z, decide_eq_false (by omega)]
      rfl
    · rw [if_neg z, decide_eq_true (by omega)]
      rfl
theorem bet_enc {o : Nat × Nat} {oa : Option (Nat × Nat)} {α : Type} (h1 : o.1 < 1000) (h2 : o.2 < 1000) (h3 : ∀ a, oa = some a → a.1 < 1000 ∧ a.2 < 1000) (x z : α) : (if encM oa < nI o.1 then x else if nI o.1 = encM oa then (if nI o.2 ≤ encL oa then z else x) else z) = if bet o oa then x else z := by
  cases oa with
  | none =>
    rw [if_pos (show encM none < nI o.1 from Int32.lt_iff_toInt_lt.mpr (by
      rw [nI_toInt (by omega)]
      show (-1 : Int32).toInt < _
      have : (-1 : Int32).toInt = -1 := by decide
      omega))]
    rfl
  | some a =>
    obtain ⟨g1, g2⟩ := h3 a rfl
    show (if nI a.1 < nI o.1 then x else if nI o.1 = nI a.1 then (if nI o.2 ≤ nI a.2 then z else x) else z) = _
    rw [ite_lt (by omega) (by omega), ite_e (by omega) (by omega), ite_le (by omega) (by omega)]
    by_cases q : a.1 < o.1
    · rw [if_pos q, if_pos (by show (decide (a.1 < o.1) || (decide (o.1 = a.1) && decide (a.2 < o.2))) = true; rw [decide_eq_true q, Bool.true_or])]
    · rw [if_neg q]
      by_cases w : o.1 = a.1
      · rw [if_pos w]
        by_cases v : o.2 ≤ a.2
        · rw [if_pos v, if_neg (by rw [bet_f.mpr (by omega)]; decide)]
        · rw [if_neg v, if_pos (by show (decide (a.1 < o.1) || (decide (o.1 = a.1) && decide (a.2 < o.2))) = true; rw [decide_eq_true w, decide_eq_true (show a.2 < o.2 by omega), Bool.true_and, Bool.or_true])]
      · rw [if_neg w, if_neg (by rw [bet_f.mpr (by omega)]; decide)]
theorem lsum_lt {f : Nat → Nat} : ∀ (t j : Nat), (∀ i, j ≤ i → i < j + t → f i < 100) → lsum f j t 0 ≤ 100 * t := by
  intro t
  induction t with
  | zero => intro j _; exact Nat.le_refl _
  | succ t ih =>
    intro j h
    show lsum f (j + 1) t (0 + f j) ≤ _
    rw [lsum_add]
    have a := ih (j + 1) (fun i p q => h i (by omega) (by omega))
    have b := h j (Nat.le_refl _) (by omega)
    omega
theorem ouB_lt {B : Bn} {t : Nat} (o1 : R.1 ≤ 6) (W : Wb R.1 B) (hy : B.2.2.2.1 + t < 100000) : (ouB R.2.1 R.2.2.2 t R.1 B).1 < 1000 ∧ (ouB R.2.1 R.2.2.2 t R.1 B).2 < 1000 := by
  have W2 := Wb_yrs (kd := R.2.1) (sb := R.2.2.2) t B W hy
  have a := W2.1.1
  have b := lsum_lt (f := (yrs R.2.1 R.2.2.2 t B).1) R.1 0 (fun i _ hi => W2.1.2.2.2 i (by omega))
  refine ⟨?_, ?_⟩
  · show (yrs R.2.1 R.2.2.2 t B).2.2.1 < 1000
    omega
  · show lsum (yrs R.2.1 R.2.2.2 t B).1 0 R.1 0 < 1000
    omega
theorem leftX_loop (wR : Wr R) (wB : Wb R.1 (lv, sv, k0, y, d)) {t : Nat} (ht : t ≤ 30) (hy : y ≤ 9999) : ∀ (u : Nat) (ls : List (List Nat)) (f bst : Nat → Nat) (tr : Bn) (oa : Option (Nat × Nat)) (o fu : Nat), itr u (rpr k0 f) = some ls → (∀ l, l ∈ ls → okL (whoN sv 0 k0 0) k0 l = true) → o + u = 720 → u < fu → (∀ a, oa = some a → a.1 < 1000 ∧ a.2 < 1000) → ∃ f2 b2 tr2, m_X7_findMostLeft_21 fu 0 (nI t) (encM oa) (encL oa) (nI o) (chp (R, (lv, sv, k0, y, d), L) k kf T X tr gu (f, bst, k0) ch) = some (chp (R, (lv, sv, k0, y, d), L) k kf T X tr2 gu (f2, b2, k0) ch) ∧ rpr k0 b2 = (cF (oL R lv k0 y d t) ls (oa, rpr k0 bst)).2 := by
  have o1 : R.1 ≤ 6 := wR.1.1
  have k6 : k0 ≤ 6 := wB.1.1
  intro u
  induction u with
  | zero => intro ls f bst tr oa o fu h; cases h
  | succ u ih =>
    intro ls f bst tr oa o fu hi hok ho hfu hoa
    obtain ⟨fu, rfl⟩ := fuel_s hfu
    obtain ⟨t2, e0, hcase⟩ := itr_s hi
    obtain rfl : t2 = u := by omega
    have hl : okL (whoN sv 0 k0 0) k0 (rpr k0 f) = true := by
      rcases hcase with ⟨-, rfl⟩ | ⟨l2, ls2, -, -, rfl⟩
      · exact hok _ (List.mem_singleton.mpr rfl)
      · exact hok _ List.mem_cons_self
    have wf := ord_ok wB hl
    have f6 : ∀ i, i < k0 → f i < 6 := wf.1.2.2.1
    have hoe : ouB R.2.1 R.2.2.2 t R.1 (lv, cpyN f sv k0, k0, y, d) = oL R lv k0 y d t (rpr k0 f) := oL_eq (fun i hi => if_pos hi) wf (by omega)
    obtain ⟨lt1, lt2⟩ := ouB_lt (t := t) o1 (Wb_cpy (sv := sv) wf) (show y + t < 100000 by omega)
    have Wt := Wb_yrs (kd := R.2.1) (sb := R.2.2.2) t _ (Wb_cpy (sv := sv) wf) (show y + t < 100000 by omega)
    -- where to go on
    have h106 : ∀ (oa2 : Option (Nat × Nat)) (b2 : Nat → Nat) (tr2 : Bn), (∀ a, oa2 = some a → a.1 < 1000 ∧ a.2 < 1000) → ∃ f3 b3 tr3, m_X7_findMostLeft_106 (m_X7_findMostLeft_21 fu) 0 (nI t) (encM oa2) (encL oa2) (nI o) (chp (R, (lv, sv, k0, y, d), L) k kf T X tr2 gu (f, b2, k0) ch) = some (chp (R, (lv, sv, k0, y, d), L) k kf T X tr3 gu (f3, b3, k0) ch) ∧ rpr k0 b3 = (cF (oL R lv k0 y d t) ls.tail (oa2, rpr k0 b2)).2 := by
      intro oa2 b2 tr2 hoa2
      have hadv := adv_ok (s := (R, (lv, sv, k0, y, d), L)) (k := k) (kf := kf) (T := T) (X := X) (tr := tr2) (gu := gu) (bst := b2) (ch := ch) (n := k0) (m := f) k6 f6
      unfold m_X7_findMostLeft_106
      rw [c77, bsome, cor, hadv]
      rcases hcase with ⟨hn, rfl⟩ | ⟨l2, ls2, hn, hi2, rfl⟩
      · rw [nxtL_ok] at hn
        cases h1 : nxt k0 f with
        | some gg => rw [h1] at hn; cases hn
        | none => exact ⟨f, b2, tr2, rfl, rfl⟩
      · rw [nxtL_ok] at hn
        cases h1 : nxt k0 f with
        | none => rw [h1] at hn; cases hn
        | some gg =>
          rw [h1] at hn
          have hl2 : rpr k0 gg = l2 := Option.some.inj hn
          dsimp only
          rw [bsome, if_neg one_ne, nI_1]
          exact ih ls2 gg b2 tr2 oa2 (o + 1) fu (by rw [hl2]; exact hi2) (fun l hl => hok l (List.mem_cons_of_mem _ hl)) (by omega) (by omega) hoa2
    have hls : cF (oL R lv k0 y d t) ls (oa, rpr k0 bst) = cF (oL R lv k0 y d t) ls.tail (if trd (rpr k0 f) then (oa, rpr k0 bst) else if bet (oL R lv k0 y d t (rpr k0 f)) oa then (some (oL R lv k0 y d t (rpr k0 f)), rpr k0 f) else (oa, rpr k0 bst)) := by
      rcases hcase with ⟨-, rfl⟩ | ⟨l2, ls2, -, -, rfl⟩ <;> rfl
    rw [hls]
    have hfore := foreFor_ok (L := L) (k := k) (kf := kf) (T := T) (X := X) (gu := gu) (ch := ch) (tr := tr) (O := (f, bst, k0)) (a := 97) (t := t) wR wB (Or.inl rfl) (fun _ => aom) wf (by omega) hy
    have hlv := lives_eq Wt
    obtain ⟨ou, hO⟩ : ∃ ou, oL R lv k0 y d t (rpr k0 f) = ou := ⟨_, rfl⟩
    have hou1 : (yrs R.2.1 R.2.2.2 t (lv, cpyN f sv k0, k0, y, d)).2.2.1 = ou.1 := by rw [← hO, ← hoe]; rfl
    have hou2 : lsum (yrs R.2.1 R.2.2.2 t (lv, cpyN f sv k0, k0, y, d)).1 0 R.1 0 = ou.2 := by rw [← hO, ← hoe]; rfl
    rw [hoe, hO] at lt1 lt2
    rw [hO]
    obtain ⟨Tr, hTr⟩ : ∃ Tr, yrs R.2.1 R.2.2.2 t (lv, cpyN f sv k0, k0, y, d) = Tr := ⟨_, rfl⟩
    rw [hTr] at hfore Wt hou1 hou2 hlv
    rw [hou2] at hlv
    have hlife := lifeOfAll_ok (cB86 (s := (R, (lv, sv, k0, y, d), L)) (k := k) (kf := kf) (T := T) (X := X) (tr := Tr) (gu := gu) (O := (f, bst, k0)) (ch := ch)) Wt.1.1 Wt.1.2.2.1
    have hl2 : m_X0_lifeOfAll 86 (chp (R, (lv, sv, k0, y, d), L) k kf T X Tr gu (f, bst, k0) ch) = some (nI ou.2, chp (R, (lv, sv, k0, y, d), L) k kf T X Tr gu (f, bst, k0) ch) := by
      rw [← hlv]
      exact hlife
    have hg2 : bb_gI (chp (R, (lv, sv, k0, y, d), L) k kf T X Tr gu (f, bst, k0) ch) 86 0 2 = some (nI ou.1) := by
      rw [← hou1]
      exact (cB86).G2
    have h88 : m_X7_findMostLeft_88 (m_X7_findMostLeft_21 fu) 0 (nI t) (nI o) (nI ou.2) (chp (R, (lv, sv, k0, y, d), L) k kf T X Tr gu (f, bst, k0) ch) = m_X7_findMostLeft_106 (m_X7_findMostLeft_21 fu) 0 (nI t) (nI ou.1) (nI ou.2) (nI o) (chp (R, (lv, sv, k0, y, d), L) k kf T X Tr gu (f, f, k0) ch) := by
      unfold m_X7_findMostLeft_88
      rw [c75, bsome, hg2, bsome, c77, bsome, cor, keepBest_ok, bsome]
    have key0 : m_X7_findMostLeft_21 (fu + 1) 0 (nI t) (encM oa) (encL oa) (nI o) (chp (R, (lv, sv, k0, y, d), L) k kf T X tr gu (f, bst, k0) ch) = if trd (rpr k0 f) then m_X7_findMostLeft_106 (m_X7_findMostLeft_21 fu) 0 (nI t) (encM oa) (encL oa) (nI o) (chp (R, (lv, sv, k0, y, d), L) k kf T X tr gu (f, bst, k0) ch) else if bet ou oa then m_X7_findMostLeft_106 (m_X7_findMostLeft_21 fu) 0 (nI t) (nI ou.1) (nI ou.2) (nI o) (chp (R, (lv, sv, k0, y, d), L) k kf T X Tr gu (f, f, k0) ch) else m_X7_findMostLeft_106 (m_X7_findMostLeft_21 fu) 0 (nI t) (encM oa) (encL oa) (nI o) (chp (R, (lv, sv, k0, y, d), L) k kf T X Tr gu (f, bst, k0) ch) := by
      conv => lhs; unfold m_X7_findMostLeft_21
      rw [if_neg (show ¬ (720 : Int32) ≤ nI o from Lge 720 (by omega) (by decide)), c77, bsome, cor, turned_ok k6 f6, bsome]
      dsimp only
      rw [ite_b]
      cases trd (rpr k0 f) with
      | true => rw [if_pos rfl, if_pos rfl]
      | false =>
        rw [if_neg (by decide), if_neg (by decide), c77, bsome, co0, bsome, c7r, hfore, bsome, c75, bsome, (cB86).rcv, hl2, bsome]
        dsimp only
        rw [c75, bsome, hg2, bsome, bsome, hg2, bsome, h88, bet_enc lt1 lt2 hoa]
    rw [key0]
    cases trd (rpr k0 f) with
    | true =>
      rw [if_pos rfl, if_pos rfl]
      exact h106 oa bst tr hoa
    | false =>
      rw [if_neg (show ¬ (false = true) by decide), if_neg (show ¬ (false = true) by decide)]
      by_cases z : bet ou oa = true
      · rw [if_pos z, if_pos z]
        exact h106 (some ou) f Tr (fun a ha => by
          cases ha
          exact ⟨lt1, lt2⟩)
      · rw [if_neg z, if_neg z]
        exact h106 oa bst Tr hoa
end LX
/-! the model's -/
section LM
variable {R : Rl} {lv sv : Nat → Nat} {k0 y : Nat} {d : Int32} {L : Lg} {S As : Nat → Int32} {M : Mx} {k38 : Nat → Int32 → Int32 → Int32 → Int32 → Int32 → Int32 → bb_H → Option (Int32 × bb_H)}
theorem left148_loop {x1 x2 x3 x4 x5 : Int32} {S3 Or2 Le : Nat → Int32} : ∀ (t j f : Nat), j + t = 40 → t < f → m_X8_left_148 k38 f 0 x1 x2 x3 x4 x5 (nI j) (mh (cpI Or2 S3 j) Le As Or2 M) = (m_X8_nextOrder 0 (mh (cpI Or2 S3 40) Le As Or2 M)).bind fun r => k38 0 x1 x2 x3 x4 x5 r.1 r.2 := by
  intro t
  induction t with
  | zero =>
    intro j f hj hf
    obtain ⟨g, rfl⟩ := fuel_s hf
    obtain rfl : j = 40 := by omega
    unfold m_X8_left_148
    rw [if_pos (by decide), g8r]
  | succ t ih =>
    intro j f hj hf
    obtain ⟨g, rfl⟩ := fuel_s hf
    unfold m_X8_left_148
    rw [if_neg (show ¬ (40 : Int32) ≤ nI j from Lge 40 (by omega) (by decide)), g80, bsome, g8d, bsome, rOr (by omega), bsome, wS (by omega), bsome, cpI_s, nI_1, ih (j + 1) g (by omega) (by omega)]
theorem left145_ok {x1 x2 x3 x4 x5 : Int32} {S2 S3 Oo Le : Nat → Int32} (hc : ∀ i, 40 ≤ i → S3 i = S2 i) : m_X8_left_145 k38 0 x1 x2 x3 x4 x5 (mh S3 Le As (cpI S2 Oo 40) M) = (m_X8_nextOrder 0 (mh S2 Le As (cpI S2 Oo 40) M)).bind fun r => k38 0 x1 x2 x3 x4 x5 r.1 r.2 := by
  have e := left148_loop (k38 := k38) (As := As) (M := M) (x1 := x1) (x2 := x2) (x3 := x3) (x4 := x4) (x5 := x5) (S3 := S3) (Or2 := cpI S2 Oo 40) (Le := Le) 40 0 1000 rfl (by decide)
  rw [cpI_0, show cpI (cpI S2 Oo 40) S3 40 = S2 from by
    funext i
    unfold cpI
    by_cases q : i < 40
    · rw [if_pos q, if_pos q]
    · rw [if_neg q, hc i (by omega)]] at e
  exact e
theorem left46_loop {x1 x2 x3 x4 x5 : Int32} {S2 Oo Le : Nat → Int32} {r : Int32} (hO : ∀ Or2, m_X8_onSeat 0 x2 (mh S2 Le As Or2 M) = some (r, mh S2 Le As Or2 M)) : ∀ (t j f : Nat), j + t = 40 → t < f → m_X8_left_46 k38 f 0 x1 x2 x3 x4 x5 (nI j) (mh S2 Le As (cpI S2 Oo j) M) = m_X8_left_83 k38 1000 0 x1 x2 x3 x4 x5 r 0 (mh S2 Le As (cpI S2 Oo 40) M) := by
  intro t
  induction t with
  | zero =>
    intro j f hj hf
    obtain ⟨g, rfl⟩ := fuel_s hf
    obtain rfl : j = 40 := by omega
    unfold m_X8_left_46
    rw [if_pos (by decide), g8r, hO, bsome]
  | succ t ih =>
    intro j f hj hf
    obtain ⟨g, rfl⟩ := fuel_s hf
    unfold m_X8_left_46
    rw [if_neg (show ¬ (40 : Int32) ≤ nI j from Lge 40 (by omega) (by decide)), g8d, bsome, g80, bsome, rS (by omega), bsome, wOr (by omega), bsome, cpI_s, nI_1, ih (j + 1) g (by omega) (by omega)]
theorem left83_loop (wR : Wr R) {n : Nat} (hn : n < 1000) {x2 x5 w : Int32} {oa : Option (Nat × Nat)} (hoa : ∀ a, oa = some a → a.1 < 1000 ∧ a.2 < 1000) {S2 Oo : Nat → Int32} : ∀ (t j f : Nat) (S3 Le : Nat → Int32) (tr : Bn), j + t = n → t < f → frR S2 S3 R tr → tr.2.2.2.1 + t < 100000 → ∃ Le2, m_X8_left_83 k38 f 0 (nI n) x2 (encM oa) (encL oa) x5 w (nI j) (mh S3 Le As (cpI S2 Oo 40) M) = (m_X8_nextOrder 0 (mh S2 Le2 As (cpI S2 Oo 40) M)).bind fun r => if bet (ouB R.2.1 R.2.2.2 t R.1 tr) oa then k38 0 (nI n) x2 (nI (ouB R.2.1 R.2.2.2 t R.1 tr).1) (nI (ouB R.2.1 R.2.2.2 t R.1 tr).2) w r.1 r.2 else k38 0 (nI n) x2 (encM oa) (encL oa) x5 r.1 r.2 := by
  intro t
  induction t with
  | zero =>
    intro j f S3 Le tr hj hf F hy
    obtain ⟨g, rfl⟩ := fuel_s hf
    refine ⟨Le, ?_⟩
    obtain ⟨lt1, lt2⟩ := ouB_lt (t := 0) wR.1.1 F.2.2.1 hy
    have h128 : m_X8_left_128 k38 0 (nI n) x2 w (mh S3 Le As (cpI S2 Oo 40) M) = (m_X8_nextOrder 0 (mh S2 Le As (cpI S2 Oo 40) M)).bind fun r => k38 0 (nI n) x2 (nI (ouB R.2.1 R.2.2.2 0 R.1 tr).1) (nI (ouB R.2.1 R.2.2.2 0 R.1 tr).2) w r.1 r.2 := by
      unfold m_X8_left_128
      rw [g80, bsome, rS1, bsome, g8r, lives8_ok F.1 F.2.1 wR.1.1, bsome]
      dsimp only
      rw [left145_ok F.2.2.2, F.2.1.1]
      rfl
    have h145 : m_X8_left_145 k38 0 (nI n) x2 (encM oa) (encL oa) x5 (mh S3 Le As (cpI S2 Oo 40) M) = _ := left145_ok F.2.2.2
    unfold m_X8_left_83
    rw [if_pos (nI_le (by omega) (by omega)), g80, bsome, rS1, bsome, bsome, rS1, bsome, g8r, lives8_ok F.1 F.2.1 wR.1.1, bsome]
    dsimp only
    rw [h128, h145, F.2.1.1, show tr.2.2.1 = (ouB R.2.1 R.2.2.2 0 R.1 tr).1 from rfl, show lsum tr.1 0 R.1 0 = (ouB R.2.1 R.2.2.2 0 R.1 tr).2 from rfl, bet_enc lt1 lt2 hoa]
    cases bet (ouB R.2.1 R.2.2.2 0 R.1 tr) oa <;> rfl
  | succ t ih =>
    intro j f S3 Le tr hj hf F hy
    obtain ⟨g, rfl⟩ := fuel_s hf
    obtain ⟨S4, Le4, e, F4⟩ := frR_step (Le := Le) (As := As) (Oo := cpI S2 Oo 40) (M := M) wR F (by omega)
    obtain ⟨Le5, e5⟩ := ih (j + 1) g S4 Le4 _ (by omega) (by omega) F4 (show tr.2.2.2.1 + 1 + t < 100000 by omega)
    refine ⟨Le5, ?_⟩
    unfold m_X8_left_83
    rw [if_neg (nI_ge (by omega) (by omega)), g8r, e, bsome, nI_1, e5]
    rfl
theorem leftM_loop (hS : stR S (R, (lv, sv, k0, y, d), L)) {t : Nat} (ht : t ≤ 30) {x : Int32} : ∀ (u : Nat) (ls : List (List Nat)) (f : Nat → Nat) (S2 Le Oo : Nat → Int32) (oa : Option (Nat × Nat)) (w : Int32) (g : Nat), itr u (rpr k0 f) = some ls → (∀ l, l ∈ ls → okL (whoN sv 0 k0 0) k0 l = true) → frO S S2 k0 f → u < g → (∀ a, oa = some a → a.1 < 1000 ∧ a.2 < 1000) → ∃ Le2 Oo2, m_X8_left_38 g 0 (nI t) x (encM oa) (encL oa) w 1 (mh S2 Le (cpI S As 40) Oo M) = some (if x = -1 then encM (gF (oL R lv k0 y d t) x ls (oa, w)).1 else if x = -2 then encL (gF (oL R lv k0 y d t) x ls (oa, w)).1 else (gF (oL R lv k0 y d t) x ls (oa, w)).2, mh S Le2 (cpI S As 40) Oo2 M) := by
  have wR := hS.2.2.1
  have wB := hS.2.2.2.1
  have hy : y ≤ 9999 := hS.2.2.2.2.1
  have o1 : R.1 ≤ 6 := wR.1.1
  have k6 : k0 ≤ 6 := wB.1.1
  intro u
  induction u with
  | zero => intro ls f S2 Le Oo oa w g h; cases h
  | succ u ih =>
    intro ls f S2 Le Oo oa w g hi hok Fr hg hoa
    obtain ⟨g, rfl⟩ := fuel_s hg
    obtain ⟨t2, e0, hcase⟩ := itr_s hi
    obtain rfl : t2 = u := by omega
    have hl : okL (whoN sv 0 k0 0) k0 (rpr k0 f) = true := by
      rcases hcase with ⟨-, rfl⟩ | ⟨l2, ls2, -, -, rfl⟩
      · exact hok _ (List.mem_singleton.mpr rfl)
      · exact hok _ List.mem_cons_self
    have wf := ord_ok wB hl
    have mf := Mb_ord o1 hS.2.1 Fr
    have rf := Mr_ord hS.1 Fr
    have f6 : ∀ i, i < k0 → f i < 6 := wf.1.2.2.1
    have hO : ∀ Or2, m_X8_onSeat 0 x (mh S2 Le (cpI S As 40) Or2 M) = some (onLx (rpr k0 f) x, mh S2 Le (cpI S As 40) Or2 M) := fun Or2 => by
      rw [onSeat_ok mf k6 x]
      rw [show onD (-4) (lv, f, k0, y, d).2.1 (lv, f, k0, y, d).2.2.1 x = onLx (rpr k0 f) x from onLx_eq k6 x]
    have F0 : frR S2 S2 R (lv, f, k0, y, d) := ⟨rf, mf, wf, fun _ _ => rfl⟩
    obtain ⟨Le3, e3⟩ := left83_loop (As := cpI S As 40) (M := M) (k38 := m_X8_left_38 g) (x2 := x) (x5 := w) (w := onLx (rpr k0 f) x) (S2 := S2) (Oo := Oo) wR (show t < 1000 by omega) hoa t 0 1000 S2 Le _ (by omega) (by omega) F0 (show y + t < 100000 by omega)
    have hoe : ouB R.2.1 R.2.2.2 t R.1 (lv, f, k0, y, d) = oL R lv k0 y d t (rpr k0 f) := oL_eq (fun i hi => rfl) wf (by omega)
    obtain ⟨lt1, lt2⟩ := ouB_lt (t := t) o1 wf (show y + t < 100000 by omega)
    rw [hoe] at e3 lt1 lt2
    obtain ⟨ou, hou⟩ : ∃ ou, oL R lv k0 y d t (rpr k0 f) = ou := ⟨_, rfl⟩
    rw [hou] at e3 lt1 lt2
    have e46 := left46_loop (k38 := m_X8_left_38 g) (As := cpI S As 40) (M := M) (x1 := nI t) (x3 := encM oa) (x4 := encL oa) (x5 := w) (Oo := Oo) hO 40 0 1000 rfl (by decide)
    rw [cpI_0] at e46
    have key1 : m_X8_left_38 (g + 1) 0 (nI t) x (encM oa) (encL oa) w 1 (mh S2 Le (cpI S As 40) Oo M) = m_X8_left_46 (m_X8_left_38 g) 1000 0 (nI t) x (encM oa) (encL oa) w 0 (mh S2 Le (cpI S As 40) Oo M) := by
      conv => lhs; unfold m_X8_left_38
      rw [if_neg one_ne]
    have key0 := key1.trans (e46.trans e3)
    have hls : gF (oL R lv k0 y d t) x ls (oa, w) = gF (oL R lv k0 y d t) x ls.tail (if bet ou oa then (some ou, onLx (rpr k0 f) x) else (oa, w)) := by
      rw [← hou]
      rcases hcase with ⟨-, rfl⟩ | ⟨l2, ls2, -, -, rfl⟩ <;> rfl
    rw [key0, hls]
    have hnx := next_ok (Le := Le3) (As := cpI S As 40) (Oo := cpI S2 Oo 40) (M := M) k6 f6 (show S 1 = nI k0 from hS.2.1.1) Fr
    -- go on with a pair
    have hgo : ∀ (oa2 : Option (Nat × Nat)) (w2 : Int32), (∀ a, oa2 = some a → a.1 < 1000 ∧ a.2 < 1000) → ∃ Le2 Oo2, ((m_X8_nextOrder 0 (mh S2 Le3 (cpI S As 40) (cpI S2 Oo 40) M)).bind fun r => m_X8_left_38 g 0 (nI t) x (encM oa2) (encL oa2) w2 r.1 r.2) = some (if x = -1 then encM (gF (oL R lv k0 y d t) x ls.tail (oa2, w2)).1 else if x = -2 then encL (gF (oL R lv k0 y d t) x ls.tail (oa2, w2)).1 else (gF (oL R lv k0 y d t) x ls.tail (oa2, w2)).2, mh S Le2 (cpI S As 40) Oo2 M) := by
      intro oa2 w2 hoa2
      rcases hcase with ⟨hn, rfl⟩ | ⟨l2, ls2, hn, hi2, rfl⟩
      · rw [nxtL_ok] at hn
        rcases hnx with ⟨h1, h2⟩ | ⟨gg, S3, h1, -⟩
        · obtain ⟨g, rfl⟩ := fuel_s (show 0 < g by omega)
          refine ⟨Le3, cpI S2 Oo 40, ?_⟩
          rw [h2, bsome]
          unfold m_X8_left_38 m_X8_left_210
          rw [if_pos rfl, g8r, lets_ok (fun i hi => Fr.2 i (by omega)), bsome]
          show _ = some (if x = -1 then encM oa2 else if x = -2 then encL oa2 else w2, _)
          split
          · rfl
          · split <;> rfl
        · rw [h1] at hn
          cases hn
      · rw [nxtL_ok] at hn
        rcases hnx with ⟨h1, -⟩ | ⟨gg, S3, h1, h2, F3⟩
        · rw [h1] at hn
          cases hn
        · rw [h1] at hn
          have hl2 : rpr k0 gg = l2 := Option.some.inj hn
          rw [h2, bsome]
          exact ih ls2 gg S3 Le3 _ oa2 w2 g (by rw [hl2]; exact hi2) (fun l hl => hok l (List.mem_cons_of_mem _ hl)) F3 (by omega) hoa2
    by_cases z : bet ou oa = true
    · simp only [z, if_true]
      exact hgo (some ou) _ (fun a ha => by
        cases ha
        exact ⟨lt1, lt2⟩)
    · simp only [z]
      exact hgo oa w hoa
end LM
/-- the other end of a bench -/
theorem rev_ok {R : Rl} {lv sv : Nat → Nat} {k0 y t : Nat} {d : Int32} (wB : Wb R.1 (lv, sv, k0, y, d)) (hy : y + t < 100000) {l : List Nat} (hl : okL (whoN sv 0 k0 0) k0 l = true) : okL (whoN sv 0 k0 0) k0 l.reverse = true ∧ oL R lv k0 y d t l.reverse = oL R lv k0 y d t l := by
  have hlen : l.length = k0 := by
    unfold okL at hl
    rw [Bool.and_eq_true] at hl
    exact beq_iff_eq.mp hl.1
  have hrpr : ∀ q : List Nat, q.length = k0 → rpr k0 (fun i => q.getD i 0) = q := fun q hq => by
    apply List.ext_getElem?
    intro i
    by_cases hi : i < k0
    · rw [List.getElem?_eq_getElem (by rw [rpr_len]; exact hi), List.getElem?_eq_getElem (by rw [hq]; exact hi)]
      congr 1
      have := rpr_at (n := k0) (f := fun i => q.getD i 0) hi
      rw [List.getD_eq_getElem?_getD, List.getElem?_eq_getElem (by rw [rpr_len]; exact hi), List.getD_eq_getElem?_getD, List.getElem?_eq_getElem (by rw [hq]; exact hi)] at this
      exact this
    · rw [List.getElem?_eq_none (by rw [rpr_len]; omega), List.getElem?_eq_none (by rw [hq]; omega)]
  have hndr : ∀ q : List Nat, ndL q = true ↔ q.Pairwise (· ≠ ·) := by
    intro q
    induction q with
    | nil => exact ⟨fun _ => List.Pairwise.nil, fun _ => rfl⟩
    | cons a q ih =>
      unfold ndL
      rw [Bool.and_eq_true, Bool.not_eq_true', List.elem_eq_mem, decide_eq_false_iff_not, List.pairwise_cons, ih]
      constructor
      · rintro ⟨h1, h2⟩
        exact ⟨fun b hb e => h1 (by rw [e]; exact hb), h2⟩
      · rintro ⟨h1, h2⟩
        exact ⟨fun hb => h1 a hb rfl, h2⟩
  have hr : okL (whoN sv 0 k0 0) k0 l.reverse = true := by
    unfold okL at hl ⊢
    rw [Bool.and_eq_true, Bool.and_eq_true, List.all_eq_true] at hl ⊢
    refine ⟨by rw [List.length_reverse]; exact hl.1, fun x hx => hl.2.1 x (List.mem_reverse.mp hx), ?_⟩
    rw [hndr, List.pairwise_reverse]
    exact ((hndr l).mp hl.2.2).imp (fun h => h.symm)
  refine ⟨hr, ?_⟩
  have W1 := ord_ok (f := fun i => l.getD i 0) wB (by rw [hrpr l hlen]; exact hl)
  have W2 := ord_ok (f := fun i => l.reverse.getD i 0) wB (by rw [hrpr _ (by rw [List.length_reverse]; exact hlen)]; exact hr)
  unfold oL
  refine ouB_rq (b := true) ⟨rfl, rfl, fun i hi => ?_⟩ W1 W2 hy
  have hi : i < k0 := hi
  show l.reverse.getD i 0 = l.getD (k0 - 1 - i) 0
  rw [List.getD_eq_getElem?_getD, List.getD_eq_getElem?_getD, List.getElem?_reverse (by omega), hlen]
theorem sim_left_ok : sim_left RR := by
  intro hX hM x1 x2 h0
  have h1 := h0
  obtain ⟨s, k, kf, T, X, tr, gu, O, ch, S, Le, As, Oo, M, rfl, rfl, hS, hD⟩ := h1
  rcases inB_or x1 (lo := 0) (hi := 30) 0 30 rfl rfl (by decide) (by decide) with e1 | ⟨t, -, ht, rfl, e1⟩
  · refine ⟨-1, _, _, ?_, ?_, h0⟩
    · unfold m_X7_left
      rw [within_ok, bsome, e1]
      rfl
    · unfold m_X8_left
      rw [in_ok, bsome, e1]
      rfl
  · by_cases hx : -2 ≤ x2
    · obtain ⟨R, ⟨lv, sv, k0, y, d⟩, L⟩ := s
      have wB := hS.2.2.2.1
      have wR := hS.2.2.1
      have hy : y ≤ 9999 := hS.2.2.2.2.1
      have k6 : k0 ≤ 6 := wB.1.1
      obtain ⟨m2, ls, S2, f0, q1, q2, q3, q4, f1, F⟩ := ord_setup (k := k) (kf := kf) (T := T) (X := X) (tr := tr) (gu := gu) (O := O) (ch := ch) (Le := Le) (As := As) (Oo := Oo) (M := M) hS
      obtain ⟨f2, b2, tr2, gX, hb⟩ := leftX_loop (k := k) (kf := kf) (T := T) (X := X) (gu := gu) (ch := ch) (L := L) wR wB ht hy 720 ls m2 m2 tr none 0 1000 q1 q2 rfl (by decide) (fun a ha => by cases ha)
      obtain ⟨Le2, Oo2, gM⟩ := leftM_loop (As := As) (M := M) hS ht (x := x2) 720 ls m2 S2 Le Oo none (-4) 1000 q1 q2 F (by decide) (fun a ha => by cases ha)
      -- the two folds
      have hfold : gF (oL R lv k0 y d t) x2 ls (none, -4) = (some (oL R lv k0 y d t (rpr k0 b2)), onLx (rpr k0 b2) x2) := by
        obtain ⟨t2, -, hcase⟩ := itr_s q1
        obtain ⟨ls2, rfl⟩ : ∃ ls2, ls = rpr k0 m2 :: ls2 := by
          rcases hcase with ⟨-, h⟩ | ⟨l2, ls2, -, -, h⟩
          · exact ⟨[], h⟩
          · exact ⟨ls2, h⟩
        have hm2 : mir [cdL (rpr k0 m2)] ls2 = true := by
          unfold mir at q3
          rw [if_neg (by rw [q4]; decide)] at q3
          exact q3
        have hb2 : rpr k0 b2 = (cF (oL R lv k0 y d t) ls2 (some (oL R lv k0 y d t (rpr k0 m2)), rpr k0 m2)).2 := by
          rw [hb]
          show (cF _ ls2 (if trd (rpr k0 m2) then (none, rpr k0 m2) else (some (oL R lv k0 y d t (rpr k0 m2)), rpr k0 m2))).2 = _
          rw [if_neg (by rw [q4]; decide)]
        rw [← lF_cF (out := oL R lv k0 y d t) (k0 := k0) (P := fun l => okL (whoN sv 0 k0 0) k0 l = true) (fun l hl => by
          unfold okL at hl
          rw [Bool.and_eq_true, Bool.and_eq_true, List.all_eq_true] at hl
          refine ⟨beq_iff_eq.mp hl.1, fun z hz => ?_⟩
          obtain ⟨i, hi, e⟩ := who_has.mp (hl.2.1 z hz)
          have : sv i < 6 := wB.1.2.2.1 i hi
          omega) (fun l hl => rev_ok wB (by omega) hl) ls2 [cdL (rpr k0 m2)] (oL R lv k0 y d t (rpr k0 m2)) (rpr k0 m2) (fun l hl => q2 l (List.mem_cons_of_mem _ hl)) hm2 (fun c hc => by
            rw [List.mem_singleton] at hc
            exact ⟨rpr k0 m2, q2 _ List.mem_cons_self, hc.symm, bet_f.mpr (by omega)⟩)] at hb2
        show gF _ x2 ls2 (some (oL R lv k0 y d t (rpr k0 m2)), onLx (rpr k0 m2) x2) = _
        rw [gF_lF, lF_out, ← hb2]
      rw [hfold] at gM
      -- the best, foretold
      have hokb : okL (whoN sv 0 k0 0) k0 (rpr k0 b2) = true := by
        have : ∀ (ls : List (List Nat)) (a : Option (Nat × Nat)) (b : List Nat), (∀ l, l ∈ ls → okL (whoN sv 0 k0 0) k0 l = true) → okL (whoN sv 0 k0 0) k0 b = true → okL (whoN sv 0 k0 0) k0 (cF (oL R lv k0 y d t) ls (a, b)).2 = true := by
          intro ls
          induction ls with
          | nil => intro a b _ h; exact h
          | cons l ls ih =>
            intro a b h1 h2
            unfold cF
            split
            · exact ih _ _ (fun z hz => h1 z (List.mem_cons_of_mem _ hz)) h2
            · split
              · exact ih _ _ (fun z hz => h1 z (List.mem_cons_of_mem _ hz)) (h1 l List.mem_cons_self)
              · exact ih _ _ (fun z hz => h1 z (List.mem_cons_of_mem _ hz)) h2
        rw [hb]
        refine this ls none _ q2 (q2 _ ?_)
        obtain ⟨t2, -, hcase⟩ := itr_s q1
        rcases hcase with ⟨-, rfl⟩ | ⟨l2, ls2, -, -, rfl⟩
        · exact List.mem_singleton.mpr rfl
        · exact List.mem_cons_self
      have wb := ord_ok wB hokb
      have hfore := foreFor_ok (L := L) (k := k) (kf := kf) (T := T) (X := X) (gu := gu) (ch := ch) (tr := tr2) (O := (f2, b2, k0)) (a := 98) (t := t) wR wB (Or.inr rfl) (fun _ => aob) wb (by omega) hy
      have hoe : ouB R.2.1 R.2.2.2 t R.1 (lv, cpyN b2 sv k0, k0, y, d) = oL R lv k0 y d t (rpr k0 b2) := oL_eq (fun i hi => if_pos hi) wb (by omega)
      have Wt := Wb_yrs (kd := R.2.1) (sb := R.2.2.2) t _ (Wb_cpy (sv := sv) wb) (show y + t < 100000 by omega)
      obtain ⟨Tr, hTr⟩ : ∃ Tr, yrs R.2.1 R.2.2.2 t (lv, cpyN b2 sv k0, k0, y, d) = Tr := ⟨_, rfl⟩
      have hou1 : Tr.2.2.1 = (oL R lv k0 y d t (rpr k0 b2)).1 := by rw [← hoe, ← hTr]; rfl
      have hou2 : lsum Tr.1 0 R.1 0 = (oL R lv k0 y d t (rpr k0 b2)).2 := by rw [← hoe, ← hTr]; rfl
      rw [hTr] at hfore Wt
      have hlv := lives_eq Wt
      rw [hou2] at hlv
      have eX : ∀ z : Unit, m_X7_left 0 (nI t) x2 (chp (R, (lv, sv, k0, y, d), L) k kf T X tr gu O ch) = _ := fun z => by
        unfold m_X7_left m_X7_findMostLeft
        rw [within_ok, bsome, e1, if_neg one_ne, if_pos hx, c7r, c77, bsome, c70, bsome, c11, bsome, cor, f0, bsome, show m_X7_findMostLeft_21 1000 0 (nI t) (-1) (-1) 0 (chp (R, (lv, sv, k0, y, d), L) k kf T X tr gu (m2, m2, k0) ch) = _ from gX, bsome]
      rw [eX ()]
      have eM : ∀ z : Unit, m_X8_left 0 (nI t) x2 (mh S Le As Oo M) = _ := fun z => by
        unfold m_X8_left
        rw [in_ok, bsome, e1, if_neg one_ne, if_pos hx, g8r, holds8_ok, bsome, g8r, f1, bsome, show m_X8_left_38 1000 0 (nI t) x2 (-1) (-1) (-4) 1 (mh S2 Le (cpI S As 40) Oo M) = _ from gM]
      rw [eM ()]
      by_cases c : x2 < 0
      · rw [if_pos c, c77, bsome, co1, bsome, c7r, hfore, bsome]
        by_cases c1 : x2 = -1
        · refine ⟨nI (oL R lv k0 y d t (rpr k0 b2)).1, chp (R, (lv, sv, k0, y, d), L) k kf T X Tr gu (f2, b2, k0) ch, mh S Le2 (cpI S As 40) Oo2 M, ?_, ?_, RR_mk hS hD⟩
          · rw [if_pos c1, c75, bsome, (cB86).G2, bsome, hou1]
            rfl
          · rw [if_pos c1]
            rfl
        · have c2 : x2 = -2 := by
            have a1 := Int32.le_iff_toInt_le.mp hx
            have a2 := Int32.lt_iff_toInt_lt.mp c
            have a3 : (-2 : Int32).toInt = -2 := by decide
            have a4 : (0 : Int32).toInt = 0 := by decide
            have a5 : (-1 : Int32).toInt = -1 := by decide
            have a6 : x2.toInt ≠ -1 := fun z => c1 (Int32.toInt_inj.mp (z.trans a5.symm))
            exact Int32.toInt_inj.mp (by omega)
          refine ⟨nI (oL R lv k0 y d t (rpr k0 b2)).2, chp (R, (lv, sv, k0, y, d), L) k kf T X Tr gu (f2, b2, k0) ch, mh S Le2 (cpI S As 40) Oo2 M, ?_, ?_, RR_mk hS hD⟩
          · rw [if_neg c1, c75, bsome, (cB86).rcv, lifeOfAll_ok cB86 Wt.1.1 Wt.1.2.2.1, bsome, show sp_sum Tr.1 Tr.2.1 0 Tr.2.2.1 0 = _ from hlv]
            rfl
          · rw [if_neg c1, if_pos c2]
            rfl
      · have c1 : ¬ x2 = -1 := fun z => c (by rw [z]; decide)
        have c2 : ¬ x2 = -2 := fun z => c (by rw [z]; decide)
        refine ⟨onLx (rpr k0 b2) x2, chp (R, (lv, sv, k0, y, d), L) k kf T X tr2 gu (f2, b2, k0) ch, mh S Le2 (cpI S As 40) Oo2 M, ?_, ?_, RR_mk hS hD⟩
        · rw [if_neg c, c77, bsome, cor, bestOn_ok k6, bsome]
        · rw [if_neg c1, if_neg c2]
    · refine ⟨-1, _, _, ?_, ?_, h0⟩
      · unfold m_X7_left
        rw [within_ok, bsome, e1, if_neg one_ne, if_neg hx]
        rfl
      · unfold m_X8_left
        rw [in_ok, bsome, e1, if_neg one_ne, if_neg hx]
        rfl

