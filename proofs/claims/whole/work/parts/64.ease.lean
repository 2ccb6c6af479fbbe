/-! ease -/
theorem ord_setup {R : Rl} {lv sv : Nat → Nat} {k0 y : Nat} {d : Int32} {L : Lg} {k : St} {kf : Int32} {T : Tp} {X : Nat → Sh} {tr : Bn} {gu : Rl} {O : Od} {ch : Nat → Nat} {S Le As Oo : Nat → Int32} {M : Mx} (hS : stR S (R, (lv, sv, k0, y, d), L)) : ∃ (m2 : Nat → Nat) (ls : List (List Nat)) (S2 : Nat → Int32), m_X2_start 96 9 (chp (R, (lv, sv, k0, y, d), L) k kf T X tr gu O ch) = some (chp (R, (lv, sv, k0, y, d), L) k kf T X tr gu (m2, m2, k0) ch) ∧ itr 720 (rpr k0 m2) = some ls ∧ (∀ l, l ∈ ls → okL (whoN sv 0 k0 0) k0 l = true) ∧ mir [] ls = true ∧ trd (rpr k0 m2) = false ∧ m_X8_firstOrder 0 (mh S Le (cpI S As 40) Oo M) = some (mh S2 Le (cpI S As 40) Oo M) ∧ frO S S2 k0 m2 := by
  obtain ⟨m2, e1, h2⟩ := start_ok (s := (R, (lv, sv, k0, y, d), L)) (k := k) (kf := kf) (T := T) (X := X) (tr := tr) (gu := gu) (O := O) (ch := ch) hS.2.2.2.1.1
  have wB := hS.2.2.2.1
  have hw : whoN sv 0 k0 0 < 64 := (sp_who_ok wB.1.2.2.1).2
  have hlen : (srt (whoN sv 0 k0 0)).length = k0 := by rw [srt_len _ hw, whoN_cnt wB.1.2.2.1 wB.2.2.2.1]
  dsimp only at e1 h2
  rw [hlen] at e1 h2
  obtain ⟨ls, q1, q2, q3, q4⟩ := chk_w hw
  rw [hlen] at q2
  have hr : rpr k0 m2 = srt (whoN sv 0 k0 0) := by
    rw [rpr_cong h2]
    apply List.ext_getElem?
    intro i
    by_cases hi : i < k0
    · rw [List.getElem?_eq_getElem (by rw [rpr_len]; exact hi), List.getElem?_eq_getElem (by rw [hlen]; exact hi)]
      congr 1
      have := rpr_at (n := k0) (f := fun i => (srt (whoN sv 0 k0 0)).getD i 0) hi
      rw [List.getD_eq_getElem?_getD, List.getElem?_eq_getElem (by rw [rpr_len]; exact hi), List.getD_eq_getElem?_getD, List.getElem?_eq_getElem (by rw [hlen]; exact hi)] at this
      exact this
    · rw [List.getElem?_eq_none (by rw [rpr_len]; omega), List.getElem?_eq_none (by rw [hlen]; omega)]
  obtain ⟨S2, f1, F⟩ := first_ok (Le := Le) (As := cpI S As 40) (Oo := Oo) (M := M) hS.2.1 wB.1 hlen h2
  exact ⟨m2, ls, S2, e1, by rw [hr]; exact q1, q2, q3, by rw [hr]; exact q4, f1, F⟩
/-- the fewest so far, and its order -/
def eF (W : List Nat → Nat) : List (List Nat) → Nat × List Nat → Nat × List Nat
  | [], a => a
  | l :: ls, a => eF W ls (if W l < a.1 then (W l, l) else a)
theorem eF_0 (W : List Nat → Nat) : ∀ (ls : List (List Nat)) (b : List Nat), eF W ls (0, b) = (0, b) := by
  intro ls
  induction ls with
  | nil => intro b; rfl
  | cons l ls ih =>
    intro b
    show eF W ls (if W l < 0 then (W l, l) else (0, b)) = (0, b)
    rw [if_neg (by omega)]
    exact ih b
def onLx (l : List Nat) (x : Int32) : Int32 := onD (-4) (fun i => l.getD i 0) l.length x
theorem onLx_eq {f : Nat → Nat} {k0 : Nat} (hk : k0 ≤ 6) (x : Int32) : onD (-4) f k0 x = onLx (rpr k0 f) x := by
  unfold onLx
  rw [rpr_len]
  rcases place_or x k0 with ⟨j, hj, rfl⟩ | q
  · rw [onD_in hj (by omega), onD_in hj (by omega), rpr_at hj]
  · rw [onD_out (by omega) q, onD_out (by omega) q]
/-- the same with who sits on a place -/
def mF (W : List Nat → Nat) (x : Int32) : List (List Nat) → Nat × Int32 → Nat × Int32
  | [], a => a
  | l :: ls, a => mF W x ls (if W l < a.1 then (W l, onLx l x) else a)
theorem mF_eF (W : List Nat → Nat) (x : Int32) : ∀ (ls : List (List Nat)) (F : Nat) (b : List Nat), mF W x ls (F, onLx b x) = ((eF W ls (F, b)).1, onLx (eF W ls (F, b)).2 x) := by
  intro ls
  induction ls with
  | nil => intro F b; rfl
  | cons l ls ih =>
    intro F b
    show mF W x ls (if W l < F then (W l, onLx l x) else (F, onLx b x)) = ((eF W ls (if W l < F then (W l, l) else (F, b))).1, onLx (eF W ls (if W l < F then (W l, l) else (F, b))).2 x)
    split
    · exact ih _ _
    · exact ih _ _
theorem bestOn_ok {s k : St} {kf : Int32} {T : Tp} {X : Nat → Sh} {tr : Bn} {gu : Rl} {m b : Nat → Nat} {n : Nat} {ch : Nat → Nat} (hn : n ≤ 6) (x : Int32) : m_X2_bestOn 96 x (chp s k kf T X tr gu (m, b, n) ch) = some (onLx (rpr n b) x, chp s k kf T X tr gu (m, b, n) ch) := by
  unfold m_X2_bestOn m_X2_bestOn_25
  rw [co2T, bsome, within_ok, bsome, ← onLx_eq hn]
  dsimp only
  rcases place_or x n with ⟨j, hj, rfl⟩ | q
  · rw [show inB (nI j) 0 (nI n - 1) = 1 from inB_in (c := 0) (by omega) (by omega), if_neg one_ne, co1, bsome, rob (by omega), bsome, onD_in hj (by omega)]
  · rw [show inB x 0 (nI n - 1) = 0 from inB_out (c := 0) (by omega) (by decide) (fun j hj => q j (by omega)), if_pos rfl, onD_out (by omega) q]
section EA
variable {R : Rl} {lv sv : Nat → Nat} {k0 y : Nat} {d : Int32} {L : Lg} {k : St} {kf : Int32} {T : Tp} {X : Nat → Sh} {tr : Bn} {gu : Rl} {ch : Nat → Nat} {S Le As Oo : Nat → Int32} {M : Mx}
theorem easeX_loop (wR : Wr R) (wB : Wb R.1 (lv, sv, k0, y, d)) : ∀ (t : Nat) (ls : List (List Nat)) (f bst : Nat → Nat) (F o fu : Nat), itr t (rpr k0 f) = some ls → (∀ l, l ∈ ls → okL (whoN sv 0 k0 0) k0 l = true) → o + t = 720 → t < fu → F < 1000 → ∃ f2 b2, m_X7_findEase_24 fu 0 (nI F) (nI o) (chp (R, (lv, sv, k0, y, d), L) k kf T X tr gu (f, bst, k0) ch) = some (nI (eF (wL R.1 R.2.2.1) ls (F, rpr k0 bst)).1, chp (R, (lv, sv, k0, y, d), L) k kf T X tr gu (f2, b2, k0) ch) ∧ rpr k0 b2 = (eF (wL R.1 R.2.2.1) ls (F, rpr k0 bst)).2 := by
  have o1 : R.1 ≤ 6 := wR.1.1
  have k6 : k0 ≤ 6 := wB.1.1
  intro t
  induction t with
  | zero => intro ls f bst F o fu h; cases h
  | succ t ih =>
    intro ls f bst F o fu hi hok ho hfu hF
    obtain ⟨fu, rfl⟩ := fuel_s hfu
    obtain ⟨t2, e0, hcase⟩ := itr_s hi
    obtain rfl : t2 = t := by omega
    have hl : okL (whoN sv 0 k0 0) k0 (rpr k0 f) = true := by
      rcases hcase with ⟨-, rfl⟩ | ⟨l2, ls2, -, -, rfl⟩
      · exact hok _ (List.mem_singleton.mpr rfl)
      · exact hok _ List.mem_cons_self
    have wf := ord_ok wB hl
    have f6 : ∀ i, i < k0 → f i < 6 := wf.1.2.2.1
    have AR := cR2 (s := (R, (lv, sv, k0, y, d), L)) (k := k) (kf := kf) (T := T) (X := X) (tr := tr) (gu := gu) (O := (f, bst, k0)) (ch := ch)
    have eW := wrong_ok (k0 := k0) AR (aom (s := (R, (lv, sv, k0, y, d), L)) (k := k) (kf := kf) (T := T) (X := X) (tr := tr) (gu := gu) (O := (f, bst, k0)) (ch := ch)) k6 wR.1.2.2.2 f6
    rw [wr_eq (sv := f) wR wf.2.2.1 wf.2.2.2.1, wL_eq] at eW
    have hwl := wL_le (n := R.1) (pl := R.2.2.1) (k0 := k0) (f := f)
    -- where to go on from a best
    have h70 : ∀ (F2 : Nat) (b2 : Nat → Nat), F2 < 1000 → ∃ f3 b3, m_X7_findEase_70 (m_X7_findEase_24 fu) 0 (nI F2) (nI o) (chp (R, (lv, sv, k0, y, d), L) k kf T X tr gu (f, b2, k0) ch) = some (nI (eF (wL R.1 R.2.2.1) ls.tail (F2, rpr k0 b2)).1, chp (R, (lv, sv, k0, y, d), L) k kf T X tr gu (f3, b3, k0) ch) ∧ rpr k0 b3 = (eF (wL R.1 R.2.2.1) ls.tail (F2, rpr k0 b2)).2 := by
      intro F2 b2 hF2
      have hadv := adv_ok (s := (R, (lv, sv, k0, y, d), L)) (k := k) (kf := kf) (T := T) (X := X) (tr := tr) (gu := gu) (bst := b2) (ch := ch) (n := k0) (m := f) k6 f6
      unfold m_X7_findEase_70
      rw [show (0 : Int32) = nI 0 from rfl, ite_e (by omega) (by decide)]
      by_cases z : F2 = 0
      · subst z
        rw [if_pos rfl, eF_0]
        exact ⟨f, b2, rfl, rfl⟩
      · rw [if_neg z, c77, bsome, cor, hadv]
        rcases hcase with ⟨hn, rfl⟩ | ⟨l2, ls2, hn, hi2, rfl⟩
        · rw [nxtL_ok] at hn
          cases h1 : nxt k0 f with
          | some gg => rw [h1] at hn; cases hn
          | none => exact ⟨f, b2, rfl, rfl⟩
        · rw [nxtL_ok] at hn
          cases h1 : nxt k0 f with
          | none => rw [h1] at hn; cases hn
          | some gg =>
            rw [h1] at hn
            have hl2 : rpr k0 gg = l2 := Option.some.inj hn
            dsimp only
            rw [bsome, if_neg (show ¬ (1 : Int32) = nI 0 from by decide), nI_1]
            exact ih ls2 gg b2 F2 (o + 1) fu (by rw [hl2]; exact hi2) (fun l hl => hok l (List.mem_cons_of_mem _ hl)) (by omega) (by omega) hF2
    have hls : eF (wL R.1 R.2.2.1) ls (F, rpr k0 bst) = eF (wL R.1 R.2.2.1) ls.tail (if wL R.1 R.2.2.1 (rpr k0 f) < F then (wL R.1 R.2.2.1 (rpr k0 f), rpr k0 f) else (F, rpr k0 bst)) := by
      rcases hcase with ⟨-, rfl⟩ | ⟨l2, ls2, -, -, rfl⟩ <;> rfl
    rw [hls]
    have key0 : ∀ z : Unit, m_X7_findEase_24 (fu + 1) 0 (nI F) (nI o) (chp (R, (lv, sv, k0, y, d), L) k kf T X tr gu (f, bst, k0) ch) = if wL R.1 R.2.2.1 (rpr k0 f) < F then m_X7_findEase_70 (m_X7_findEase_24 fu) 0 (nI (wL R.1 R.2.2.1 (rpr k0 f))) (nI o) (chp (R, (lv, sv, k0, y, d), L) k kf T X tr gu (f, f, k0) ch) else m_X7_findEase_70 (m_X7_findEase_24 fu) 0 (nI F) (nI o) (chp (R, (lv, sv, k0, y, d), L) k kf T X tr gu (f, bst, k0) ch) := fun _ => by
      conv => lhs; unfold m_X7_findEase_24
      rw [if_neg (show ¬ (720 : Int32) ≤ nI o from Lge 720 (by omega) (by decide)), c70, bsome, c10, bsome, c77, bsome, co0, bsome, bsome, co2, bsome, AR.rcv, show m_X3_wrongPairs 2 97 (nI k0) (chp (R, (lv, sv, k0, y, d), L) k kf T X tr gu (f, bst, k0) ch) = _ from eW, bsome]
      dsimp only
      rw [ite_le (by omega) (by omega), c77, bsome, cor, keepBest_ok, bsome]
      by_cases z : F ≤ wL R.1 R.2.2.1 (rpr k0 f)
      · rw [if_pos z, if_neg (by omega)]
      · rw [if_neg z, if_pos (by omega)]
    rw [key0 ()]
    by_cases z : wL R.1 R.2.2.1 (rpr k0 f) < F
    · rw [if_pos z, if_pos z]
      exact h70 _ f (by omega)
    · rw [if_neg z, if_neg z]
      exact h70 F bst hF
theorem easeM_loop (hS : stR S (R, (lv, sv, k0, y, d), L)) {x : Int32} : ∀ (t : Nat) (ls : List (List Nat)) (f : Nat → Nat) (S2 : Nat → Int32) (F : Nat) (w : Int32) (g : Nat), itr t (rpr k0 f) = some ls → (∀ l, l ∈ ls → okL (whoN sv 0 k0 0) k0 l = true) → frO S S2 k0 f → t < g → F < 1000 → m_X8_ease_24 g 0 x (nI F) w 1 (mh S2 Le (cpI S As 40) Oo M) = some (if x = -1 then nI (mF (wL R.1 R.2.2.1) x ls (F, w)).1 else (mF (wL R.1 R.2.2.1) x ls (F, w)).2, mh S Le (cpI S As 40) Oo M) := by
  have wR := hS.2.2.1
  have wB := hS.2.2.2.1
  have o1 : R.1 ≤ 6 := wR.1.1
  have k6 : k0 ≤ 6 := wB.1.1
  intro t
  induction t with
  | zero => intro ls f S2 F w g h; cases h
  | succ t ih =>
    intro ls f S2 F w g hi hok Fr hg hF
    obtain ⟨g, rfl⟩ := fuel_s hg
    obtain ⟨t2, e0, hcase⟩ := itr_s hi
    obtain rfl : t2 = t := by omega
    have hl : okL (whoN sv 0 k0 0) k0 (rpr k0 f) = true := by
      rcases hcase with ⟨-, rfl⟩ | ⟨l2, ls2, -, -, rfl⟩
      · exact hok _ (List.mem_singleton.mpr rfl)
      · exact hok _ List.mem_cons_self
    have wf := ord_ok wB hl
    have mf := Mb_ord o1 hS.2.1 Fr
    have rf := Mr_ord hS.1 Fr
    have f6 : ∀ i, i < k0 → f i < 6 := wf.1.2.2.1
    have eM := wrong8_ok (Le := Le) (As := cpI S As 40) (Oo := Oo) (M := M) rf mf wR k6 wf.2.2.1
    rw [show wrP (tog R.1 R.2.2.1) (lv, f, k0, y, d).2.1 1 ((lv, f, k0, y, d).2.2.1 - 1) 0 = wL R.1 R.2.2.1 (rpr k0 f) from wL_eq] at eM
    have eO := onSeat_ok (Le := Le) (As := cpI S As 40) (Or := Oo) (M := M) mf k6 x
    rw [show onD (-4) (lv, f, k0, y, d).2.1 (lv, f, k0, y, d).2.2.1 x = onLx (rpr k0 f) x from onLx_eq k6 x] at eO
    have hnx := next_ok (Le := Le) (As := cpI S As 40) (Oo := Oo) (M := M) k6 f6 (show S 1 = nI k0 from hS.2.1.1) Fr
    have hwl := wL_le (n := R.1) (pl := R.2.2.1) (k0 := k0) (f := f)
    have hls : mF (wL R.1 R.2.2.1) x ls (F, w) = mF (wL R.1 R.2.2.1) x ls.tail (if wL R.1 R.2.2.1 (rpr k0 f) < F then (wL R.1 R.2.2.1 (rpr k0 f), onLx (rpr k0 f) x) else (F, w)) := by
      rcases hcase with ⟨-, rfl⟩ | ⟨l2, ls2, -, -, rfl⟩ <;> rfl
    have h63 : ∀ (F2 : Nat) (w2 : Int32), F2 < 1000 → m_X8_ease_63 (m_X8_ease_24 g) 0 x w2 (nI F2) (mh S2 Le (cpI S As 40) Oo M) = some (if x = -1 then nI (mF (wL R.1 R.2.2.1) x ls.tail (F2, w2)).1 else (mF (wL R.1 R.2.2.1) x ls.tail (F2, w2)).2, mh S Le (cpI S As 40) Oo M) := by
      intro F2 w2 hF2
      unfold m_X8_ease_63
      rw [g8r]
      rcases hcase with ⟨hn, rfl⟩ | ⟨l2, ls2, hn, hi2, rfl⟩
      · rw [nxtL_ok] at hn
        rcases hnx with ⟨h1, h2⟩ | ⟨gg, S3, h1, -⟩
        · obtain ⟨g, rfl⟩ := fuel_s (show 0 < g by omega)
          rw [h2, bsome]
          unfold m_X8_ease_24 m_X8_ease_87
          rw [if_pos rfl, g8r, lets_ok (fun i hi => Fr.2 i (by omega)), bsome]
          show _ = some (if x = -1 then nI F2 else w2, _)
          split <;> rfl
        · rw [h1] at hn
          cases hn
      · rw [nxtL_ok] at hn
        rcases hnx with ⟨h1, -⟩ | ⟨gg, S3, h1, h2, F3⟩
        · rw [h1] at hn
          cases hn
        · rw [h1] at hn
          have hl2 : rpr k0 gg = l2 := Option.some.inj hn
          rw [h2, bsome]
          exact ih ls2 gg S3 F2 w2 g (by rw [hl2]; exact hi2) (fun l hl => hok l (List.mem_cons_of_mem _ hl)) F3 (by omega) hF2
    rw [hls]
    unfold m_X8_ease_24 m_X8_ease_50
    rw [if_neg one_ne, g8r, eM, bsome]
    dsimp only
    rw [g8r, eO, bsome]
    dsimp only
    by_cases z : wL R.1 R.2.2.1 (rpr k0 f) < F
    · rw [if_neg (nI_ge z (by omega)), if_neg (nI_ge z (by omega)), if_pos z]
      exact h63 _ _ (by omega)
    · rw [if_pos (nI_le (by omega) (by omega)), if_pos (nI_le (by omega) (by omega)), if_neg z]
      exact h63 F w hF
end EA
theorem sim_ease_ok : sim_ease RR := by
  intro hX hM x h0
  have h1 := h0
  obtain ⟨s, k, kf, T, X, tr, gu, O, ch, S, Le, As, Oo, M, rfl, rfl, hS, hD⟩ := h1
  by_cases hx : -1 ≤ x
  · obtain ⟨R, ⟨lv, sv, k0, y, d⟩, L⟩ := s
    have wB := hS.2.2.2.1
    have k6 : k0 ≤ 6 := wB.1.1
    obtain ⟨m2, ls, S2, e1, q1, q2, -, -, f1, F⟩ := ord_setup (k := k) (kf := kf) (T := T) (X := X) (tr := tr) (gu := gu) (O := O) (ch := ch) (Le := Le) (As := As) (Oo := Oo) (M := M) hS
    obtain ⟨f2, b2, gX, hb⟩ := easeX_loop (k := k) (kf := kf) (T := T) (X := X) (tr := tr) (gu := gu) (ch := ch) (L := L) hS.2.2.1 wB 720 ls m2 m2 k0 0 1000 q1 q2 rfl (by decide) (by omega)
    have gM := easeM_loop (Le := Le) (As := As) (Oo := Oo) (M := M) hS (x := x) 720 ls m2 S2 99 (-4) 1000 q1 q2 F (by decide) (by decide)
    have hfirst : mF (wL R.1 R.2.2.1) x ls (99, -4) = ((eF (wL R.1 R.2.2.1) ls (k0, rpr k0 m2)).1, onLx (eF (wL R.1 R.2.2.1) ls (k0, rpr k0 m2)).2 x) := by
      have hwl := wL_le (n := R.1) (pl := R.2.2.1) (k0 := k0) (f := m2)
      obtain ⟨t2, -, hcase⟩ := itr_s q1
      obtain ⟨ls2, rfl⟩ : ∃ ls2, ls = rpr k0 m2 :: ls2 := by
        rcases hcase with ⟨-, h⟩ | ⟨l2, ls2, -, -, h⟩
        · exact ⟨[], h⟩
        · exact ⟨ls2, h⟩
      show mF _ x ls2 (if wL R.1 R.2.2.1 (rpr k0 m2) < 99 then (wL R.1 R.2.2.1 (rpr k0 m2), onLx (rpr k0 m2) x) else (99, -4)) = ((eF (wL R.1 R.2.2.1) ls2 (if wL R.1 R.2.2.1 (rpr k0 m2) < k0 then (wL R.1 R.2.2.1 (rpr k0 m2), rpr k0 m2) else (k0, rpr k0 m2))).1, onLx (eF (wL R.1 R.2.2.1) ls2 (if wL R.1 R.2.2.1 (rpr k0 m2) < k0 then (wL R.1 R.2.2.1 (rpr k0 m2), rpr k0 m2) else (k0, rpr k0 m2))).2 x)
      rw [if_pos (by omega)]
      by_cases z : wL R.1 R.2.2.1 (rpr k0 m2) < k0
      · rw [if_pos z, mF_eF]
      · rw [if_neg z, show wL R.1 R.2.2.1 (rpr k0 m2) = k0 by omega, mF_eF]
    rw [hfirst] at gM
    refine ⟨if x = -1 then nI (eF (wL R.1 R.2.2.1) ls (k0, rpr k0 m2)).1 else onLx (eF (wL R.1 R.2.2.1) ls (k0, rpr k0 m2)).2 x, chp (R, (lv, sv, k0, y, d), L) k kf T X tr gu (f2, b2, k0) ch, mh S Le (cpI S As 40) Oo M, ?_, ?_, RR_mk hS hD⟩
    · unfold m_X7_ease m_X7_findEase m_X7_ease_29
      rw [if_pos hx, c7r, c77, bsome, c70, bsome, c11, bsome, cor, e1, bsome, c77, bsome, co2, bsome]
      rw [show m_X7_findEase_24 1000 0 (nI (m2, m2, k0).2.2) 0 (chp (R, (lv, sv, k0, y, d), L) k kf T X tr gu (m2, m2, k0) ch) = _ from gX, bsome]
      dsimp only
      rw [c77, bsome, cor, bestOn_ok k6, bsome, ← hb]
      split <;> rfl
    · unfold m_X8_ease
      rw [if_pos hx, g8r, holds8_ok, bsome, g8r, f1, bsome]
      exact gM
  · refine ⟨-1, _, _, ?_, ?_, h0⟩
    · unfold m_X7_ease
      rw [if_neg hx]
    · unfold m_X8_ease
      rw [if_neg hx]
