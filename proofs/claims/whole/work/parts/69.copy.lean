/-! COPY -/
theorem cp_fn {f g : Nat → Int64} {a b n : Nat} (h1 : a + n ≤ 24) (h2 : b + n ≤ 24) : bb_cp (fnL 24 f) (fnL 24 g) a b n = fnL 24 (va_cpy f g a b n) := by
  have l1 : ((fnL 24 g).take b).length = b := by rw [List.length_take, fnL_len]; omega
  have l2 : (((fnL 24 f).drop a).take n).length = n := by rw [List.length_take, List.length_drop, fnL_len]; omega
  apply List.ext_getElem?
  intro i
  unfold bb_cp
  rw [List.getElem?_append, l1, List.getElem?_append, l2]
  by_cases c1 : i < b
  · rw [if_pos c1, List.getElem?_take, if_pos c1, fnL_at (by omega), fnL_at (by omega), pk_cpy_out (Or.inl c1)]
  · rw [if_neg c1]
    by_cases c2 : i - b < n
    · rw [if_pos c2, List.getElem?_take, if_pos c2, List.getElem?_drop, fnL_at (by omega), fnL_at (by omega), pk_cpy_in (by omega) (by omega)]
    · rw [if_neg c2, List.getElem?_drop, show b + n + (i - b - n) = i by omega]
      by_cases c3 : i < 24
      · rw [fnL_at c3, fnL_at c3, pk_cpy_out (by omega)]
      · rw [List.getElem?_eq_none (by rw [fnL_len]; omega), List.getElem?_eq_none (by rw [fnL_len]; omega)]
theorem cpy_ok {s k : St} {kf : Int32} {T : Tp} {X : Nat → Sh} {tr : Bn} {gu : Rl} {O : Od} {ch : Nat → Nat} {j1 j2 a b n : Nat} (hj1 : j1 < 4) (hj2 : j2 < 4) (h1 : a + n ≤ 24) (h2 : b + n ≤ 24) : bb_cpy (chp s k kf T X tr gu O ch) (100 + 2 * j1 + 1) (nI a) (100 + 2 * j2 + 1) (nI b) (nI n) = some (chp s k kf T (updN X j2 ((X j2).1, (X j2).2.1, (X j2).2.2.1, va_cpy (X j1).2.2.2 (X j2).2.2.2 a b n)) tr gu O ch) := by
  unfold bb_cpy
  rw [sh_it hj1, sh_it hj2]
  dsimp only
  rw [nI_clamp (show a < 2 ^ 31 by omega), nI_clamp (show b < 2 ^ 31 by omega), nI_clamp (show n < 2 ^ 31 by omega), fnL_len, fnL_len, if_pos ⟨rfl, rfl, nI_pos (by omega), nI_pos (by omega), nI_pos (by omega), h1, h2⟩, cp_fn h1 h2, sh_set hj2]
/-- the first t of the row to be moved -/
def cpM (f g : Nat → Int64) (o t : Nat) : Nat → Int64 := fun q => if q < t then f (o + q) else g q
theorem cpM_0 (f g : Nat → Int64) (o : Nat) : cpM f g o 0 = g := by funext q; exact if_neg (by omega)
theorem cpM_s (f g : Nat → Int64) (o t : Nat) : updN (cpM f g o t) t (f (o + t)) = cpM f g o (t + 1) := by
  funext q
  unfold updN cpM
  by_cases e : q = t
  · rw [if_pos e, if_pos (by omega), e]
  · rw [if_neg e]
    by_cases c : q < t
    · rw [if_pos c, if_pos (by omega)]
    · rw [if_neg c, if_neg (by omega)]
def cpT (f g : Nat → Int64) (o t : Nat) : Nat → Int64 := fun q => if o ≤ q ∧ q < o + t then f (q - o) else g q
theorem cpT_0 (f g : Nat → Int64) (o : Nat) : cpT f g o 0 = g := by funext q; exact if_neg (by omega)
theorem cpT_s (f g : Nat → Int64) (o t : Nat) : updN (cpT f g o t) (o + t) (f t) = cpT f g o (t + 1) := by
  funext q
  unfold updN cpT
  by_cases e : q = o + t
  · rw [if_pos e, if_pos (by omega), e, show o + t - o = t by omega]
  · rw [if_neg e]
    by_cases c : o ≤ q ∧ q < o + t
    · rw [if_pos c, if_pos (by omega)]
    · rw [if_neg c, if_neg (by omega)]
theorem ix24b (j a i : Nat) : (24 : Int32) * nI j + nI a + nI i = nI (24 * j + a + i) := by
  rw [ix24, nI_add]
section CPL
variable {S Le As Oo Im tp dr Sz Ln : Nat → Int32} {kp ty at_ : Int32} {It Mv : Nat → Int64}
theorem copyB_loop {j b n : Nat} (hj : j < 4) (hb : b + n ≤ 24) : ∀ (t i f : Nat), i + t = n → t < f → m_X8_copy_133 f 0 (nI j) (nI b) (nI n) (nI i) (mh S Le As Oo (Im, kp, tp, ty, dr, at_, cpT Mv It (24 * j + b) i, Mv, Sz, Ln)) = some (nI n, mh S Le As Oo (Im, kp, tp, ty, dr, at_, cpT Mv It (24 * j + b) n, Mv, Sz, Ln)) := by
  intro t
  induction t with
  | zero =>
    intro i f hi hf
    obtain ⟨f, rfl⟩ := fuel_s hf
    obtain rfl : i = n := by omega
    unfold m_X8_copy_133
    rw [if_pos (nI_le (Nat.le_refl _) (by omega))]
  | succ t ih =>
    intro i f hi hf
    obtain ⟨f, rfl⟩ := fuel_s hf
    unfold m_X8_copy_133
    rw [if_neg (nI_ge (by omega) (by omega)), g87, bsome, g88, bsome, rMv (by omega), bsome, ix24b, wIt (by omega), bsome, cpT_s, nI_1, ih (i + 1) f (by omega) (by omega)]
theorem copyA_loop {j1 j2 a b n : Nat} (hj1 : j1 < 4) (hj2 : j2 < 4) (ha : a + n ≤ 24) (hb : b + n ≤ 24) : ∀ (t i f : Nat), i + t = n → t < f → m_X8_copy_96 f 0 (nI j1) (nI a) (nI j2) (nI b) (nI n) (nI i) (mh S Le As Oo (Im, kp, tp, ty, dr, at_, It, cpM It Mv (24 * j1 + a) i, Sz, Ln)) = some (nI n, mh S Le As Oo (Im, kp, tp, ty, dr, at_, cpT (cpM It Mv (24 * j1 + a) n) It (24 * j2 + b) n, cpM It Mv (24 * j1 + a) n, Sz, Ln)) := by
  intro t
  induction t with
  | zero =>
    intro i f hi hf
    obtain ⟨f, rfl⟩ := fuel_s hf
    obtain rfl : i = n := by omega
    unfold m_X8_copy_96
    rw [if_pos (nI_le (Nat.le_refl _) (by omega))]
    have e := copyB_loop (S := S) (Le := Le) (As := As) (Oo := Oo) (Im := Im) (kp := kp) (tp := tp) (ty := ty) (dr := dr) (at_ := at_) (It := It) (Mv := cpM It Mv (24 * j1 + a) i) (Sz := Sz) (Ln := Ln) hj2 hb i 0 1000 (by omega) (by omega)
    rw [cpT_0] at e
    exact e
  | succ t ih =>
    intro i f hi hf
    obtain ⟨f, rfl⟩ := fuel_s hf
    unfold m_X8_copy_96
    rw [if_neg (nI_ge (by omega) (by omega)), g88, bsome, g87, bsome, ix24b, rIt (by omega), bsome, wMv (by omega), bsome, cpM_s, nI_1, ih (i + 1) f (by omega) (by omega)]
end CPL
theorem sim_copy_ok : sim_copy RR := by
  intro hX hM x1 x2 x3 x4 x5 h0
  have h1 := h0
  obtain ⟨s, k, kf, T, X, tr, gu, O, ch, S, Le, As, Oo, M, rfl, rfl, hS, hD⟩ := h1
  obtain ⟨Im, kp, tp, ty, dr, at_, It, Mv, Sz, Ln⟩ := M
  rcases inB_or x1 (lo := 0) (hi := 3) 0 3 rfl rfl (by decide) (by decide) with e1 | ⟨j, -, hj, rfl, e1⟩
  · refine ⟨-1, _, _, ?_, ?_, h0⟩
    · unfold m_X7_copy
      rw [isSheet_ok, bsome, e1]
      rfl
    · unfold m_X8_copy
      rw [isSheet8_ok, bsome, e1]
      rfl
  · rcases inB_or x3 (lo := 0) (hi := 3) 0 3 rfl rfl (by decide) (by decide) with e2 | ⟨q, -, hq, rfl, e2⟩
    · refine ⟨-1, _, _, ?_, ?_, h0⟩
      · unfold m_X7_copy
        rw [isSheet_ok, bsome, e1, if_neg one_ne, isSheet_ok, bsome, e2]
        rfl
      · unfold m_X8_copy
        rw [isSheet8_ok, bsome, e1, if_neg one_ne, isSheet8_ok, bsome, e2]
        rfl
    · have hj4 : j < 4 := by omega
      have hq4 : q < 4 := by omega
      have eX : m_X7_copy 0 (nI j) x2 (nI q) x4 x5 (chp s k kf T X tr gu O ch) = if (X j).1 = 0 then some (-11, chp s k kf T X tr gu O ch) else if (X q).1 = 0 then some (-11, chp s k kf T X tr gu O ch) else if (X j).2.1 = (X q).2.1 then (if spS (X j).2.2.1 x2 x5 = 0 then some (-13, chp s k kf T X tr gu O ch) else if spS (X q).2.2.1 x4 x5 = 0 then some (-13, chp s k kf T X tr gu O ch) else (bb_cpy (chp s k kf T X tr gu O ch) (100 + 2 * j + 1) x2 (100 + 2 * q + 1) x4 x5).bind fun g => some (x5, g)) else some (-12, chp s k kf T X tr gu O ch) := by
        unfold m_X7_copy m_X7_copy_48 m_X7_copy_90
        rw [isSheet_ok, bsome, e1, if_neg one_ne, isSheet_ok, bsome, e2, if_neg one_ne, c74, bsome, sh_ar hj4, bsome, bsome, sh_ar hq4, bsome, sh_g0 hj4, bsome, sh_g0 hq4, bsome, sh_g1 hj4, bsome, sh_g1 hq4, bsome, sh_rcv hj4, spans_ok hj4, bsome]
        dsimp only
        rw [sh_rcv hq4, spans_ok hq4, bsome]
        dsimp only
        rw [sh_g3 hj4, bsome, sh_g3 hq4, bsome]
      rw [eX]
      clear eX
      have hsj := hD.2.2.2 j hj4
      have hsq := hD.2.2.2 q hq4
      rcases hsj with ⟨a1, a2, a3, a4, a5⟩ | ⟨a1, a2⟩
      · have a2 : Sz j = nI (X j).2.2.1 := a2
        have a3 : Ln j = (X j).2.1 := a3
        rw [a1, if_neg one_ne]
        rcases hsq with ⟨b1, b2, b3, b4, b5⟩ | ⟨b1, b2⟩
        · have b2 : Sz q = nI (X q).2.2.1 := b2
          have b3 : Ln q = (X q).2.1 := b3
          rw [b1, if_neg one_ne]
          have eM : m_X8_copy 0 (nI j) x2 (nI q) x4 x5 (mh S Le As Oo (Im, kp, tp, ty, dr, at_, It, Mv, Sz, Ln)) = if rfS (X j) (X q).2.1 x2 x5 = 0 then (if rfS (X q) (X q).2.1 x4 x5 = 0 then m_X8_copy_96 1000 0 (nI j) x2 (nI q) x4 x5 0 (mh S Le As Oo (Im, kp, tp, ty, dr, at_, It, Mv, Sz, Ln)) else m_X8_copy_80 (rfS (X j) (X q).2.1 x2 x5) (rfS (X q) (X q).2.1 x4 x5) (mh S Le As Oo (Im, kp, tp, ty, dr, at_, It, Mv, Sz, Ln))) else m_X8_copy_80 (rfS (X j) (X q).2.1 x2 x5) (rfS (X q) (X q).2.1 x4 x5) (mh S Le As Oo (Im, kp, tp, ty, dr, at_, It, Mv, Sz, Ln)) := by
            unfold m_X8_copy
            rw [isSheet8_ok, bsome, e1, if_neg one_ne, isSheet8_ok, bsome, e2, if_neg one_ne, g89, bsome, rSz hj4, bsome, a2, if_neg (nI_pos (by omega)), bsome, rSz hq4, bsome, b2, if_pos (nI_pos' (by omega)), g8a, bsome, rLn hq4, bsome, b3, g8r, barred_ok hj4 (hD.2.2.2 j hj4), bsome]
            dsimp only
            rw [g8a, bsome, rLn hq4, bsome, b3, g8r, barred_ok hq4 (hD.2.2.2 q hq4), bsome]
          rw [eM]
          clear eM
          by_cases c : (X j).2.1 = (X q).2.1
          · rw [if_pos c]
            rcases spS_or a4 x2 x5 with z1 | ⟨a, n, rfl, rfl, z2, z1⟩
            · have r1 : rfS (X j) (X q).2.1 x2 x5 = -13 := by
                unfold rfS
                rw [a1, if_neg one_ne, if_pos c, if_pos z1]
              rw [if_pos z1, r1, if_neg (by decide)]
              exact ⟨-13, _, _, rfl, rfl, h0⟩
            · have r1 : rfS (X j) (X q).2.1 (nI a) (nI n) = 0 := by
                unfold rfS
                rw [a1, if_neg one_ne, if_pos c, z1, if_neg one_ne]
              rw [z1, if_neg one_ne, r1, if_pos rfl]
              rcases spS_or b4 x4 (nI n) with y1 | ⟨b, n2, rfl, hn2, y2, y1⟩
              · have r2 : rfS (X q) (X q).2.1 x4 (nI n) = -13 := by
                  unfold rfS
                  rw [b1, if_neg one_ne, if_pos rfl, if_pos y1]
                rw [if_pos y1, r2, if_neg (by decide)]
                exact ⟨-13, _, _, rfl, rfl, h0⟩
              · have r2 : rfS (X q) (X q).2.1 (nI b) (nI n) = 0 := by
                  unfold rfS
                  rw [b1, if_neg one_ne, if_pos rfl, y1, if_neg one_ne]
                obtain rfl : n = n2 := (nI_eq (by omega) (by omega)).mp hn2
                rw [y1, if_neg one_ne, r2, if_pos rfl, cpy_ok hj4 hq4 (by omega) (by omega), bsome]
                have e := copyA_loop (S := S) (Le := Le) (As := As) (Oo := Oo) (Im := Im) (kp := kp) (tp := tp) (ty := ty) (dr := dr) (at_ := at_) (It := It) (Mv := Mv) (Sz := Sz) (Ln := Ln) hj4 hq4 (a := a) (b := b) (n := n) (by omega) (by omega) n 0 1000 (by omega) (by omega)
                rw [cpM_0] at e
                refine ⟨nI n, _, _, rfl, e, RR_mk hS ⟨hD.1, hD.2.1, hD.2.2.1, ?_⟩⟩
                refine shR_upd hD.2.2.2 (Or.inl ⟨b1, b2, b3, b4, fun i hi => ?_⟩) (fun _ _ => rfl) (fun _ _ => rfl) (fun i hi => if_neg (by omega))
                have a5 : ∀ i, i < 24 → It (24 * j + i) = (X j).2.2.2 i := a5
                have b5 : ∀ i, i < 24 → It (24 * q + i) = (X q).2.2.2 i := b5
                show cpT (cpM It Mv (24 * j + a) n) It (24 * q + b) n (24 * q + i) = va_cpy (X j).2.2.2 (X q).2.2.2 a b n i
                unfold cpT cpM
                by_cases w : b ≤ i ∧ i < b + n
                · rw [if_pos (by omega), if_pos (by omega), pk_cpy_in w.1 w.2, ← a5 _ (by omega), show 24 * j + a + (24 * q + i - (24 * q + b)) = 24 * j + (a + (i - b)) by omega]
                · rw [if_neg (by omega), pk_cpy_out (by omega), b5 i hi]
          · have r1 : rfS (X j) (X q).2.1 x2 x5 = -12 := by
              unfold rfS
              rw [a1, if_neg one_ne, if_neg c]
            rw [if_neg c, r1, if_neg (by decide)]
            exact ⟨-12, _, _, rfl, rfl, h0⟩
        · have b2 : Sz q = -1 := b2
          rw [b1, if_pos rfl]
          refine ⟨-11, _, _, rfl, ?_, h0⟩
          unfold m_X8_copy
          rw [isSheet8_ok, bsome, e1, if_neg one_ne, isSheet8_ok, bsome, e2, if_neg one_ne, g89, bsome, rSz hj4, bsome, a2, if_neg (nI_pos (by omega)), bsome, rSz hq4, bsome, b2, if_neg (by decide)]
          rfl
      · have a2 : Sz j = -1 := a2
        rw [a1, if_pos rfl]
        refine ⟨-11, _, _, rfl, ?_, h0⟩
        unfold m_X8_copy
        rw [isSheet8_ok, bsome, e1, if_neg one_ne, isSheet8_ok, bsome, e2, if_neg one_ne, g89, bsome, rSz hj4, bsome, a2, if_pos (by decide)]
        rfl
