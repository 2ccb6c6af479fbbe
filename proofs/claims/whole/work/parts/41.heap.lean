/-! THE PURE SIDE: views of cells; arrays as functions of places -/
def fnI (n : Nat) (f : Nat → Int32) : List Value := (List.range n).map (fun i => Value.int (f i))
def fnL (n : Nat) (f : Nat → Int64) : List Value := (List.range n).map (fun i => Value.long (f i))
def updN {α : Type} (f : Nat → α) (k : Nat) (x : α) : Nat → α := fun j => if j = k then x else f j
theorem updN_s {α : Type} {f : Nat → α} {k : Nat} {x : α} : updN f k x k = x := if_pos rfl
theorem updN_n {α : Type} {f : Nat → α} {k j : Nat} {x : α} (h : j ≠ k) : updN f k x j = f j := if_neg h
theorem fnI_len (n : Nat) (f : Nat → Int32) : (fnI n f).length = n := by simp [fnI]
theorem fnL_len (n : Nat) (f : Nat → Int64) : (fnL n f).length = n := by simp [fnL]
theorem fnI_at {n k : Nat} {f : Nat → Int32} (h : k < n) : (fnI n f)[k]? = some (.int (f k)) := by simp [fnI, h]
theorem fnL_at {n k : Nat} {f : Nat → Int64} (h : k < n) : (fnL n f)[k]? = some (.long (f k)) := by simp [fnL, h]
theorem fnI_set (n k : Nat) (f : Nat → Int32) (x : Int32) : (fnI n f).set k (.int x) = fnI n (updN f k x) := by
  apply List.ext_getElem?
  intro j
  by_cases hj : j < n
  · by_cases e : j = k
    · subst e
      rw [List.getElem?_set_self (by rw [fnI_len]; exact hj), fnI_at hj, updN_s]
    · rw [List.getElem?_set_ne (fun q => e q.symm), fnI_at hj, fnI_at hj, updN_n e]
  · rw [List.getElem?_eq_none (by rw [List.length_set, fnI_len]; omega), List.getElem?_eq_none (by rw [fnI_len]; omega)]
theorem fnL_set (n k : Nat) (f : Nat → Int64) (x : Int64) : (fnL n f).set k (.long x) = fnL n (updN f k x) := by
  apply List.ext_getElem?
  intro j
  by_cases hj : j < n
  · by_cases e : j = k
    · subst e
      rw [List.getElem?_set_self (by rw [fnL_len]; exact hj), fnL_at hj, updN_s]
    · rw [List.getElem?_set_ne (fun q => e q.symm), fnL_at hj, fnL_at hj, updN_n e]
  · rw [List.getElem?_eq_none (by rw [List.length_set, fnL_len]; omega), List.getElem?_eq_none (by rw [fnL_len]; omega)]
theorem fnI_cong {n : Nat} {f g : Nat → Int32} (h : ∀ k, k < n → f k = g k) : fnI n f = fnI n g := by
  unfold fnI
  exact List.map_congr_left (fun k hk => by rw [h k (List.mem_range.mp hk)])
theorem fnL_cong {n : Nat} {f g : Nat → Int64} (h : ∀ k, k < n → f k = g k) : fnL n f = fnL n g := by
  unfold fnL
  exact List.map_congr_left (fun k hk => by rw [h k (List.mem_range.mp hk)])
theorem nI_nn {k : Nat} (h : k < 2 ^ 31) : ¬ nI k < 0 := nI_pos h
/-! reads and writes, given the cell -/
theorem gI_of {h : bb_H} {b ci k : Nat} {vs : List Value} {x : Int32} (h1 : h[b]? = some (.inr ci, vs)) (h2 : vs[k]? = some (.int x)) : bb_gI h b ci k = some x := by
  unfold bb_gI
  rw [h1]
  simp [h2]
theorem gR_of {h : bb_H} {b ci k : Nat} {vs : List Value} {x : Nat} (h1 : h[b]? = some (.inr ci, vs)) (h2 : vs[k]? = some (.ref x)) : bb_gR h b ci k = some x := by
  unfold bb_gR
  rw [h1]
  simp [h2]
theorem pI_of {h : bb_H} {b ci k : Nat} {vs : List Value} {x : Int32} (h1 : h[b]? = some (.inr ci, vs)) (h2 : k < vs.length) : bb_pI h b ci k x = some (h.set b (.inr ci, vs.set k (.int x))) := by
  unfold bb_pI
  rw [h1]
  simp [h2]
theorem pZ_of {h : bb_H} {b ci k : Nat} {vs : List Value} {x : Int32} (hx : x = 0 ∨ x = 1) (h1 : h[b]? = some (.inr ci, vs)) (h2 : k < vs.length) : bb_pZ h b ci k x = some (h.set b (.inr ci, vs.set k (.int x))) := by
  unfold bb_pZ
  rw [if_pos hx]
  exact pI_of h1 h2
theorem rcv_of {α : Type} {h : bb_H} {b ci : Nat} {vs : List Value} {x : Option α} (h1 : h[b]? = some (.inr ci, vs)) : bb_rcv h b ci x = x := by
  unfold bb_rcv bb_is
  rw [h1]
  simp
theorem aI_of {h : bb_H} {a n k : Nat} {ty : FieldType} {f : Nat → Int32} (h1 : h[a]? = some (.inl ty, fnI n f)) (hk : k < n) (hn : n ≤ 1000) : bb_aI h a ty (nI k) = some (f k) := by
  unfold bb_aI
  rw [h1]
  have e1 : ¬ nI k < 0 := nI_pos (by omega)
  simp [e1, nI_clamp (show k < 2 ^ 31 by omega), fnI_at hk]
theorem aL_of {h : bb_H} {a n k : Nat} {f : Nat → Int64} (h1 : h[a]? = some (.inl .long, fnL n f)) (hk : k < n) (hn : n ≤ 1000) : bb_aL h a (nI k) = some (f k) := by
  unfold bb_aL
  rw [h1]
  have e1 : ¬ nI k < 0 := nI_pos (by omega)
  simp [e1, nI_clamp (show k < 2 ^ 31 by omega), fnL_at hk]
theorem aR_of {h : bb_H} {a k : Nat} {ty : FieldType} {vs : List Value} {x : Nat} (h1 : h[a]? = some (.inl ty, vs)) (hk : k ≤ 1000) (hv : vs[k]? = some (.ref x)) : bb_aR h a ty (nI k) = some x := by
  unfold bb_aR
  rw [h1]
  have e1 : ¬ nI k < 0 := nI_pos (by omega)
  simp [e1, nI_clamp (show k < 2 ^ 31 by omega), hv]
theorem sI_of {h : bb_H} {a n k : Nat} {ty : FieldType} {f : Nat → Int32} {x : Int32} (h1 : h[a]? = some (.inl ty, fnI n f)) (hk : k < n) (hn : n ≤ 1000) : bb_sV h a ty (nI k) (.int x) = some (h.set a (.inl ty, fnI n (updN f k x))) := by
  unfold bb_sV
  rw [h1]
  have e1 : ¬ nI k < 0 := nI_pos (by omega)
  simp [e1, nI_clamp (show k < 2 ^ 31 by omega), fnI_len, hk, fnI_set]
theorem sL_of {h : bb_H} {a n k : Nat} {f : Nat → Int64} {x : Int64} (h1 : h[a]? = some (.inl .long, fnL n f)) (hk : k < n) (hn : n ≤ 1000) : bb_sV h a .long (nI k) (.long x) = some (h.set a (.inl .long, fnL n (updN f k x))) := by
  unfold bb_sV
  rw [h1]
  have e1 : ¬ nI k < 0 := nI_pos (by omega)
  simp [e1, nI_clamp (show k < 2 ^ 31 by omega), fnL_len, hk, fnL_set]
theorem bsome {α β : Type} (a : α) (f : α → Option β) : (some a).bind f = f a := rfl
theorem nI_lit (n : Nat) : (OfNat.ofNat n : Int32) = nI n := rfl
theorem rz_0 (h : bb_H) : bb_rz 0 h = some (0, h) := rfl
theorem rz_1 (h : bb_H) : bb_rz 1 h = some (1, h) := rfl
theorem nI_le' {a b : Nat} (ha : a < 2 ^ 31) (hb : b < 2 ^ 31) : (nI a ≤ nI b) = (a ≤ b) := propext (nI_leI ha hb)
theorem nI_lt' {a b : Nat} (ha : a < 2 ^ 31) (hb : b < 2 ^ 31) : (nI a < nI b) = (a < b) := propext (nI_ltI ha hb)
theorem nI_eq' {a b : Nat} (ha : a < 2 ^ 31) (hb : b < 2 ^ 31) : (nI a = nI b) = (a = b) := propext (nI_eq ha hb)
theorem ite_e {α : Type} {a b : Nat} (ha : a < 2 ^ 31) (hb : b < 2 ^ 31) (x y : α) : (if nI a = nI b then x else y) = if a = b then x else y := by
  by_cases q : a = b
  · rw [if_pos q, if_pos ((nI_eq ha hb).mpr q)]
  · rw [if_neg q, if_neg (fun z => q ((nI_eq ha hb).mp z))]
theorem ite_le {α : Type} {a b : Nat} (ha : a < 2 ^ 31) (hb : b < 2 ^ 31) (x y : α) : (if nI a ≤ nI b then x else y) = if a ≤ b then x else y := by
  by_cases q : a ≤ b
  · rw [if_pos q, if_pos ((nI_leI ha hb).mpr q)]
  · rw [if_neg q, if_neg (fun z => q ((nI_leI ha hb).mp z))]
theorem ite_lt {α : Type} {a b : Nat} (ha : a < 2 ^ 31) (hb : b < 2 ^ 31) (x y : α) : (if nI a < nI b then x else y) = if a < b then x else y := by
  by_cases q : a < b
  · rw [if_pos q, if_pos ((nI_ltI ha hb).mpr q)]
  · rw [if_neg q, if_neg (fun z => q ((nI_ltI ha hb).mp z))]
theorem Lge {j : Nat} (c : Nat) (h : j < c) (hc : c < 2 ^ 31) : ¬ nI c ≤ nI j := nI_ge h hc
theorem nI_neg_ne {a b : Nat} (ha : a < 2 ^ 31) (hb : 0 < b) (hb2 : b < 2 ^ 31) : ¬ nI a = -nI b := fun e => by
  have h1 := congrArg Int32.toInt e
  rw [nI_toInt ha, sb_negT hb2] at h1
  omega
