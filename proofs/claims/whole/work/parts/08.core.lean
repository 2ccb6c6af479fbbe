/-! MINI HEAPS. A cell: an array of a type, or an object of the class of a number, and what it holds; a reference is a cell's place in the list. -/
abbrev bb_C : Type := (FieldType ⊕ Nat) × List Value
abbrev bb_H : Type := List bb_C
def bb_cv (ad : Nat → Nat) (v : Value) : Value := match v with
  | .ref i => .ref (ad i)
  | v => v
def bb_toI (v : Value) : Int32 := match v with
  | .int x => x
  | _ => 0
def bb_toL (v : Value) : Int64 := match v with
  | .long x => x
  | _ => 0
def bb_toR (ad : Nat → Nat) (v : Value) : Option Nat := match v with
  | .ref i => some (ad i)
  | _ => none
def bb_arr (ad : Nat → Nat) (ty : FieldType) (vs : List Value) : vp_A := match ty with
  | .long => (vs.length, .inr (.inl (fun j => bb_toL (vs.getD j .null))))
  | .object _ => (vs.length, .inr (.inr (.inr (.inr (fun j => bb_toR ad (vs.getD j .null))))))
  | .array _ => (vs.length, .inr (.inr (.inr (.inr (fun j => bb_toR ad (vs.getD j .null))))))
  | _ => (vs.length, .inl (fun j => bb_toI (vs.getD j .null)))
def bb_e (ad : Nat → Nat) (cA : FieldType → ClassId) (c : bb_C) : va_E := match c.1 with
  | .inl ty => .inl (cA ty, bb_arr ad ty c.2)
  | .inr ci => .inr (ci, c.2.map (bb_cv ad))
def bb_ws (ad : Nat → Nat) (cA : FieldType → ClassId) : Nat → bb_H → va_W
  | _, [] => []
  | i, c :: h => (ad i, bb_e ad cA c) :: bb_ws ad cA (i + 1) h
theorem bb_ws_at {ad : Nat → Nat} {cA : FieldType → ClassId} : ∀ {h : bb_H} {i k : Nat} {c : bb_C}, h[k]? = some c → (bb_ws ad cA i h)[k]? = some (ad (i + k), bb_e ad cA c)
  | [], _, _, _, e => by simp at e
  | d :: h, i, 0, c, e => by
    rw [List.getElem?_cons_zero] at e
    cases e
    rfl
  | d :: h, i, k + 1, c, e => by
    rw [List.getElem?_cons_succ] at e
    have h1 := bb_ws_at (ad := ad) (cA := cA) (i := i + 1) e
    rw [show i + 1 + k = i + (k + 1) by omega] at h1
    show ((ad i, bb_e ad cA d) :: bb_ws ad cA (i + 1) h)[k + 1]? = _
    rw [List.getElem?_cons_succ]
    exact h1
theorem bb_ws_0 {ad : Nat → Nat} {cA : FieldType → ClassId} {h : bb_H} {k : Nat} {c : bb_C} (e : h[k]? = some c) : (bb_ws ad cA 0 h)[k]? = some (ad k, bb_e ad cA c) := by
  have h1 := bb_ws_at (ad := ad) (cA := cA) (i := 0) e
  rwa [Nat.zero_add] at h1
theorem bb_ws_set {ad : Nat → Nat} {cA : FieldType → ClassId} {c : bb_C} : ∀ {h : bb_H} {i k : Nat}, (bb_ws ad cA i h).set k (ad (i + k), bb_e ad cA c) = bb_ws ad cA i (h.set k c)
  | [], _, _ => rfl
  | d :: h, i, 0 => rfl
  | d :: h, i, k + 1 => by
    have h1 := bb_ws_set (ad := ad) (cA := cA) (c := c) (h := h) (i := i + 1) (k := k)
    rw [show i + 1 + k = i + (k + 1) by omega] at h1
    show (ad i, bb_e ad cA d) :: (bb_ws ad cA (i + 1) h).set k _ = (ad i, bb_e ad cA d) :: bb_ws ad cA (i + 1) (h.set k c)
    rw [h1]
theorem bb_ws_set0 {ad : Nat → Nat} {cA : FieldType → ClassId} {c : bb_C} {h : bb_H} {k : Nat} : (bb_ws ad cA 0 h).set k (ad k, bb_e ad cA c) = bb_ws ad cA 0 (h.set k c) := by
  have h1 := bb_ws_set (ad := ad) (cA := cA) (c := c) (h := h) (i := 0) (k := k)
  rwa [Nat.zero_add] at h1
/-! what the pure side reads and writes -/
def bb_gI (h : bb_H) (b ci k : Nat) : Option Int32 := match h[b]? with
  | some (.inr c, vs) => if c = ci then (match vs[k]? with | some (.int x) => some x | _ => none) else none
  | _ => none
def bb_gR (h : bb_H) (b ci k : Nat) : Option Nat := match h[b]? with
  | some (.inr c, vs) => if c = ci then (match vs[k]? with | some (.ref x) => some x | _ => none) else none
  | _ => none
def bb_pI (h : bb_H) (b ci k : Nat) (x : Int32) : Option bb_H := match h[b]? with
  | some (.inr c, vs) => if c = ci ∧ k < vs.length then some (h.set b (.inr c, vs.set k (.int x))) else none
  | _ => none
def bb_pZ (h : bb_H) (b ci k : Nat) (x : Int32) : Option bb_H := if x = 0 ∨ x = 1 then bb_pI h b ci k x else none
def bb_aI (h : bb_H) (a : Nat) (ty : FieldType) (i : Int32) : Option Int32 := match h[a]? with
  | some (.inl t, vs) => if t = ty ∧ ¬ i < 0 then (match vs[i.toNatClampNeg]? with | some (.int x) => some x | _ => none) else none
  | _ => none
def bb_aL (h : bb_H) (a : Nat) (i : Int32) : Option Int64 := match h[a]? with
  | some (.inl t, vs) => if t = .long ∧ ¬ i < 0 then (match vs[i.toNatClampNeg]? with | some (.long x) => some x | _ => none) else none
  | _ => none
def bb_aR (h : bb_H) (a : Nat) (ty : FieldType) (i : Int32) : Option Nat := match h[a]? with
  | some (.inl t, vs) => if t = ty ∧ ¬ i < 0 then (match vs[i.toNatClampNeg]? with | some (.ref x) => some x | _ => none) else none
  | _ => none
def bb_sV (h : bb_H) (a : Nat) (ty : FieldType) (i : Int32) (v : Value) : Option bb_H := match h[a]? with
  | some (.inl t, vs) => if t = ty ∧ ¬ i < 0 ∧ i.toNatClampNeg < vs.length then some (h.set a (.inl t, vs.set i.toNatClampNeg v)) else none
  | _ => none
/-- is the cell an object of the class of this number -/
def bb_is (h : bb_H) (b ci : Nat) : Bool := match h[b]? with
  | some (.inr c, _) => c == ci
  | _ => false
theorem bb_gI_spec {h : bb_H} {b ci k : Nat} {x : Int32} (e : bb_gI h b ci k = some x) : ∃ vs, h[b]? = some (.inr ci, vs) ∧ vs[k]? = some (.int x) := by
  unfold bb_gI at e
  split at e
  · rename_i c vs hb
    split at e
    · rename_i hc
      subst hc
      split at e
      · rename_i y hy
        cases e
        exact ⟨vs, hb, hy⟩
      · cases e
    · cases e
  · cases e
theorem bb_gR_spec {h : bb_H} {b ci k : Nat} {x : Nat} (e : bb_gR h b ci k = some x) : ∃ vs, h[b]? = some (.inr ci, vs) ∧ vs[k]? = some (.ref x) := by
  unfold bb_gR at e
  split at e
  · rename_i c vs hb
    split at e
    · rename_i hc
      subst hc
      split at e
      · rename_i y hy
        cases e
        exact ⟨vs, hb, hy⟩
      · cases e
    · cases e
  · cases e
theorem bb_pI_spec {h h' : bb_H} {b ci k : Nat} {x : Int32} (e : bb_pI h b ci k x = some h') : ∃ vs, h[b]? = some (.inr ci, vs) ∧ k < vs.length ∧ h' = h.set b (.inr ci, vs.set k (.int x)) := by
  unfold bb_pI at e
  split at e
  · rename_i c vs hb
    split at e
    · rename_i hc
      obtain ⟨hc, hk⟩ := hc
      subst hc
      cases e
      exact ⟨vs, hb, hk, rfl⟩
    · cases e
  · cases e
theorem bb_pZ_spec {h h' : bb_H} {b ci k : Nat} {x : Int32} (e : bb_pZ h b ci k x = some h') : (x = 0 ∨ x = 1) ∧ bb_pI h b ci k x = some h' := by
  unfold bb_pZ at e
  split at e
  · rename_i hx
    exact ⟨hx, e⟩
  · cases e
theorem bb_aI_spec {h : bb_H} {a : Nat} {ty : FieldType} {i x : Int32} (e : bb_aI h a ty i = some x) : ∃ vs, h[a]? = some (.inl ty, vs) ∧ ¬ i < 0 ∧ vs[i.toNatClampNeg]? = some (.int x) := by
  unfold bb_aI at e
  split at e
  · rename_i t vs hb
    split at e
    · rename_i hc
      obtain ⟨hc, hi⟩ := hc
      subst hc
      split at e
      · rename_i y hy
        cases e
        exact ⟨vs, hb, hi, hy⟩
      · cases e
    · cases e
  · cases e
theorem bb_aL_spec {h : bb_H} {a : Nat} {i : Int32} {x : Int64} (e : bb_aL h a i = some x) : ∃ vs, h[a]? = some (.inl .long, vs) ∧ ¬ i < 0 ∧ vs[i.toNatClampNeg]? = some (.long x) := by
  unfold bb_aL at e
  split at e
  · rename_i t vs hb
    split at e
    · rename_i hc
      obtain ⟨hc, hi⟩ := hc
      subst hc
      split at e
      · rename_i y hy
        cases e
        exact ⟨vs, hb, hi, hy⟩
      · cases e
    · cases e
  · cases e
theorem bb_aR_spec {h : bb_H} {a : Nat} {ty : FieldType} {i : Int32} {x : Nat} (e : bb_aR h a ty i = some x) : ∃ vs, h[a]? = some (.inl ty, vs) ∧ ¬ i < 0 ∧ vs[i.toNatClampNeg]? = some (.ref x) := by
  unfold bb_aR at e
  split at e
  · rename_i t vs hb
    split at e
    · rename_i hc
      obtain ⟨hc, hi⟩ := hc
      subst hc
      split at e
      · rename_i y hy
        cases e
        exact ⟨vs, hb, hi, hy⟩
      · cases e
    · cases e
  · cases e
theorem bb_sV_spec {h h' : bb_H} {a : Nat} {ty : FieldType} {i : Int32} {v : Value} (e : bb_sV h a ty i v = some h') : ∃ vs, h[a]? = some (.inl ty, vs) ∧ ¬ i < 0 ∧ i.toNatClampNeg < vs.length ∧ h' = h.set a (.inl ty, vs.set i.toNatClampNeg v) := by
  unfold bb_sV at e
  split at e
  · rename_i t vs hb
    split at e
    · rename_i hc
      obtain ⟨hc, hi, hl⟩ := hc
      subst hc
      cases e
      exact ⟨vs, hb, hi, hl, rfl⟩
    · cases e
  · cases e
theorem bb_is_spec {h : bb_H} {b ci : Nat} (e : bb_is h b ci = true) : ∃ vs, h[b]? = some (.inr ci, vs) := by
  unfold bb_is at e
  split at e
  · rename_i c vs hb
    rw [beq_iff_eq] at e
    subst e
    exact ⟨vs, hb⟩
  · cases e
theorem bb_nth {vs : List Value} {j : Nat} {v : Value} (e : vs[j]? = some v) : vs.getD j .null = v ∧ j < vs.length := by
  refine ⟨?_, (List.getElem?_eq_some_iff.mp e).1⟩
  rw [List.getD_eq_getElem?_getD, e]
  rfl
theorem bb_setf {α : Type} {vs : List Value} {j : Nat} {v : Value} (g : Value → α) (hj : j < vs.length) : (fun k => if k = j then g v else g (vs.getD k .null)) = fun k => g ((vs.set j v).getD k .null) := by
  funext k
  by_cases e : k = j
  · subst e
    rw [if_pos rfl, List.getD_eq_getElem?_getD, List.getElem?_set_self hj]
    rfl
  · rw [if_neg e, List.getD_eq_getElem?_getD, List.getD_eq_getElem?_getD, List.getElem?_set_ne (fun q => e q.symm)]
