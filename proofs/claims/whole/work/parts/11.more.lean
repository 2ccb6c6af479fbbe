/-! the JDK's small helpers, and what the pure side is written with -/
theorem bb_bind {α β : Type} {x : Option α} {f : α → Option β} {r : β} (h : x.bind f = some r) : ∃ a, x = some a ∧ f a = some r := Option.bind_eq_some_iff.mp h
def bb_rcv {α : Type} (h : bb_H) (b ci : Nat) (x : Option α) : Option α := if bb_is h b ci = true then x else none
theorem bb_rcv_spec {α : Type} {h : bb_H} {b ci : Nat} {x : Option α} {r : α} (e : bb_rcv h b ci x = some r) : (∃ vs, h[b]? = some (.inr ci, vs)) ∧ x = some r := by
  unfold bb_rcv at e
  split at e
  · rename_i hb
    exact ⟨bb_is_spec hb, e⟩
  · cases e
def bb_rz (v : Int32) (h : bb_H) : Option (Int32 × bb_H) := if v = 0 ∨ v = 1 then some (v, h) else none
theorem bb_rz_spec {v : Int32} {h : bb_H} {r : Int32 × bb_H} (e : bb_rz v h = some r) : narrow .boolean (.int v) = .int v ∧ (v, h) = r := by
  unfold bb_rz at e
  split at e
  · rename_i hv
    exact ⟨(bb_nz hv).1, Option.some.inj e⟩
  · cases e
def bb_rc (v : Int32) (h : bb_H) : Option (Int32 × bb_H) := if narrow .char (.int v) = .int v then some (v, h) else none
theorem bb_rc_spec {v : Int32} {h : bb_H} {r : Int32 × bb_H} (e : bb_rc v h = some r) : narrow .char (.int v) = .int v ∧ (v, h) = r := by
  unfold bb_rc at e
  split at e
  · rename_i hv
    exact ⟨hv, Option.some.inj e⟩
  · cases e
def bb_max (x y : Int32) : Int32 := if x < y then y else x
def bb_min (x y : Int32) : Int32 := if y < x then y else x
def bb_im (own : String) (ix : Nat) : Prop := Cond.methodLink own ix Lib.Math.max.name ∈ bb_good ∧ Cond.static Lib.Math.max.name ∈ bb_good ∧ Cond.initialized "java/lang/Math" ∈ bb_good ∧ Cond.code Lib.Math.max.name Lib.Math.max.code 2 (some .int) ∈ bb_good
def bb_in2 (own : String) (ix : Nat) : Prop := Cond.methodLink own ix Lib.Math.min.name ∈ bb_good ∧ Cond.static Lib.Math.min.name ∈ bb_good ∧ Cond.initialized "java/lang/Math" ∈ bb_good ∧ Cond.code Lib.Math.min.name Lib.Math.min.code 2 (some .int) ∈ bb_good
section BBM
variable {own : String} {cc : ByteArray} {nL : Nat} {ret : Option FieldType} {rm : Room} {o : Option Value × bb_H} {pc : Nat} {L st : List Value} {h : bb_H}
theorem bb_mmax {ix : Nat} {x y : Int32} (hs : bb_im own ix) (hf : 1 ≤ rm.frames) (hl : 21 ≤ rm.locals) (hrest : (st.map fun v => v.category).sum ≤ 8) (hd : decode cc pc = .ok (.invokestatic ix, 3)) (k : bb_J own cc nL ret rm o (pc + 3) L (.int (bb_max x y) :: st) h) : bb_J own cc nL ret rm o pc L (.int y :: .int x :: st) h := by
  intro p l e s m args below meth c D cA A ad H locs ls hX hY hL
  have hg := hX.2.2.2.2.1
  exact va_mmax hX.1 hX.2.1 (hX.2.2.1.trans hL.1.symm) hX.2.2.2.1 (hg _ hs.1) (hg _ hs.2.1) (hg _ hs.2.2.1) (hg _ hs.2.2.2) hf (by rw [bb_sum]; omega) (Nat.zero_le _) (Nat.zero_le _) hd (k p l e s m args below meth c D cA A ad H locs ls hX hY hL)
theorem bb_mmin {ix : Nat} {x y : Int32} (hs : bb_in2 own ix) (hf : 1 ≤ rm.frames) (hl : 21 ≤ rm.locals) (hrest : (st.map fun v => v.category).sum ≤ 8) (hd : decode cc pc = .ok (.invokestatic ix, 3)) (k : bb_J own cc nL ret rm o (pc + 3) L (.int (bb_min x y) :: st) h) : bb_J own cc nL ret rm o pc L (.int y :: .int x :: st) h := by
  intro p l e s m args below meth c D cA A ad H locs ls hX hY hL
  have hg := hX.2.2.2.2.1
  exact va_mmin hX.1 hX.2.1 (hX.2.2.1.trans hL.1.symm) hX.2.2.2.1 (hg _ hs.1) (hg _ hs.2.1) (hg _ hs.2.2.1) (hg _ hs.2.2.2) hf (by rw [bb_sum]; omega) (Nat.zero_le _) (Nat.zero_le _) hd (k p l e s m args below meth c D cA A ad H locs ls hX hY hL)
end BBM
theorem bb_u0 : ∀ w ∈ u_ws RX0 TX0 5, w ∈ bb_good := by decide +kernel
theorem bb_u1 : ∀ w ∈ u_ws RX1 TX1 3, w ∈ bb_good := by decide +kernel
theorem bb_u2 : ∀ w ∈ u_ws RX2 TX2 3, w ∈ bb_good := by decide +kernel
theorem bb_u3 : ∀ w ∈ u_ws RX3 TX3 4, w ∈ bb_good := by decide +kernel
theorem bb_u4 : ∀ w ∈ u_ws RX4 TX4 4, w ∈ bb_good := by decide +kernel
theorem bb_u5 : ∀ w ∈ u_ws RX5 TX5 3, w ∈ bb_good := by decide +kernel
theorem bb_u6 : ∀ w ∈ u_ws RX6 TX6 6, w ∈ bb_good := by decide +kernel
theorem bb_u7 : ∀ w ∈ u_ws RX7 TX7 9, w ∈ bb_good := by decide +kernel
theorem bb_u8 : ∀ w ∈ u_ws RX8 TX8 14, w ∈ bb_good := by decide +kernel
/-! System.arraycopy of longs -/
def bb_cp (vs ws : List Value) (sp dp n : Nat) : List Value := ws.take dp ++ ((vs.drop sp).take n ++ ws.drop (dp + n))
def bb_cpy (h : bb_H) (a0 : Nat) (sp : Int32) (a : Nat) (dp n : Int32) : Option bb_H := match h[a0]?, h[a]? with
  | some (.inl t, vs), some (.inl u, ws) => if t = .long ∧ u = .long ∧ ¬ sp < 0 ∧ ¬ dp < 0 ∧ ¬ n < 0 ∧ sp.toNatClampNeg + n.toNatClampNeg ≤ vs.length ∧ dp.toNatClampNeg + n.toNatClampNeg ≤ ws.length then some (h.set a (.inl .long, bb_cp vs ws sp.toNatClampNeg dp.toNatClampNeg n.toNatClampNeg)) else none
  | _, _ => none
theorem bb_cpy_spec {h h' : bb_H} {a0 a : Nat} {sp dp n : Int32} (e : bb_cpy h a0 sp a dp n = some h') : ∃ vs ws, h[a0]? = some (.inl .long, vs) ∧ h[a]? = some (.inl .long, ws) ∧ ¬ sp < 0 ∧ ¬ dp < 0 ∧ ¬ n < 0 ∧ sp.toNatClampNeg + n.toNatClampNeg ≤ vs.length ∧ dp.toNatClampNeg + n.toNatClampNeg ≤ ws.length ∧ h' = h.set a (.inl .long, bb_cp vs ws sp.toNatClampNeg dp.toNatClampNeg n.toNatClampNeg) := by
  unfold bb_cpy at e
  split at e
  · rename_i t vs u ws h1 h2
    split at e
    · rename_i hc
      obtain ⟨rfl, rfl, q1, q2, q3, q4, q5⟩ := hc
      cases e
      exact ⟨vs, ws, h1, h2, q1, q2, q3, q4, q5, rfl⟩
    · cases e
  · cases e
theorem bb_cp_len {vs ws : List Value} {sp dp n : Nat} (h1 : sp + n ≤ vs.length) (h2 : dp + n ≤ ws.length) : (bb_cp vs ws sp dp n).length = ws.length := by
  unfold bb_cp
  simp only [List.length_append, List.length_take, List.length_drop]
  omega
theorem bb_cp_at {vs ws : List Value} {sp dp n : Nat} (h1 : sp + n ≤ vs.length) (h2 : dp + n ≤ ws.length) (k : Nat) : (bb_cp vs ws sp dp n)[k]? = if dp ≤ k ∧ k < dp + n then vs[sp + (k - dp)]? else ws[k]? := by
  unfold bb_cp
  by_cases c1 : k < dp
  · rw [List.getElem?_append_left (by rw [List.length_take]; omega), List.getElem?_take_of_lt c1, if_neg (by omega)]
  · rw [List.getElem?_append_right (by rw [List.length_take]; omega), List.length_take, show k - min dp ws.length = k - dp by omega]
    by_cases c2 : k < dp + n
    · rw [List.getElem?_append_left (by rw [List.length_take, List.length_drop]; omega), List.getElem?_take_of_lt (by omega), List.getElem?_drop, if_pos (by omega)]
    · rw [List.getElem?_append_right (by rw [List.length_take, List.length_drop]; omega), List.length_take, List.length_drop, List.getElem?_drop, if_neg (by omega)]
      congr 1
      omega
def bb_iac (own : String) (ix : Nat) : Prop := Cond.methodLink own ix arraycopyName ∈ bb_good ∧ Cond.native arraycopyName ∈ bb_good ∧ Cond.static arraycopyName ∈ bb_good ∧ Cond.initialized "java/lang/System" ∈ bb_good
theorem bb_acopy {own : String} {cc : ByteArray} {nL : Nat} {ret : Option FieldType} {rm : Room} {o : Option Value × bb_H} {pc : Nat} {L : List Value} {h : bb_H} {ix a0 a : Nat} {sp dp n : Int32} {h' : bb_H} (hs : bb_iac own ix) (hf : 1 ≤ rm.frames) (hl : nativeFrameWords "java/lang/System" "arraycopy" 5 + 11 ≤ rm.locals) (hd : decode cc pc = .ok (.invokestatic ix, 3)) (hc : bb_cpy h a0 sp a dp n = some h') (kk : bb_J own cc nL ret rm o (pc + 3) L [] h') : bb_J own cc nL ret rm o pc L [.int n, .int dp, .ref a, .int sp, .ref a0] h := by
  intro p l e s m args below meth c D cA A ad H locs ls hX hY hL
  obtain ⟨vs, ws, h1, h2, q1, q2, q3, q4, q5, rfl⟩ := bb_cpy_spec hc
  obtain ⟨hP, hD, hS⟩ := hY
  have hg := hX.2.2.2.2.1
  refine va_copyl (rest := []) hX.1 hX.2.1 (hX.2.2.1.trans hL.1.symm) hX.2.2.2.1 (hg _ hs.1) (hg _ hs.2.1) (hg _ hs.2.2.1) (hg _ hs.2.2.2) hX.2.2.2.2.2.2.2.1.1 hP hD hS a0 a 2 2 (ty := .long) (bb_ws_0 h1) (bb_ws_0 h2) rfl rfl rfl q1 q2 q3 q4 q5 (fun _ _ => rfl) hf (by show 0 + _ ≤ _; omega) hd (fun H1 locs1 hP1 hD1 hS1 => ?_)
  have e0 : va_cpy (fun j => bb_toL (vs.getD j .null)) (fun j => bb_toL (ws.getD j .null)) sp.toNatClampNeg dp.toNatClampNeg n.toNatClampNeg = fun k => bb_toL ((bb_cp vs ws sp.toNatClampNeg dp.toNatClampNeg n.toNatClampNeg).getD k .null) := by
    funext k
    unfold va_cpy
    simp only [List.getD_eq_getElem?_getD, bb_cp_at q4 q5]
    split <;> rfl
  have e3 : ((cA .long, ws.length, .inr (.inl (va_cpy (fun j => bb_toL (vs.getD j .null)) (fun j => bb_toL (ws.getD j .null)) sp.toNatClampNeg dp.toNatClampNeg n.toNatClampNeg))) : ClassId × vp_A) = (cA .long, bb_arr ad .long (bb_cp vs ws sp.toNatClampNeg dp.toNatClampNeg n.toNatClampNeg)) := by rw [e0]; show _ = (cA .long, ((bb_cp vs ws sp.toNatClampNeg dp.toNatClampNeg n.toNatClampNeg).length, _)); rw [bb_cp_len q4 q5]
  rw [e3] at hP1 hD1
  have e2 := bb_ws_set0 (ad := ad) (cA := cA) (c := ((.inl .long, bb_cp vs ws sp.toNatClampNeg dp.toNatClampNeg n.toNatClampNeg) : bb_C)) (h := h) (k := a)
  exact kk p l e s m args below meth c D cA A ad H1 locs1 ls hX ⟨by rw [← e2]; exact hP1, by rw [← e2]; exact hD1, hS1⟩ hL
/-! the one String constant -/
theorem bb_ldcS {cc : ByteArray} {nL : Nat} {ret : Option FieldType} {rm : Room} {o : Option Value × bb_H} {pc : Nat} {L st : List Value} {h : bb_H} (hd : decode cc pc = .ok (.ldc 49, 2)) (k : bb_J RX6 cc nL ret rm o (pc + 2) L (.ref bb_qs :: st) h) : bb_J RX6 cc nL ret rm o pc L st h := by
  intro p l e s m args below meth c D cA A ad H locs ls hX hY hL
  exact va_ldcS hX.1 hX.2.1 hX.2.2.2.1 hX.2.2.2.2.2.2.2.1.2.2 hd (k p l e s m args below meth c D cA A ad H locs ls hX hY hL)
def bb_kix (x : Int32) : Int32 := if x = 112 then 0 else if x = 104 then 1 else if x = 117 then 2 else if x = 100 then 3 else if x = 114 then 4 else -1
