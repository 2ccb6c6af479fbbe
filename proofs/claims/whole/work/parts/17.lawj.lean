/-! THE LAW'S OWN JUDGEMENT: two systems side by side, the script, the count. On the stack .ref 0 is the script, .ref 1 the class's object, .ref 2 the reference's. -/
def bl_cv (b x1 x2 : Nat) (v : Value) : Value := match v with
  | .ref 0 => .ref b
  | .ref 1 => .ref x1
  | .ref _ => .ref x2
  | v => v
theorem bl_cat (b x1 x2 : Nat) (v : Value) : (bl_cv b x1 x2 v).category = v.category := by
  unfold bl_cv
  split <;> rfl
theorem bl_sum (b x1 x2 : Nat) (st : List Value) : ((st.map (bl_cv b x1 x2)).map fun v => v.category).sum = (st.map fun v => v.category).sum := by
  rw [List.map_map]
  congr 1
  apply List.map_congr_left
  intro v _
  exact bl_cat b x1 x2 v
abbrev bl_A (s : State) : Nat → Prop := fun q => s.heap.size ≤ q
def bl_Y (s : State) (D : va_G) (cA : FieldType → ClassId) (adX adM : Nat → Nat) (hX hM : bb_H) (H : Heap) (locs : List Loc) : Prop := va_P D vwCl (bb_ws adX cA 0 hX ++ bb_ws adM cA 0 hM) H ∧ va_D (bl_A s) (bb_ws adX cA 0 hX ++ bb_ws adM cA 0 hM) ∧ va_S (bl_A s) s.heap H locs
def bl_S (s : State) (D : va_G) (cA : FieldType → ClassId) (adX adM : Nat → Nat) : Prop := bb_K D cA (adX bb_qs) s ∧ bb_Z (adX bb_qs) (adX bb_qv) (bl_A s) s s.heap ∧ adM bb_qs = adX bb_qs ∧ adM bb_qv = adX bb_qv
def bl_J (N : Nat) (xs : Nat → Int32) (u v : Nat) (pc : Nat) (i : Int32) (st : List Value) (hX hM : bb_H) : Prop :=
  ∀ (p : Program) (l : Launch) (e : Env) (s : State) (m : MethodId) (below : List Frame) (meth : Method) (c : Code) (b : Nat) (D : va_G) (cA : FieldType → ClassId) (adX adM : Nat → Nat) (H : Heap) (locs : List Loc) (ls : Array Slot), lw_At p s m meth c b N xs → bl_S s D cA adX adM → bl_Y s D cA adX adM hX hM H locs → lv_has ls 4 [(3, .int i), (2, .ref (adM 0)), (1, .ref (adX 0)), (0, .ref b)] →
    W p l e room_1 s m #[Value.ref b] below meth c H locs u v (lw_Z below #[Value.ref b] s) (F0 m pc ls (st.map (bl_cv b (adX 0) (adM 0))))
theorem bl_PL {D : va_G} {cl : List vw_C} {w1 w2 : va_W} {H : Heap} (h : va_P D cl (w1 ++ w2) H) : va_P D cl w1 H := fun k q hk => h k q (by rw [List.getElem?_append_left (List.getElem?_eq_some_iff.mp hk).1]; exact hk)
theorem bl_PR {D : va_G} {cl : List vw_C} {w1 w2 : va_W} {H : Heap} (h : va_P D cl (w1 ++ w2) H) : va_P D cl w2 H := fun k q hk => h (w1.length + k) q (by rw [List.getElem?_append_right (Nat.le_add_right _ _), Nat.add_sub_cancel_left]; exact hk)
theorem bl_DL {A : Nat → Prop} {w1 w2 : va_W} (h : va_D A (w1 ++ w2)) : va_D A w1 := ⟨fun i j p q hi hj e => h.1 i j p q (by rw [List.getElem?_append_left (List.getElem?_eq_some_iff.mp hi).1]; exact hi) (by rw [List.getElem?_append_left (List.getElem?_eq_some_iff.mp hj).1]; exact hj) e, fun k q hk => h.2 k q (by rw [List.getElem?_append_left (List.getElem?_eq_some_iff.mp hk).1]; exact hk)⟩
theorem bl_DR {A : Nat → Prop} {w1 w2 : va_W} (h : va_D A (w1 ++ w2)) : va_D A w2 := ⟨fun i j p q hi hj e => by
  have := h.1 (w1.length + i) (w1.length + j) p q (by rw [List.getElem?_append_right (Nat.le_add_right _ _), Nat.add_sub_cancel_left]; exact hi) (by rw [List.getElem?_append_right (Nat.le_add_right _ _), Nat.add_sub_cancel_left]; exact hj) e
  omega, fun k q hk => h.2 (w1.length + k) q (by rw [List.getElem?_append_right (Nat.le_add_right _ _), Nat.add_sub_cancel_left]; exact hk)⟩
theorem bl_apart {A : Nat → Prop} {w1 w2 : va_W} (h : va_D A (w1 ++ w2)) (i j : Nat) (p q : Nat × va_E) (hi : w1[i]? = some p) (hj : w2[j]? = some q) : p.1 ≠ q.1 := fun e => by
  have h1 := (List.getElem?_eq_some_iff.mp hi).1
  have := h.1 i (w1.length + j) p q (by rw [List.getElem?_append_left h1]; exact hi) (by rw [List.getElem?_append_right (Nat.le_add_right _ _), Nat.add_sub_cancel_left]; exact hj) e
  omega
/-- behind a call of the left system -/
theorem bl_joinL {A : Nat → Prop} {D : va_G} {cl : List vw_C} {w1 w2 w1' : va_W} {H H1 : Heap} (hP : va_P D cl (w1 ++ w2) H) (hD : va_D A (w1 ++ w2)) (hF : ∀ q, va_A w1 H.size q → A q) (hk : ∀ q : Nat, q < H.size → ¬ va_A w1 H.size q → H1[q]? = H[q]?) (hP1 : va_P D cl w1' H1) (hD1 : va_D (va_A w1 H.size) w1') : va_P D cl (w1' ++ w2) H1 ∧ va_D A (w1' ++ w2) := by
  have out : ∀ (j : Nat) (q : Nat × va_E), w2[j]? = some q → q.1 < H.size ∧ ¬ va_A w1 H.size q.1 := fun j q hj => by
    have hl := (bl_PR hP j q hj).lt
    refine ⟨hl, fun h => ?_⟩
    rcases h with ⟨k, e, h⟩ | h
    · exact bl_apart hD k j (q.1, e) q h hj rfl
    · omega
  refine ⟨va_P.app hP1 ((bl_PR hP).kept (fun k q hq => hk q.1 (out k q hq).1 (out k q hq).2)), va_D.app (hD1.weaken (fun _ q _ z => hF q.1 z)) (bl_DR hD) (fun i j p q hi hj e => ?_)⟩
  exact (out j q hj).2 (e ▸ hD1.2 i p hi)
theorem bl_joinR {A : Nat → Prop} {D : va_G} {cl : List vw_C} {w1 w2 w2' : va_W} {H H1 : Heap} (hP : va_P D cl (w1 ++ w2) H) (hD : va_D A (w1 ++ w2)) (hF : ∀ q, va_A w2 H.size q → A q) (hk : ∀ q : Nat, q < H.size → ¬ va_A w2 H.size q → H1[q]? = H[q]?) (hP1 : va_P D cl w2' H1) (hD1 : va_D (va_A w2 H.size) w2') : va_P D cl (w1 ++ w2') H1 ∧ va_D A (w1 ++ w2') := by
  have out : ∀ (j : Nat) (q : Nat × va_E), w1[j]? = some q → q.1 < H.size ∧ ¬ va_A w2 H.size q.1 := fun j q hj => by
    have hl := (bl_PL hP j q hj).lt
    refine ⟨hl, fun h => ?_⟩
    rcases h with ⟨k, e, h⟩ | h
    · exact bl_apart hD j k q (q.1, e) hj h rfl
    · omega
  refine ⟨va_P.app ((bl_PL hP).kept (fun k q hq => hk q.1 (out k q hq).1 (out k q hq).2)) hP1, va_D.app (bl_DL hD) (hD1.weaken (fun _ q _ z => hF q.1 z)) (fun i j p q hi hj e => ?_)⟩
  exact (out i p hi).2 (e ▸ hD1.2 j q hj)
section BLR
variable {p : Program} {l : Launch} {e : Env} {R : Room} {s : State} {m : MethodId} {args : Array Value} {below : List Frame} {meth : Method} {c : Code} {H : Heap} {locs : List Loc} {cells slots mc ms : Nat} {Q : State → Prop}
variable {pc : Nat} {ls : Array Slot} {rest st0 : List Value} {a : Array Value} {A0 A1 : Nat → Prop} {H0 : Heap} {free : Addr → Prop}
theorem bl_callx {r : Option Value} {B : State → Prop} (hr : va_Run p l e R s m args below meth c H locs cells slots mc ms (F0 m pc ls st0) rest (bb_Q r B A1 a) free) (hS : va_S A0 H0 H locs) (hA : ∀ q, q < H.size → A1 q → A0 q) (hf : ∀ q, free q → A0 q)
    (kk : ∀ (t : State) (H1 : Heap) (locs1 : List Loc), t.heap = H1 → B t → (∀ q : Nat, q < H.size → ¬ A1 q → H1[q]? = H[q]?) → va_S A0 H0 H1 locs1 → W p l e R s m args below meth c H1 locs1 (cells + mc) (slots + ms) Q (F0 m (pc + 3) ls (r.toList ++ rest))) : W p l e R s m args below meth c H locs cells slots Q (F0 m pc ls st0) := by
  intro T hT X
  obtain ⟨v, st₀, t, T', L, h0, X', hL, e1, e2, ⟨⟨hv, hb⟩, hz, hk⟩, st⟩ := hr T hT X
  cases hv
  rw [h0] at hz hk
  obtain ⟨t2, a1, b1⟩ := kk t T'.heap (locs ++ L) e1.symm hb (fun q h1 h2 => by rw [e1]; exact hk q h1 h2)
    ⟨Nat.le_trans hS.1 (by rw [e1]; exact hz), fun q h1 h2 => by rw [e1, hk q (Nat.lt_of_lt_of_le h1 hS.1) (fun z => h2 (hA q (Nat.lt_of_lt_of_le h1 hS.1) z))]; exact hS.2.1 q h1 h2, fun q hq => by
      rcases List.mem_append.mp hq with h | h
      · exact hS.2.2 q h
      · exact hf _ (hL q h)⟩ T' rfl X'
  exact ⟨t2, st t2 a1, b1⟩
end BLR
theorem bl_good {p : Program} {s : State} {m : MethodId} {meth : Method} {c : Code} {b N : Nat} {xs : Nat → Int32} (C0 : lw_At p s m meth c b N xs) : ∀ w ∈ bb_good, w.before #[Value.ref b] s = true := fun w hw => C0.2.2.2.2.2.1 w (List.mem_filter.mp hw).1
section BLJ
variable {N : Nat} {xs : Nat → Int32} {u v : Nat} {pc : Nat} {i : Int32} {st : List Value} {hX hM : bb_H}
theorem bl_iconst {n : Int} {w : Int32} (hd : decode cL_law pc = .ok (.iconst n, 1)) (hv : Int32.ofInt n = w) (k : bl_J N xs u v (pc + 1) i (.int w :: st) hX hM) : bl_J N xs u v pc i st hX hM :=
  fun p l e s m below meth c b D cA adX adM H locs ls C0 hS hY hL => lv_iconst C0.1 C0.2.1 hd hv (k p l e s m below meth c b D cA adX adM H locs ls C0 hS hY hL)
theorem bl_bipush {n : Int} {w : Int32} (hd : decode cL_law pc = .ok (.bipush n, 2)) (hv : (Int8.ofInt n).toInt32 = w) (k : bl_J N xs u v (pc + 2) i (.int w :: st) hX hM) : bl_J N xs u v pc i st hX hM :=
  fun p l e s m below meth c b D cA adX adM H locs ls C0 hS hY hL => lv_bipush C0.1 C0.2.1 hd hv (k p l e s m below meth c b D cA adX adM H locs ls C0 hS hY hL)
theorem bl_aload0 (hd : decode cL_law pc = .ok (.aload_n 0, 1)) (k : bl_J N xs u v (pc + 1) i (.ref 0 :: st) hX hM) : bl_J N xs u v pc i st hX hM :=
  fun p l e s m below meth c b D cA adX adM H locs ls C0 hS hY hL => lv_aload_n C0.1 C0.2.1 hd rfl (lv_at hL 3 rfl) (k p l e s m below meth c b D cA adX adM H locs ls C0 hS hY hL)
theorem bl_aload1 (hd : decode cL_law pc = .ok (.aload_n 1, 1)) (k : bl_J N xs u v (pc + 1) i (.ref 1 :: st) hX hM) : bl_J N xs u v pc i st hX hM :=
  fun p l e s m below meth c b D cA adX adM H locs ls C0 hS hY hL => lv_aload_n C0.1 C0.2.1 hd rfl (lv_at hL 2 rfl) (k p l e s m below meth c b D cA adX adM H locs ls C0 hS hY hL)
theorem bl_aload2 (hd : decode cL_law pc = .ok (.aload_n 2, 1)) (k : bl_J N xs u v (pc + 1) i (.ref 2 :: st) hX hM) : bl_J N xs u v pc i st hX hM :=
  fun p l e s m below meth c b D cA adX adM H locs ls C0 hS hY hL => lv_aload_n C0.1 C0.2.1 hd rfl (lv_at hL 1 rfl) (k p l e s m below meth c b D cA adX adM H locs ls C0 hS hY hL)
theorem bl_iload3 (hd : decode cL_law pc = .ok (.iload_n 3, 1)) (k : bl_J N xs u v (pc + 1) i (.int i :: st) hX hM) : bl_J N xs u v pc i st hX hM :=
  fun p l e s m below meth c b D cA adX adM H locs ls C0 hS hY hL => lv_iload_n C0.1 C0.2.1 hd rfl (lv_at hL 0 rfl) (k p l e s m below meth c b D cA adX adM H locs ls C0 hS hY hL)
theorem bl_iadd {x y : Int32} (hd : decode cL_law pc = .ok (.iadd, 1)) (k : bl_J N xs u v (pc + 1) i (.int (x + y) :: st) hX hM) : bl_J N xs u v pc i (.int y :: .int x :: st) hX hM :=
  fun p l e s m below meth c b D cA adX adM H locs ls C0 hS hY hL => lv_iadd C0.1 C0.2.1 hd (k p l e s m below meth c b D cA adX adM H locs ls C0 hS hY hL)
theorem bl_isub {x y : Int32} (hd : decode cL_law pc = .ok (.isub, 1)) (k : bl_J N xs u v (pc + 1) i (.int (x - y) :: st) hX hM) : bl_J N xs u v pc i (.int y :: .int x :: st) hX hM :=
  fun p l e s m below meth c b D cA adX adM H locs ls C0 hS hY hL => lv_isub C0.1 C0.2.1 hd (k p l e s m below meth c b D cA adX adM H locs ls C0 hS hY hL)
theorem bl_iand {x y : Int32} (hd : decode cL_law pc = .ok (.iand, 1)) (k : bl_J N xs u v (pc + 1) i (.int (x &&& y) :: st) hX hM) : bl_J N xs u v pc i (.int y :: .int x :: st) hX hM :=
  fun p l e s m below meth c b D cA adX adM H locs ls C0 hS hY hL => lv_iand C0.1 C0.2.1 hd (k p l e s m below meth c b D cA adX adM H locs ls C0 hS hY hL)
theorem bl_i2l {x : Int32} (hd : decode cL_law pc = .ok (.i2l, 1)) (k : bl_J N xs u v (pc + 1) i (.long x.toInt64 :: st) hX hM) : bl_J N xs u v pc i (.int x :: st) hX hM :=
  fun p l e s m below meth c b D cA adX adM H locs ls C0 hS hY hL => lv_i2l C0.1 C0.2.1 hd rfl (k p l e s m below meth c b D cA adX adM H locs ls C0 hS hY hL)
theorem bl_lshl {x : Int64} {y : Int32} (hd : decode cL_law pc = .ok (.lshl, 1)) (k : bl_J N xs u v (pc + 1) i (.long (x <<< (y.toInt64 &&& 63)) :: st) hX hM) : bl_J N xs u v pc i (.int y :: .long x :: st) hX hM :=
  fun p l e s m below meth c b D cA adX adM H locs ls C0 hS hY hL => lv_lshl C0.1 C0.2.1 hd rfl (k p l e s m below meth c b D cA adX adM H locs ls C0 hS hY hL)
theorem bl_land {x y : Int64} (hd : decode cL_law pc = .ok (.land, 1)) (k : bl_J N xs u v (pc + 1) i (.long (x &&& y) :: st) hX hM) : bl_J N xs u v pc i (.long y :: .long x :: st) hX hM :=
  fun p l e s m below meth c b D cA adX adM H locs ls C0 hS hY hL => lv_land C0.1 C0.2.1 hd (k p l e s m below meth c b D cA adX adM H locs ls C0 hS hY hL)
theorem bl_lor {x y : Int64} (hd : decode cL_law pc = .ok (.lor, 1)) (k : bl_J N xs u v (pc + 1) i (.long (x ||| y) :: st) hX hM) : bl_J N xs u v pc i (.long y :: .long x :: st) hX hM :=
  fun p l e s m below meth c b D cA adX adM H locs ls C0 hS hY hL => lv_lor C0.1 C0.2.1 hd (k p l e s m below meth c b D cA adX adM H locs ls C0 hS hY hL)
theorem bl_ldc2 {ix : Nat} {w : Int64} (hc : Cond.constantLong RL ix w ∈ bb_good) (hd : decode cL_law pc = .ok (.ldc2_w ix, 3)) (k : bl_J N xs u v (pc + 3) i (.long w :: st) hX hM) : bl_J N xs u v pc i st hX hM :=
  fun p l e s m below meth c b D cA adX adM H locs ls C0 hS hY hL => lv_ldc2 C0.1 C0.2.1 C0.2.2.2.2.1 (bl_good C0 _ hc) hd (k p l e s m below meth c b D cA adX adM H locs ls C0 hS hY hL)
theorem bl_iaload {j : Int32} (hj : vp_in j N) (hd : decode cL_law pc = .ok (.iaload, 1)) (k : bl_J N xs u v (pc + 1) i (.int (xs j.toNatClampNeg) :: st) hX hM) : bl_J N xs u v pc i (.int j :: .ref 0 :: st) hX hM :=
  fun p l e s m below meth c b D cA adX adM H locs ls C0 hS hY hL => va_sld (A := bl_A s) C0.1 C0.2.1 C0.2.2.2.2.2.2.1 C0.2.2.2.2.2.2.2.1 (Nat.not_le.mpr C0.2.2.2.2.2.2.2.1) hY.2.2 hj hd (k p l e s m below meth c b D cA adX adM H locs ls C0 hS hY hL)
theorem bl_alen (hd : decode cL_law pc = .ok (.arraylength, 1)) (k : bl_J N xs u v (pc + 1) i (.int (nI N) :: st) hX hM) : bl_J N xs u v pc i (.ref 0 :: st) hX hM :=
  fun p l e s m below meth c b D cA adX adM H locs ls C0 hS hY hL => va_slen (A := bl_A s) C0.1 C0.2.1 C0.2.2.2.2.2.2.1 C0.2.2.2.2.2.2.2.1 (Nat.not_le.mpr C0.2.2.2.2.2.2.2.1) hY.2.2 hd (k p l e s m below meth c b D cA adX adM H locs ls C0 hS hY hL)
theorem bl_icmp_gt {x y : Int32} {off : Int} {tgt : Nat} (hd : decode cL_law pc = .ok (.if_icmp .gt off, 3)) (ht : (pc : Int) + off = (tgt : Int)) (kt : y < x → bl_J N xs u v tgt i st hX hM) (kf : ¬ y < x → bl_J N xs u v (pc + 3) i st hX hM) : bl_J N xs u v pc i (.int y :: .int x :: st) hX hM :=
  fun p l e s m below meth c b D cA adX adM H locs ls C0 hS hY hL => lv_icmp_gt C0.1 C0.2.1 hd ht (fun q => kt q p l e s m below meth c b D cA adX adM H locs ls C0 hS hY hL) (fun q => kf q p l e s m below meth c b D cA adX adM H locs ls C0 hS hY hL)
theorem bl_icmp_eq {x : Int32} {off : Int} {tgt : Nat} (hd : decode cL_law pc = .ok (.if_icmp .eq off, 3)) (ht : (pc : Int) + off = (tgt : Int)) (kt : bl_J N xs u v tgt i st hX hM) : bl_J N xs u v pc i (.int x :: .int x :: st) hX hM :=
  fun p l e s m below meth c b D cA adX adM H locs ls C0 hS hY hL => lv_icmp_eq C0.1 C0.2.1 hd ht (fun _ => kt p l e s m below meth c b D cA adX adM H locs ls C0 hS hY hL) (fun q => absurd rfl q)
theorem bl_goto {off : Int} {tgt : Nat} (hd : decode cL_law pc = .ok (.goto off, 3)) (ht : (pc : Int) + off = (tgt : Int)) (k : bl_J N xs u v tgt i st hX hM) : bl_J N xs u v pc i st hX hM :=
  fun p l e s m below meth c b D cA adX adM H locs ls C0 hS hY hL => lv_goto C0.1 C0.2.1 hd ht (k p l e s m below meth c b D cA adX adM H locs ls C0 hS hY hL)
theorem bl_iinc {n : Int} {w : Int32} (hd : decode cL_law pc = .ok (.iinc 3 n, 3)) (hv : i + Int32.ofInt n = w) (k : bl_J N xs u v (pc + 3) w st hX hM) : bl_J N xs u v pc i st hX hM :=
  fun p l e s m below meth c b D cA adX adM H locs ls C0 hS hY hL => lv_iinc (lv' := [(3, .int w), (2, .ref (adM 0)), (1, .ref (adX 0)), (0, .ref b)]) C0.1 C0.2.1 hd hL (k := 0) rfl hv (by decide) rfl (fun ls hL => k p l e s m below meth c b D cA adX adM H locs ls C0 hS hY hL)
theorem bl_table {dflt lo hi : Int} {offs : Array Int} {len : Nat} {x : Int32} {off : Int} {tgt : Nat} (hd : decode cL_law pc = .ok (.tableswitch dflt lo hi offs, len)) (h1 : ¬ x.toInt < lo) (h2 : ¬ hi < x.toInt) (ho : offs[(x.toInt - lo).toNat]? = some off) (ht : (pc : Int) + off = (tgt : Int)) (k : bl_J N xs u v tgt i st hX hM) : bl_J N xs u v pc i (.int x :: st) hX hM :=
  fun p l e s m below meth c b D cA adX adM H locs ls C0 hS hY hL => lv_tableIn C0.1 C0.2.1 hd h1 h2 ho ht (k p l e s m below meth c b D cA adX adM H locs ls C0 hS hY hL)
theorem bl_ret (hu : u ≤ 600000) (hv : v ≤ 7302250) (hd : decode cL_law pc = .ok (.ireturn, 1)) : bl_J N xs u v pc i [.int 1] hX hM := by
  intro p l e s m below meth c b D cA adX adM H locs ls C0 hS hY hL
  refine va_forget (fun q hq => hY.2.2.2.2 q hq) ?_
  refine W.widen (k := 600000) (n := 7302250) hu hv ?_
  exact lw_ret C0.1 C0.2.1 C0.2.2.1 C0.2.2.2.2.2.2.2.2.1 hd
/-- numbers alone -/
def bl_nums (as : List Value) : Prop := (∀ ad, as.map (bb_cv ad) = as) ∧ (∀ b x1 x2, as.map (bl_cv b x1 x2) = as)
theorem bl_callX {ix : Nat} {y : MethodName} {cc' : ByteArray} {nL' n : Nat} {rm' : Room} {as vs ast : List Value} {r : Int32} {hX' : bb_H} (hu : u ≤ 600000) (hv : v ≤ 7302250) (hs : bb_iv RL ix RX7 y cc' nL' (some .int) n) (hR : bb_rr rm' room_1 nL') (hd : decode cL_law pc = .ok (.invokevirtual ix, 3)) (hast : as.reverse ++ .ref 1 :: st = ast) (hn : as.length = n) (has : bl_nums as) (hb : hX[0]? = some (.inr 7, vs)) (hrest : (st.map fun v => v.category).sum ≤ 8) (hok : bb_Ok y cc' nL' (some .int) rm' (.ref 0 :: as) hX (some (.int r), hX')) (k : bl_J N xs u v (pc + 3) i (.int r :: st) hX' hM) : bl_J N xs u v pc i ast hX hM := by
  intro p l e s m below meth c b D cA adX adM H locs ls C0 hS hY hL
  subst hast
  obtain ⟨⟨w1, w2, w3, w4, w5⟩, hdd⟩ := hs
  have hg := bl_good C0
  have hPX := bl_PL hY.1
  have hF : ∀ q, va_A (bb_ws adX cA 0 hX) H.size q → bl_A s q := fun q hq => by
    rcases hq with ⟨k, e, hk⟩ | hq
    · exact (bl_DL hY.2.1).2 k (q, e) hk
    · exact Nat.le_trans hY.2.2.1 hq
  have hG : GoodIn bb_good (wsV RL ix RX7 y (bb_wd y cc' nL' (some .int))) := bb_goodin (fun w hw => by
    unfold wsV at hw
    rcases List.mem_append.mp hw with hw | hw
    · simp only [List.mem_cons, List.not_mem_nil, or_false] at hw
      rcases hw with rfl | rfl | rfl | rfl
      · exact w1
      · exact w2
      · exact w3
      · exact w4
    · exact bb_wd_in w5 w hw)
  have hpre : ∀ U : State, U.heap = H → s.WarmedH U.vm → bb_Pc D cA (adX bb_qs) (adX bb_qv) adX (.ref 0 :: as) hX H.size (Value.ref (adX 0) :: as).toArray U := fun U hU hW =>
    ⟨by rw [List.map_cons, has.1]; rfl, by rw [hU], by rw [hU]; exact hPX, hS.1.warm hW, (bl_DL hY.2.1).weaken (fun _ _ _ _ => trivial), bb_Z.go hS.2.1 hW.alike (fun a h1 h2 => by rw [hU]; exact hY.2.2.2.1 a h1 h2) hF⟩
  refine bl_callx (va_runV (As := as) (rest := st.map (bl_cv b (adX 0) (adM 0))) (b := adX 0) ⟨C0.1, C0.2.1, C0.2.2.2.1, C0.2.2.2.2.1, hg⟩ (hok l D cA adX H.size) (cwV n hg hG rfl hR.1.1 hR.1.2 hdd hR.2) ⟨bb_blind, va_recv hS.1.1 hPX (ci := 7) rfl (bb_ws_0 hb), hpre⟩ rfl hn hL.1 ?_ ?_ hd ⟨hu, hv⟩) hY.2.2 (fun q _ hq => hF q hq) hF (fun t H1 locs1 ht hB hk hS1 => ?_)
  · show (as.reverse ++ .ref 1 :: st).map (bl_cv b (adX 0) (adM 0)) = _
    rw [List.map_append, List.map_reverse, has.2]
    rfl
  · show 2 * 0 + _ ≤ 8
    rw [bl_sum]
    omega
  · obtain ⟨hB1, hB2⟩ := hB
    rw [ht] at hB1
    obtain ⟨j1, j2⟩ := bl_joinL hY.1 hY.2.1 hF hk hB1 hB2
    exact k p l e s m below meth c b D cA adX adM H1 locs1 ls C0 hS ⟨j1, j2, hS1⟩ hL
theorem bl_callM {ix : Nat} {y : MethodName} {cc' : ByteArray} {nL' n : Nat} {rm' : Room} {as vs ast : List Value} {r : Int32} {hM' : bb_H} (hu : u ≤ 600000) (hv : v ≤ 7302250) (hs : bb_iv RL ix RX8 y cc' nL' (some .int) n) (hR : bb_rr rm' room_1 nL') (hd : decode cL_law pc = .ok (.invokevirtual ix, 3)) (hast : as.reverse ++ .ref 2 :: st = ast) (hn : as.length = n) (has : bl_nums as) (hb : hM[0]? = some (.inr 8, vs)) (hrest : (st.map fun v => v.category).sum ≤ 8) (hok : bb_Ok y cc' nL' (some .int) rm' (.ref 0 :: as) hM (some (.int r), hM')) (k : bl_J N xs u v (pc + 3) i (.int r :: st) hX hM') : bl_J N xs u v pc i ast hX hM := by
  intro p l e s m below meth c b D cA adX adM H locs ls C0 hS hY hL
  subst hast
  obtain ⟨⟨w1, w2, w3, w4, w5⟩, hdd⟩ := hs
  have hg := bl_good C0
  have hPX := bl_PR hY.1
  have hF : ∀ q, va_A (bb_ws adM cA 0 hM) H.size q → bl_A s q := fun q hq => by
    rcases hq with ⟨k, e, hk⟩ | hq
    · exact (bl_DR hY.2.1).2 k (q, e) hk
    · exact Nat.le_trans hY.2.2.1 hq
  have hG : GoodIn bb_good (wsV RL ix RX8 y (bb_wd y cc' nL' (some .int))) := bb_goodin (fun w hw => by
    unfold wsV at hw
    rcases List.mem_append.mp hw with hw | hw
    · simp only [List.mem_cons, List.not_mem_nil, or_false] at hw
      rcases hw with rfl | rfl | rfl | rfl
      · exact w1
      · exact w2
      · exact w3
      · exact w4
    · exact bb_wd_in w5 w hw)
  have hpre : ∀ U : State, U.heap = H → s.WarmedH U.vm → bb_Pc D cA (adM bb_qs) (adM bb_qv) adM (.ref 0 :: as) hM H.size (Value.ref (adM 0) :: as).toArray U := fun U hU hW =>
    ⟨by rw [List.map_cons, has.1]; rfl, by rw [hU], by rw [hU]; exact hPX, by rw [hS.2.2.1]; exact hS.1.warm hW, (bl_DR hY.2.1).weaken (fun _ _ _ _ => trivial), by rw [hS.2.2.1, hS.2.2.2]; exact bb_Z.go hS.2.1 hW.alike (fun a h1 h2 => by rw [hU]; exact hY.2.2.2.1 a h1 h2) hF⟩
  refine bl_callx (va_runV (As := as) (rest := st.map (bl_cv b (adX 0) (adM 0))) (b := adM 0) ⟨C0.1, C0.2.1, C0.2.2.2.1, C0.2.2.2.2.1, hg⟩ (hok l D cA adM H.size) (cwV n hg hG rfl hR.1.1 hR.1.2 hdd hR.2) ⟨bb_blind, va_recv hS.1.1 hPX (ci := 8) rfl (bb_ws_0 hb), hpre⟩ rfl hn hL.1 ?_ ?_ hd ⟨hu, hv⟩) hY.2.2 (fun q _ hq => hF q hq) hF (fun t H1 locs1 ht hB hk hS1 => ?_)
  · show (as.reverse ++ .ref 2 :: st).map (bl_cv b (adX 0) (adM 0)) = _
    rw [List.map_append, List.map_reverse, has.2]
    rfl
  · show 2 * 0 + _ ≤ 8
    rw [bl_sum]
    omega
  · obtain ⟨hB1, hB2⟩ := hB
    rw [ht] at hB1
    obtain ⟨j1, j2⟩ := bl_joinR hY.1 hY.2.1 hF hk hB1 hB2
    exact k p l e s m below meth c b D cA adX adM H1 locs1 ls C0 hS ⟨j1, j2, hS1⟩ hL
end BLJ
