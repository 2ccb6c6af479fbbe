/-! CONSTRUCTORS: heaps that grow. A second judgement: the addresses of new cells are chosen on the way. -/
theorem va_AOA.moved {t : FieldType} {u U : State} (hvm : u.vm.Alike U.vm) (h : va_AOA t u) : va_AOA t U := by
  have h1 := h
  simp only [va_AOA, Cond.before, Cond.holds, Cond.value, beq_iff_eq] at h1
  cases hc : u.vm.findClass (FieldType.array t).toString with
  | none => simp [hc] at h1
  | some comp =>
    simp only [hc, Option.bind_some, Option.bind_eq_some_iff, Option.map_eq_some_iff] at h1
    obtain ⟨c, hi, k, hk, hb⟩ := h1
    obtain ⟨k', hk', he⟩ := hvm.2.2 _ _ hk
    have hi2 : (U.vm.classes.findIdx? fun (x : Class) => match x.kind with | .array component _ => component == comp | _ => false) = some c := by
      have q1 := va_idx_bare U.vm comp
      have q2 := va_idx_bare u.vm comp
      have q3 : U.vm.bare = u.vm.bare := by first | exact hvm.bare_eq | exact hvm.bare_eq.symm
      rw [q3] at q1
      exact q1.symm.trans (q2.trans hi)
    have f1 : U.vm.findClass (FieldType.array t).toString = some comp := by rw [hvm.findClass]; exact hc
    unfold va_AOA Cond.before Cond.holds
    simp only [Cond.value]
    rw [f1, Option.bind_some]
    refine (congrArg (fun o : Option Nat => (o.bind (fun c => (U.vm.classes[c]?).map fun (k : Class) => match k.kind with | .array _ ty => decide (ty = FieldType.array t) && decide (U.vm.findClass ("[" ++ (FieldType.array t).toString) = some c) | _ => false) == some true)) hi2).trans ?_
    have hb2 : (match k'.kind with | .array _ ty => decide (ty = FieldType.array t) && decide (U.vm.findClass ("[" ++ (FieldType.array t).toString) = some c) | _ => false) = true := by
      rw [he, hvm.findClass]
      exact hb
    simp only [Option.bind_some, hk', Option.map_some, hb2]
    rfl
def bb_KA (U : State) : Prop := va_AO "BattleBench$Bench" U ∧ va_AO "BattleBench$Sheet" U ∧ va_AOA .int U
theorem bb_KA.moved {u U : State} (hvm : u.vm.Alike U.vm) (h : bb_KA u) : bb_KA U := ⟨h.1.moved hvm, h.2.1.moved hvm, h.2.2.moved hvm⟩
def bb_sz (h : bb_H) : Nat := (h.map (fun c => c.2.length)).sum
def bb_wv (n : Nat) (v : Value) : Bool := match v with
  | .ref i => decide (i < n)
  | _ => true
def bb_wh (n : Nat) (h : bb_H) : Bool := h.all (fun c => c.2.all (bb_wv n))
theorem bb_cv_eq {ad ad' : Nat → Nat} {n : Nat} {v : Value} (hv : bb_wv n v = true) (he : ∀ i, i < n → ad' i = ad i) : bb_cv ad' v = bb_cv ad v := by
  cases v <;> first | rfl | (simp only [bb_wv, decide_eq_true_eq] at hv; simp only [bb_cv, he _ hv])
theorem bb_toR_eq {ad ad' : Nat → Nat} {n : Nat} {v : Value} (hv : bb_wv n v = true) (he : ∀ i, i < n → ad' i = ad i) : bb_toR ad' v = bb_toR ad v := by
  cases v <;> first | rfl | (simp only [bb_wv, decide_eq_true_eq] at hv; simp only [bb_toR, he _ hv])
theorem bb_all_at {n : Nat} {vs : List Value} (h : vs.all (bb_wv n) = true) (j : Nat) : bb_wv n (vs.getD j .null) = true := by
  rw [List.getD_eq_getElem?_getD]
  cases e : vs[j]? with
  | none => rfl
  | some v => exact List.all_eq_true.mp h v (List.mem_of_getElem? e)
theorem bb_e_eq {ad ad' : Nat → Nat} {cA : FieldType → ClassId} {n : Nat} {c : bb_C} (hc : c.2.all (bb_wv n) = true) (he : ∀ i, i < n → ad' i = ad i) : bb_e ad' cA c = bb_e ad cA c := by
  obtain ⟨t, vs⟩ := c
  cases t with
  | inr ci =>
    show (Sum.inr (ci, vs.map (bb_cv ad')) : va_E) = Sum.inr (ci, vs.map (bb_cv ad))
    rw [List.map_congr_left (fun v hv => bb_cv_eq (List.all_eq_true.mp hc v hv) he)]
  | inl ty =>
    have e : bb_arr ad' ty vs = bb_arr ad ty vs := by
      cases ty <;> first | rfl | (simp only [bb_arr]; rw [show (fun j => bb_toR ad' (vs.getD j Value.null)) = fun j => bb_toR ad (vs.getD j Value.null) from funext fun j => bb_toR_eq (bb_all_at hc j) he])
    show (Sum.inl (cA ty, bb_arr ad' ty vs) : va_E) = Sum.inl (cA ty, bb_arr ad ty vs)
    rw [e]
theorem bb_ws_eq {ad ad' : Nat → Nat} {cA : FieldType → ClassId} {n : Nat} (he : ∀ i, i < n → ad' i = ad i) : ∀ {h : bb_H} {i : Nat}, bb_wh n h = true → i + h.length ≤ n → bb_ws ad' cA i h = bb_ws ad cA i h
  | [], _, _, _ => rfl
  | c :: h, i, hw, hl => by
    simp only [bb_wh, List.all_cons, Bool.and_eq_true] at hw
    rw [List.length_cons] at hl
    show (ad' i, bb_e ad' cA c) :: bb_ws ad' cA (i + 1) h = (ad i, bb_e ad cA c) :: bb_ws ad cA (i + 1) h
    rw [he i (by omega), bb_e_eq hw.1 he, bb_ws_eq he (h := h) (i := i + 1) hw.2 (by omega)]
theorem bb_ws_app {ad : Nat → Nat} {cA : FieldType → ClassId} {g : bb_H} : ∀ {h : bb_H} {i : Nat}, bb_ws ad cA i (h ++ g) = bb_ws ad cA i h ++ bb_ws ad cA (i + h.length) g
  | [], _ => rfl
  | c :: h, i => by
    show (ad i, bb_e ad cA c) :: bb_ws ad cA (i + 1) (h ++ g) = (ad i, bb_e ad cA c) :: (bb_ws ad cA (i + 1) h ++ _)
    rw [bb_ws_app (h := h) (i := i + 1), List.length_cons, show i + 1 + h.length = i + (h.length + 1) by omega]
theorem bb_sz_set {h : bb_H} {b : Nat} {c c' : bb_C} (hb : h[b]? = some c) (hl : c'.2.length = c.2.length) : bb_sz (h.set b c') = bb_sz h := by
  unfold bb_sz
  rw [List.map_set, hl]
  congr 1
  apply List.ext_getElem?
  intro k
  by_cases e : k = b
  · subst e
    rw [List.getElem?_set_self (by rw [List.length_map]; exact (List.getElem?_eq_some_iff.mp hb).1), List.getElem?_map, hb]
    rfl
  · rw [List.getElem?_set_ne (fun q => e q.symm)]
theorem bb_sz_app (h g : bb_H) : bb_sz (h ++ g) = bb_sz h + bb_sz g := by
  unfold bb_sz
  rw [List.map_append, List.sum_append]
def bb_V (n0 s0 : Nat) (ad ad0 : Nat → Nat) (h : bb_H) : Prop := n0 ≤ h.length ∧ s0 ≤ bb_sz h ∧ h.length ≤ 1000 ∧ ∀ i, (i < n0 ∨ bb_qs ≤ i) → ad i = ad0 i
def bb_BA (D : va_G) (cA : FieldType → ClassId) (A : Nat → Prop) (n0 : Nat) (ad0 : Nat → Nat) (h : bb_H) (t : State) : Prop := ∃ ad' : Nat → Nat, (∀ i, (i < n0 ∨ bb_qs ≤ i) → ad' i = ad0 i) ∧ bb_B D cA A ad' h t
def bb_N (own : String) (cc : ByteArray) (nL : Nat) (rm : Room) (n0 s0 : Nat) (o : bb_H) (pc : Nat) (L st : List Value) (h : bb_H) : Prop :=
  ∀ (p : Program) (l : Launch) (e : Env) (s : State) (m : MethodId) (args : Array Value) (below : List Frame) (meth : Method) (c : Code) (D : va_G) (cA : FieldType → ClassId) (A : Nat → Prop) (ad ad0 : Nat → Nat) (H : Heap) (locs : List Loc) (ls : Array Slot), bb_X own cc nL none p s m args meth c D cA (ad bb_qs) (ad bb_qv) A → (meth.name = "<init>" ∧ bb_KA s) → bb_Y D cA A ad h s.heap H locs → bb_L ad nL ls L → bb_V n0 s0 ad ad0 h →
    W p l e rm s m args below meth c H locs (h.length - n0) (bb_sz h - s0) (MQ below (bb_Q none (bb_BA D cA A n0 ad0 o) A) args s rm.cells rm.slots A) (F0 m pc ls (st.map (bb_cv ad)))
section BBN
variable {own : String} {cc : ByteArray} {nL : Nat} {rm : Room} {n0 s0 : Nat} {o : bb_H} {pc : Nat} {L L' st : List Value} {h : bb_H}
theorem bb_nfewer (hle : bb_le L' L) (k : bb_N own cc nL rm n0 s0 o pc L' st h) : bb_N own cc nL rm n0 s0 o pc L st h :=
  fun p l e s m args below meth c D cA A ad ad0 H locs ls hX hI hY hL hV => k p l e s m args below meth c D cA A ad ad0 H locs ls hX hI hY (hL.fewer hle.use) hV
theorem bb_niconst {n : Int} {v : Int32} (hd : decode cc pc = .ok (.iconst n, 1)) (hv : Int32.ofInt n = v) (k : bb_N own cc nL rm n0 s0 o (pc + 1) L (.int v :: st) h) : bb_N own cc nL rm n0 s0 o pc L st h :=
  fun p l e s m args below meth c D cA A ad ad0 H locs ls hX hI hY hL hV => lv_iconst hX.1 hX.2.1 hd hv (k p l e s m args below meth c D cA A ad ad0 H locs ls hX hI hY hL hV)
theorem bb_nbipush {n : Int} {v : Int32} (hd : decode cc pc = .ok (.bipush n, 2)) (hv : (Int8.ofInt n).toInt32 = v) (k : bb_N own cc nL rm n0 s0 o (pc + 2) L (.int v :: st) h) : bb_N own cc nL rm n0 s0 o pc L st h :=
  fun p l e s m args below meth c D cA A ad ad0 H locs ls hX hI hY hL hV => lv_bipush hX.1 hX.2.1 hd hv (k p l e s m args below meth c D cA A ad ad0 H locs ls hX hI hY hL hV)
theorem bb_nsipush {n : Int} {v : Int32} (hd : decode cc pc = .ok (.sipush n, 3)) (hv : (Int16.ofInt n).toInt32 = v) (k : bb_N own cc nL rm n0 s0 o (pc + 3) L (.int v :: st) h) : bb_N own cc nL rm n0 s0 o pc L st h :=
  fun p l e s m args below meth c D cA A ad ad0 H locs ls hX hI hY hL hV => lv_sipush hX.1 hX.2.1 hd hv (k p l e s m args below meth c D cA A ad ad0 H locs ls hX hI hY hL hV)
theorem bb_niload_n {i : Fin 4} {x : Int32} (hd : decode cc pc = .ok (.iload_n i, 1)) (hl : L[(i : Nat)]? = some (.int x)) (k : bb_N own cc nL rm n0 s0 o (pc + 1) L (.int x :: st) h) : bb_N own cc nL rm n0 s0 o pc L st h :=
  fun p l e s m args below meth c D cA A ad ad0 H locs ls hX hI hY hL hV => lv_iload_n hX.1 hX.2.1 hd rfl (hL.2.2 i _ hl (fun z => by cases z)) (k p l e s m args below meth c D cA A ad ad0 H locs ls hX hI hY hL hV)
theorem bb_naload_n {i : Fin 4} {x : Nat} (hd : decode cc pc = .ok (.aload_n i, 1)) (hl : L[(i : Nat)]? = some (.ref x)) (k : bb_N own cc nL rm n0 s0 o (pc + 1) L (.ref x :: st) h) : bb_N own cc nL rm n0 s0 o pc L st h :=
  fun p l e s m args below meth c D cA A ad ad0 H locs ls hX hI hY hL hV => lv_aload_n hX.1 hX.2.1 hd rfl (hL.2.2 i _ hl (fun z => by cases z)) (k p l e s m args below meth c D cA A ad ad0 H locs ls hX hI hY hL hV)
theorem bb_nistore_n {i : Fin 4} {x : Int32} (hd : decode cc pc = .ok (.istore_n i, 1)) (hn : (i : Nat) < nL) (hno : bb_nol L i = true) (hL' : L.set i (.int x) = L') (k : bb_N own cc nL rm n0 s0 o (pc + 1) L' st h) : bb_N own cc nL rm n0 s0 o pc L (.int x :: st) h :=
  fun p l e s m args below meth c D cA A ad ad0 H locs ls hX hI hY hL hV => lv_istore_n hX.1 hX.2.1 hd rfl hL.has hn rfl (fun ls' hl' => k p l e s m args below meth c D cA A ad ad0 H locs ls' hX hI hY (hL' ▸ bb_L.store hno hl') hV)
theorem bb_niinc {i : Nat} {n : Int} {x v : Int32} (hd : decode cc pc = .ok (.iinc i n, 3)) (hl : L[i]? = some (.int x)) (hv : x + Int32.ofInt n = v) (hn : i < nL) (hno : bb_nol L i = true) (hL' : L.set i (.int v) = L') (k : bb_N own cc nL rm n0 s0 o (pc + 3) L' st h) : bb_N own cc nL rm n0 s0 o pc L st h := by
  intro p l e s m args below meth c D cA A ad ad0 H locs ls hX hI hY hL hV
  obtain ⟨j, hj⟩ := List.getElem?_of_mem (bb_lp_mem (ad := ad) hl (fun z => by cases z))
  exact lv_iinc hX.1 hX.2.1 hd hL.has (k := j) hj hv hn rfl (fun ls' hl' => k p l e s m args below meth c D cA A ad ad0 H locs ls' hX hI hY (hL' ▸ bb_L.store hno hl') hV)
theorem bb_ngoto {off : Int} {tgt : Nat} (hd : decode cc pc = .ok (.goto off, 3)) (ht : (pc : Int) + off = (tgt : Int)) (k : bb_N own cc nL rm n0 s0 o tgt L st h) : bb_N own cc nL rm n0 s0 o pc L st h :=
  fun p l e s m args below meth c D cA A ad ad0 H locs ls hX hI hY hL hV => lv_goto hX.1 hX.2.1 hd ht (k p l e s m args below meth c D cA A ad ad0 H locs ls hX hI hY hL hV)
theorem bb_nicmp_ge {x y : Int32} {off : Int} {tgt : Nat} (hd : decode cc pc = .ok (.if_icmp .ge off, 3)) (ht : (pc : Int) + off = (tgt : Int)) (kt : y ≤ x → bb_N own cc nL rm n0 s0 o tgt L st h) (kf : ¬ y ≤ x → bb_N own cc nL rm n0 s0 o (pc + 3) L st h) : bb_N own cc nL rm n0 s0 o pc L (.int y :: .int x :: st) h :=
  fun p l e s m args below meth c D cA A ad ad0 H locs ls hX hI hY hL hV => lv_icmp_ge hX.1 hX.2.1 hd ht (fun q => kt q p l e s m args below meth c D cA A ad ad0 H locs ls hX hI hY hL hV) (fun q => kf q p l e s m args below meth c D cA A ad ad0 H locs ls hX hI hY hL hV)
theorem bb_ndup {v : Value} (hd : decode cc pc = .ok (.dup, 1)) (hv : v.category = 1) (k : bb_N own cc nL rm n0 s0 o (pc + 1) L (v :: v :: st) h) : bb_N own cc nL rm n0 s0 o pc L (v :: st) h :=
  fun p l e s m args below meth c D cA A ad ad0 H locs ls hX hI hY hL hV => lv_dup hX.1 hX.2.1 hd ((bb_cat ad v).trans hv) (k p l e s m args below meth c D cA A ad ad0 H locs ls hX hI hY hL hV)
theorem bb_ngetR {ix ci k b : Nat} {x : Nat} (hf : bb_fl own ix ci k) (hd : decode cc pc = .ok (.getfield ix, 3)) (hb : bb_gR h b ci k = some x) (kk : bb_N own cc nL rm n0 s0 o (pc + 3) L (.ref x :: st) h) : bb_N own cc nL rm n0 s0 o pc L (.ref b :: st) h := by
  intro p l e s m args below meth c D cA A ad ad0 H locs ls hX hI hY hL hV
  obtain ⟨vs, h1, h2⟩ := bb_gR_spec hb
  obtain ⟨C, T, N, hc, hk, hin, hl⟩ := hf
  refine va_get (C := C) (T := T) (N := N) hX.1 hX.2.1 hX.2.2.2.2.1 hin hX.2.2.2.1 hX.2.2.2.2.2.2.2.1.1 hY.1 b (bb_ws_0 h1) hc k hk (hX.2.2.2.2.1 _ hl) (fun _ q => q) (v := .ref (ad x)) ?_ hd (kk p l e s m args below meth c D cA A ad ad0 H locs ls hX hI hY hL hV)
  rw [List.getElem?_map, h2]
  rfl
theorem bb_V.same {ad ad0 : Nat → Nat} {h' : bb_H} (hV : bb_V n0 s0 ad ad0 h) (h1 : h'.length = h.length) (h2 : bb_sz h' = bb_sz h) : bb_V n0 s0 ad ad0 h' := ⟨by rw [h1]; exact hV.1, by rw [h2]; exact hV.2.1, by rw [h1]; exact hV.2.2.1, hV.2.2.2⟩
theorem bb_nputV {ix ci k b : Nat} {ty : FieldType} {v : Value} {vs : List Value} (hf : bb_fp own ix ci k ty) (hd : decode cc pc = .ok (.putfield ix, 3)) (hb : h[b]? = some (.inr ci, vs)) (hk2 : k < vs.length) (hn : narrow ty v = v) (hfit : fits ty v = true) (hcv : ∀ ad, bb_cv ad v = v) (kk : bb_N own cc nL rm n0 s0 o (pc + 3) L st (h.set b (.inr ci, vs.set k v))) : bb_N own cc nL rm n0 s0 o pc L (v :: .ref b :: st) h := by
  intro p l e s m args below meth c D cA A ad ad0 H locs ls hX hI hY hL hV
  obtain ⟨C, T, N, ty0, hc, hk, hin, hl, hty, hnm, hfin, rfl⟩ := hf
  obtain ⟨hP, hD, hS⟩ := hY
  rw [show (v :: Value.ref b :: st).map (bb_cv ad) = v :: .ref (ad b) :: st.map (bb_cv ad) by simp only [List.map_cons, hcv]; rfl]
  refine va_put (C := C) (T := T) (N := N) hX.1 hX.2.1 hX.2.2.2.2.1 hin ty0 hty hnm hX.2.2.2.1 hX.2.2.2.2.2.2.2.1.1 hP hD hS b (bb_ws_0 hb) hc k hk (hX.2.2.2.2.1 _ hl) (fun _ q => q) hfin (hty k hk) hn hfit (by rw [List.length_map]; exact hk2) hd (fun H1 locs1 hP1 hD1 hS1 => ?_)
  have e0 : (vs.map (bb_cv ad)).set k v = (vs.set k v).map (bb_cv ad) := by rw [List.map_set, hcv]
  rw [e0] at hP1 hD1
  have e2 := bb_ws_set0 (ad := ad) (cA := cA) (c := ((.inr ci, vs.set k v) : bb_C)) (h := h) (k := b)
  have l1 : (h.set b ((.inr ci, vs.set k v) : bb_C)).length = h.length := List.length_set
  have l2 : bb_sz (h.set b ((.inr ci, vs.set k v) : bb_C)) = bb_sz h := bb_sz_set hb (List.length_set)
  have w := kk p l e s m args below meth c D cA A ad ad0 H1 locs1 ls hX hI ⟨by rw [← e2]; exact hP1, by rw [← e2]; exact hD1, hS1⟩ hL (hV.same l1 l2)
  rw [l1, l2] at w
  exact w
theorem bb_nputI {ix ci k b : Nat} {x : Int32} {h' : bb_H} (hf : bb_fp own ix ci k .int) (hd : decode cc pc = .ok (.putfield ix, 3)) (hb : bb_pI h b ci k x = some h') (kk : bb_N own cc nL rm n0 s0 o (pc + 3) L st h') : bb_N own cc nL rm n0 s0 o pc L (.int x :: .ref b :: st) h := by
  obtain ⟨vs, h1, h2, rfl⟩ := bb_pI_spec hb
  exact bb_nputV hf hd h1 h2 rfl rfl (fun _ => rfl) kk
theorem bb_nputZ {ix ci k b : Nat} {x : Int32} {h' : bb_H} (hf : bb_fp own ix ci k .boolean) (hd : decode cc pc = .ok (.putfield ix, 3)) (hb : bb_pZ h b ci k x = some h') (kk : bb_N own cc nL rm n0 s0 o (pc + 3) L st h') : bb_N own cc nL rm n0 s0 o pc L (.int x :: .ref b :: st) h := by
  obtain ⟨hx, hb⟩ := bb_pZ_spec hb
  obtain ⟨vs, h1, h2, rfl⟩ := bb_pI_spec hb
  exact bb_nputV hf hd h1 h2 (bb_nz hx).1 (bb_nz hx).2 (fun _ => rfl) kk
def bb_pR (h : bb_H) (b ci k : Nat) (x : Nat) : Option bb_H := match h[b]? with
  | some (.inr c, vs) => if c = ci ∧ k < vs.length then some (h.set b (.inr c, vs.set k (.ref x))) else none
  | _ => none
theorem bb_pR_spec {h h' : bb_H} {b ci k : Nat} {x : Nat} (e : bb_pR h b ci k x = some h') : ∃ vs, h[b]? = some (.inr ci, vs) ∧ k < vs.length ∧ h' = h.set b (.inr ci, vs.set k (.ref x)) := by
  unfold bb_pR at e
  split at e
  · rename_i c vs hb
    split at e
    · rename_i hc
      obtain ⟨hc, hk⟩ := hc
      subst hc
      cases e
      exact ⟨vs, hb, hk, rfl⟩
    · cases e
  · cases e
def bb_fF (own : String) (ix ci k : Nat) : Prop := ∃ (C : String) (T : u_T) (N : Nat) (ty0 : Nat → FieldType), vwCl[ci]? = some (C, T, N) ∧ k < N ∧ (∀ w ∈ u_ws C T N, w ∈ bb_good) ∧ Cond.fieldLink own ix (T k).1 (T k).2.1 (T k).2.2.1 ∈ bb_good ∧ (∀ k, k < N → parseFieldDescriptor (T k).2.2.1 = some (ty0 k)) ∧ (∀ a, a < N → ∀ b, b < N → a ≠ b → (T a).2.1 ≠ (T b).2.1) ∧ (T k).2.2.2 = true ∧ (T k).1 = own ∧ (∀ q : Nat, narrow (ty0 k) (.ref q) = .ref q ∧ fits (ty0 k) (.ref q) = true)
theorem bb_nputF {ix ci k b : Nat} {x : Nat} {h' : bb_H} (hf : bb_fF own ix ci k) (hd : decode cc pc = .ok (.putfield ix, 3)) (hb : bb_pR h b ci k x = some h') (kk : bb_N own cc nL rm n0 s0 o (pc + 3) L st h') : bb_N own cc nL rm n0 s0 o pc L (.ref x :: .ref b :: st) h := by
  intro p l e s m args below meth c D cA A ad ad0 H locs ls hX hI hY hL hV
  obtain ⟨vs, h1, h2, rfl⟩ := bb_pR_spec hb
  obtain ⟨C, T, N, ty0, hc, hk, hin, hl, hty, hnm, hfin, hdecl, hnf⟩ := hf
  obtain ⟨hP, hD, hS⟩ := hY
  refine va_putF (C := C) (T := T) (N := N) (v := .ref (ad x)) hX.1 hX.2.1 hX.2.2.2.2.1 hin ty0 hty hnm hX.2.2.2.1 hX.2.2.2.2.2.2.2.1.1 hP hD hS b (bb_ws_0 h1) hc k hk (hX.2.2.2.2.1 _ hl) (fun _ q => q) hfin hI.1 hdecl (hty k hk) (hnf _).1 (hnf _).2 (by rw [List.length_map]; exact h2) hd (fun H1 locs1 hP1 hD1 hS1 => ?_)
  have e0 : (vs.map (bb_cv ad)).set k (.ref (ad x)) = (vs.set k (.ref x)).map (bb_cv ad) := by rw [List.map_set]; rfl
  rw [e0] at hP1 hD1
  have e2 := bb_ws_set0 (ad := ad) (cA := cA) (c := ((.inr ci, vs.set k (.ref x)) : bb_C)) (h := h) (k := b)
  have l1 : (h.set b ((.inr ci, vs.set k (.ref x)) : bb_C)).length = h.length := List.length_set
  have l2 : bb_sz (h.set b ((.inr ci, vs.set k (.ref x)) : bb_C)) = bb_sz h := bb_sz_set h1 (List.length_set)
  have w := kk p l e s m args below meth c D cA A ad ad0 H1 locs1 ls hX hI ⟨by rw [← e2]; exact hP1, by rw [← e2]; exact hD1, hS1⟩ hL (hV.same l1 l2)
  rw [l1, l2] at w
  exact w
theorem bb_niastore {a : Nat} {i x : Int32} {h' : bb_H} (hd : decode cc pc = .ok (.iastore, 1)) (hb : bb_sV h a .int i (.int x) = some h') (kk : bb_N own cc nL rm n0 s0 o (pc + 1) L st h') : bb_N own cc nL rm n0 s0 o pc L (.int x :: .int i :: .ref a :: st) h := by
  intro p l e s m args below meth c D cA A ad ad0 H locs ls hX hI hY hL hV
  obtain ⟨vs, h1, h2, h3, rfl⟩ := bb_sV_spec hb
  obtain ⟨hP, hD, hS⟩ := hY
  refine va_iast hX.1 hX.2.1 hX.2.2.2.2.2.2.2.1.1 hP hD hS a 0 (bb_ws_0 h1) rfl (bb_in h2 h3) hd (fun H1 locs1 hP1 hD1 hS1 => ?_)
  have e0 : upd (fun j => bb_toI (vs.getD j .null)) i.toNatClampNeg x = fun k => bb_toI ((vs.set i.toNatClampNeg (.int x)).getD k .null) := bb_setf (v := (.int x)) bb_toI h3
  have e3 : ((cA .int, vs.length, .inl (upd (fun j => bb_toI (vs.getD j .null)) i.toNatClampNeg x)) : ClassId × vp_A) = (cA .int, bb_arr ad .int (vs.set i.toNatClampNeg (.int x))) := by rw [e0]; show _ = (cA .int, ((vs.set i.toNatClampNeg (.int x)).length, _)); rw [List.length_set]
  rw [e3] at hP1 hD1
  have e2 := bb_ws_set0 (ad := ad) (cA := cA) (c := ((.inl .int, vs.set i.toNatClampNeg (.int x)) : bb_C)) (h := h) (k := a)
  have l1 : (h.set a ((.inl .int, vs.set i.toNatClampNeg (.int x)) : bb_C)).length = h.length := List.length_set
  have l2 : bb_sz (h.set a ((.inl .int, vs.set i.toNatClampNeg (.int x)) : bb_C)) = bb_sz h := bb_sz_set h1 (List.length_set)
  have w := kk p l e s m args below meth c D cA A ad ad0 H1 locs1 ls hX hI ⟨by rw [← e2]; exact hP1, by rw [← e2]; exact hD1, hS1⟩ hL (hV.same l1 l2)
  rw [l1, l2] at w
  exact w
theorem bb_naastore {a t0 x ci : Nat} {C : String} {T : u_T} {M : Nat} {ws : List Value} {i : Int32} {h' : bb_H} (ht : ∀ cA, (bb_tys cA)[t0]? = some (cA (.object C), .object C)) (hcl : vwCl[ci]? = some (C, T, M)) (hd : decode cc pc = .ok (.aastore, 1)) (hx : h[x]? = some (.inr ci, ws)) (hb : bb_sV h a (.object C) i (.ref x) = some h') (kk : bb_N own cc nL rm n0 s0 o (pc + 1) L st h') : bb_N own cc nL rm n0 s0 o pc L (.ref x :: .int i :: .ref a :: st) h := by
  intro p l e s m args below meth c D cA A ad ad0 H locs ls hX hI hY hL hV
  obtain ⟨vs, h1, h2, h3, rfl⟩ := bb_sV_spec hb
  obtain ⟨hP, hD, hS⟩ := hY
  refine va_astq hX.1 hX.2.1 hX.2.2.2.2.2.2.2.1.1 hP hD hS a t0 x ci (r := (C, T, M)) (bb_ws_0 h1) (ht cA) (bb_ws_0 hx) hcl (bb_in h2 h3) hd (fun H1 locs1 hP1 hD1 hS1 => ?_)
  have e0 : va_up (fun j => bb_toR ad (vs.getD j .null)) i.toNatClampNeg (some (ad x)) = fun k => bb_toR ad ((vs.set i.toNatClampNeg (.ref x)).getD k .null) := bb_setf (v := (.ref x)) (bb_toR ad) h3
  have e3 : ((cA (.object C), vs.length, .inr (.inr (.inr (.inr (va_up (fun j => bb_toR ad (vs.getD j .null)) i.toNatClampNeg (some (ad x))))))) : ClassId × vp_A) = (cA (.object C), bb_arr ad (.object C) (vs.set i.toNatClampNeg (.ref x))) := by rw [e0]; show _ = (cA (.object C), ((vs.set i.toNatClampNeg (.ref x)).length, _)); rw [List.length_set]
  rw [e3] at hP1 hD1
  have e2 := bb_ws_set0 (ad := ad) (cA := cA) (c := ((.inl (.object C), vs.set i.toNatClampNeg (.ref x)) : bb_C)) (h := h) (k := a)
  have l1 : (h.set a ((.inl (.object C), vs.set i.toNatClampNeg (.ref x)) : bb_C)).length = h.length := List.length_set
  have l2 : bb_sz (h.set a ((.inl (.object C), vs.set i.toNatClampNeg (.ref x)) : bb_C)) = bb_sz h := bb_sz_set h1 (List.length_set)
  have w := kk p l e s m args below meth c D cA A ad ad0 H1 locs1 ls hX hI ⟨by rw [← e2]; exact hP1, by rw [← e2]; exact hD1, hS1⟩ hL (hV.same l1 l2)
  rw [l1, l2] at w
  exact w
def bb_io (own : String) (ix : Nat) : Prop := Cond.methodLink own ix objectInit ∈ bb_good ∧ Cond.instanceMethod objectInit ∈ bb_good ∧ Cond.code objectInit ⟨#[0xb1]⟩ 1 none ∈ bb_good
theorem bb_nobj {ix b : Nat} (hs : bb_io own ix) (hf : 1 ≤ rm.frames) (hl : 12 ≤ rm.locals) (hd : decode cc pc = .ok (.invokespecial ix, 3)) (kk : bb_N own cc nL rm n0 s0 o (pc + 3) L [] h) : bb_N own cc nL rm n0 s0 o pc L [.ref b] h := by
  intro p l e s m args below meth c D cA A ad ad0 H locs ls hX hI hY hL hV
  have hg := hX.2.2.2.2.1
  refine W.objInit hX.1 hX.2.1 hX.2.2.2.1 (hg _ hs.1) (hg _ hs.2.1) (hg _ hs.2.2) rfl (hL.1.trans hX.2.2.1.symm) rfl hd hf (by show 2 * 0 + 0 + 12 ≤ _; omega) ?_
  exact kk p l e s m args below meth c D cA A ad ad0 H locs ls hX hI hY hL hV
theorem bb_nret (hd : decode cc pc = .ok (.return_, 1)) (h1 : h.length = n0 + rm.cells) (h2 : bb_sz h = s0 + rm.slots) (ho : o = h) : bb_N own cc nL rm n0 s0 o pc L [] h := by
  intro p l e s m args below meth c D cA A ad ad0 H locs ls hX hI hY hL hV
  subst ho
  have hlocks := hX.2.2.2.2.2.2.1
  have e1 : o.length - n0 = rm.cells := by omega
  have e2 : bb_sz o - s0 = rm.slots := by omega
  rw [e1, e2]
  exact W.vret hX.1 hX.2.1 hX.2.2.2.2.2.1 (fun t ht hW => ⟨⟨rfl, ad, hV.2.2.2, by rw [ht]; exact hY.1, hY.2.1⟩, hY.2.2.F ht⟩) hY.2.2.2.2 hd
/-! making cells -/
def bb_al (n0 s0 : Nat) (rm : Room) (h : bb_H) (rs : List Value) (g : bb_H) : Option bb_H := if h.length + g.length ≤ n0 + rm.cells ∧ bb_sz h + bb_sz g ≤ s0 + rm.slots ∧ h.length + g.length ≤ 1000 ∧ bb_wh h.length h = true ∧ rs.all (bb_wv h.length) = true then some (h ++ g) else none
theorem bb_al_spec {h h' g : bb_H} {rs : List Value} (e : bb_al n0 s0 rm h rs g = some h') : h.length + g.length ≤ n0 + rm.cells ∧ bb_sz h + bb_sz g ≤ s0 + rm.slots ∧ h.length + g.length ≤ 1000 ∧ bb_wh h.length h = true ∧ rs.all (bb_wv h.length) = true ∧ h' = h ++ g := by
  unfold bb_al at e
  split at e
  · rename_i q
    cases e
    exact ⟨q.1, q.2.1, q.2.2.1, q.2.2.2.1, q.2.2.2.2, rfl⟩
  · cases e
/-- the addresses, with new ones from a place on -/
def bb_ext (ad : Nat → Nat) (n k : Nat) (q : Nat → Nat) : Nat → Nat := fun i => if n ≤ i ∧ i < n + k then q (i - n) else ad i
theorem bb_ext_lo {ad q : Nat → Nat} {n k i : Nat} (h : i < n) : bb_ext ad n k q i = ad i := if_neg (by omega)
theorem bb_ext_hi {ad q : Nat → Nat} {n k i : Nat} (h : n + k ≤ i) : bb_ext ad n k q i = ad i := if_neg (by omega)
theorem bb_ext_in {ad q : Nat → Nat} {n k i : Nat} (h : i < k) : bb_ext ad n k q (n + i) = q i := by
  unfold bb_ext
  rw [if_pos ⟨by omega, by omega⟩, Nat.add_sub_cancel_left]
theorem bb_grow {g : bb_H} {q : Nat → Nat} {p : Program} {l : Launch} {e : Env} {s : State} {m : MethodId} {args : Array Value} {below : List Frame} {meth : Method} {c : Code} {D : va_G} {cA : FieldType → ClassId} {A : Nat → Prop} {ad ad0 : Nat → Nat} {H1 : Heap} {locs : List Loc} {ls : Array Slot} {pc' cells slots : Nat} {st' : List Value} {rs : List Value} {h' : bb_H}
    (hal : bb_al n0 s0 rm h rs g = some h') (hX : bb_X own cc nL none p s m args meth c D cA (ad bb_qs) (ad bb_qv) A) (hI : meth.name = "<init>" ∧ bb_KA s) (hL : bb_L ad nL ls L) (hLr : ∀ v ∈ L, v ∈ rs) (hV : bb_V n0 s0 ad ad0 h)
    (hP : va_P D vwCl (bb_ws ad cA 0 h ++ bb_ws (bb_ext ad h.length g.length q) cA h.length g) H1) (hD : va_D A (bb_ws ad cA 0 h ++ bb_ws (bb_ext ad h.length g.length q) cA h.length g)) (hS : va_S A s.heap H1 locs) (hc : cells = h.length - n0 + g.length) (hs : slots = bb_sz h - s0 + bb_sz g)
    (kk : bb_N own cc nL rm n0 s0 o pc' L st' h') : W p l e rm s m args below meth c H1 locs cells slots (MQ below (bb_Q none (bb_BA D cA A n0 ad0 o) A) args s rm.cells rm.slots A) (F0 m pc' ls (st'.map (bb_cv (bb_ext ad h.length g.length q)))) := by
  obtain ⟨a1, a2, a3, a4, a5, rfl⟩ := bb_al_spec hal
  have he : ∀ i, i < h.length → bb_ext ad h.length g.length q i = ad i := fun i hi => bb_ext_lo hi
  have hq1 : bb_ext ad h.length g.length q bb_qs = ad bb_qs := bb_ext_hi (by show _ ≤ 1000000; omega)
  have hq2 : bb_ext ad h.length g.length q bb_qv = ad bb_qv := bb_ext_hi (by show _ ≤ 1000001; omega)
  have e1 : bb_ws (bb_ext ad h.length g.length q) cA 0 (h ++ g) = bb_ws ad cA 0 h ++ bb_ws (bb_ext ad h.length g.length q) cA h.length g := by
    rw [bb_ws_app, Nat.zero_add, bb_ws_eq he a4 (by omega)]
  have l1 : (h ++ g).length = h.length + g.length := List.length_append
  have l2 := bb_sz_app h g
  have hV1 := hV
  obtain ⟨v1, v2, v3, v4⟩ := hV1
  have w := kk p l e s m args below meth c D cA A (bb_ext ad h.length g.length q) ad0 H1 locs ls (by rw [hq1, hq2]; exact hX) hI ⟨by rw [e1]; exact hP, by rw [e1]; exact hD, hS⟩ ⟨hL.1, hL.2.1, fun i v z1 z2 => by
    rw [bb_cv_eq (List.all_eq_true.mp a5 v (hLr v (List.mem_of_getElem? z1))) he]
    exact hL.2.2 i v z1 z2⟩ ⟨by omega, by omega, by omega, fun i hi => by
      rcases hi with hi | hi
      · rw [he i (by omega)]; exact v4 i (Or.inl hi)
      · rw [bb_ext_hi (by have : bb_qs ≤ i := hi; have : 1000000 ≤ i := this; omega)]; exact v4 i (Or.inr hi)⟩
  rw [l1, l2] at w
  rw [hc, hs, show h.length - n0 + g.length = h.length + g.length - n0 by omega, show bb_sz h - s0 + bb_sz g = bb_sz h + bb_sz g - s0 by omega]
  exact w
theorem bb_stE {ad q : Nat → Nat} {n k : Nat} {rs : List Value} (hr : rs.all (bb_wv n) = true) (hst : ∀ v ∈ st, v ∈ rs) : st.map (bb_cv ad) = st.map (bb_cv (bb_ext ad n k q)) := List.map_congr_left fun v hv => (bb_cv_eq (List.all_eq_true.mp hr v (hst v hv)) (fun i hi => bb_ext_lo hi)).symm
def bb_inw (own : String) (ix ci : Nat) (fs : List Value) : Prop := ∃ (C : String) (T : u_T) (N : Nat) (ty0 : Nat → FieldType), vwCl[ci]? = some (C, T, N) ∧ (∀ w ∈ u_ws C T N, w ∈ bb_good) ∧ (∀ k, k < N → parseFieldDescriptor (T k).2.2.1 = some (ty0 k)) ∧ (Cond.classLink own ix C ∈ bb_good ∧ Cond.instantiable C N ∈ bb_good ∧ Cond.initialized C ∈ bb_good) ∧ (∀ j, j < N → defaultValue (ty0 j) = vp_V fs j) ∧ fs.length = N ∧ (∀ ad, fs.map (bb_cv ad) = fs)
theorem bb_nnew {ix ci : Nat} {fs : List Value} {h' : bb_H} (hs : bb_inw own ix ci fs) (hd : decode cc pc = .ok (.new ix, 3)) (hal : bb_al n0 s0 rm h (L ++ st) [(.inr ci, fs)] = some h') (kk : bb_N own cc nL rm n0 s0 o (pc + 3) L (.ref h.length :: st) h') : bb_N own cc nL rm n0 s0 o pc L st h := by
  intro p l e s m args below meth c D cA A ad ad0 H locs ls hX hI hY hL hV
  obtain ⟨C, T, N, ty0, hc, hin, hty, ⟨w1, w2, w3⟩, hfs, hfl, hfc⟩ := hs
  obtain ⟨a1, a2, a3, a4, a5, -⟩ := bb_al_spec hal
  have hg := hX.2.2.2.2.1
  obtain ⟨v1, v2, v3, v4⟩ := id hV
  have z1 : bb_sz [((.inr ci, fs) : bb_C)] = N := by simp only [bb_sz, List.map_cons, List.map_nil, List.sum_cons, List.sum_nil, hfl]; rfl
  rw [z1] at a2
  simp only [List.length_cons, List.length_nil] at a1 a3
  refine va_new (C := C) (T := T) (N := N) hX.1 hX.2.1 hg hin ty0 hty hX.2.2.2.1 (hg _ w1) (hg _ w2) (hg _ w3) hX.2.2.2.2.2.2.2.1.1 hY.1 hY.2.1 hY.2.2 hX.2.2.2.2.2.2.2.2.2 hc hfs (by omega) (by omega) hd (fun q H1 hP1 hD1 hS1 => ?_)
  rw [bb_stE (st := st) (ad := ad) (k := 1) (q := fun _ => q) a5 (fun v hv => List.mem_append_right _ hv)]
  have e1 : bb_ws (bb_ext ad h.length 1 (fun _ => q)) cA h.length [((.inr ci, fs) : bb_C)] = [(q, .inr (ci, fs))] := by
    show [(bb_ext ad h.length 1 (fun _ => q) h.length, (Sum.inr (ci, fs.map (bb_cv _)) : va_E))] = _
    rw [hfc, show bb_ext ad h.length 1 (fun _ => q) h.length = q from bb_ext_in (i := 0) (by decide)]
  have e2 : Value.ref q = bb_cv (bb_ext ad h.length 1 (fun _ => q)) (.ref h.length) := by
    show _ = Value.ref (bb_ext ad h.length 1 (fun _ => q) h.length)
    rw [show bb_ext ad h.length 1 (fun _ => q) h.length = q from bb_ext_in (i := 0) (by decide)]
  rw [e2, ← List.map_cons]
  exact bb_grow (q := fun _ => q) hal hX hI hL (fun v hv => List.mem_append_left _ hv) hV (by rw [show [((.inr ci, fs) : bb_C)].length = 1 from rfl, e1]; exact hP1) (by rw [show [((.inr ci, fs) : bb_C)].length = 1 from rfl, e1]; exact hD1) hS1 rfl (by rw [z1]) kk
theorem bb_zerosI (ad : Nat → Nat) (N : Nat) (ty : FieldType) (h : ty = .int ∨ ty = .char) : bb_arr ad ty (List.replicate N (.int 0)) = (N, .inl (fun _ => 0)) := by
  have e : (fun j => bb_toI ((List.replicate N (Value.int 0)).getD j .null)) = fun _ => 0 := funext fun j => by
    rw [List.getD_eq_getElem?_getD, List.getElem?_replicate]
    split <;> rfl
  rcases h with rfl | rfl <;> (simp only [bb_arr, List.length_replicate]; rw [e])
theorem bb_zerosL (ad : Nat → Nat) (N : Nat) : bb_arr ad .long (List.replicate N (.long 0)) = (N, .inr (.inl (fun _ => 0))) := by
  have e : (fun j => bb_toL ((List.replicate N (Value.long 0)).getD j .null)) = fun _ => 0 := funext fun j => by
    rw [List.getD_eq_getElem?_getD, List.getElem?_replicate]
    split <;> rfl
  simp only [bb_arr, List.length_replicate]
  rw [e]
theorem bb_zerosR (ad : Nat → Nat) (N : Nat) (C : String) : bb_arr ad (.object C) (List.replicate N .null) = (N, .inr (.inr (.inr (.inr (fun _ => none))))) := by
  have e : (fun j => bb_toR ad ((List.replicate N Value.null).getD j .null)) = fun _ => none := funext fun j => by
    rw [List.getD_eq_getElem?_getD, List.getElem?_replicate]
    split <;> rfl
  simp only [bb_arr, List.length_replicate]
  rw [e]
/-- one new array, of a class that the tables know -/
theorem bb_arr1 {D : va_G} {cA : FieldType → ClassId} {s : State} {t0 : Nat} {ty : FieldType} {cA' : ClassId} (hK : va_K D vwCl (bb_tys cA) s) (ht : (bb_tys cA)[t0]? = some (cA ty, ty)) (hK2 : va_K D vwCl (bb_tys cA ++ [(cA', ty)]) s) : cA' = cA ty := by
  have h1 := (hK.2 t0 _ ht).2
  have h2 := (hK2.2 (bb_tys cA).length (cA', ty) (by rw [List.getElem?_append_right (Nat.le_refl _), Nat.sub_self]; rfl)).2
  unfold va_RA at h1 h2
  cases ty <;> first
    | (obtain ⟨_, _, _, _, _, f1⟩ := h1; obtain ⟨_, _, _, _, _, f2⟩ := h2; exact Option.some.inj (f2.symm.trans f1))
    | exact Option.some.inj (h2.symm.trans h1)
theorem bb_sz1 (t : FieldType ⊕ Nat) (N : Nat) (v : Value) : bb_sz [((t, List.replicate N v) : bb_C)] = N := by
  simp only [bb_sz, List.map_cons, List.map_nil, List.sum_cons, List.sum_nil, List.length_replicate]
  rfl
theorem bb_nnewa {atype : ArrayType} {ty : FieldType} {dv : Value} {t0 N' : Nat} {n : Int32} {a0 : vp_A} {h' : bb_H} (harr : Cond.arrayClass (newarray.typeOf atype) ∈ bb_good) (hty : newarray.typeOf atype = ty) (ht : ∀ cA, (bb_tys cA)[t0]? = some (cA ty, ty)) (ha : ∀ cA : ClassId, vp_cell cA a0 = arrV cA N' (fun _ => defaultValue ty)) (hz : ∀ ad, bb_arr ad ty (List.replicate N' dv) = a0) (hn : ¬ n < 0) (hN : n.toNatClampNeg = N') (hbytes : N' * componentBytes ty ≤ 536870912) (hd : decode cc pc = .ok (.newarray atype, 2)) (hal : bb_al n0 s0 rm h (L ++ st) [(.inl ty, List.replicate N' dv)] = some h') (kk : bb_N own cc nL rm n0 s0 o (pc + 2) L (.ref h.length :: st) h') : bb_N own cc nL rm n0 s0 o pc L (.int n :: st) h := by
  intro p l e s m args below meth c D cA A ad ad0 H locs ls hX hI hY hL hV
  obtain ⟨a1, a2, a3, a4, a5, -⟩ := bb_al_spec hal
  have hg := hX.2.2.2.2.1
  obtain ⟨v1, v2, v3, v4⟩ := id hV
  have z1 := bb_sz1 (.inl ty) N' dv
  rw [z1] at a2
  simp only [List.length_cons, List.length_nil] at a1 a3
  refine va_newa hX.1 hX.2.1 (hg _ harr) hty hX.2.2.2.2.2.2.2.1.1 hY.1 hY.2.1 hY.2.2 hX.2.2.2.2.2.2.2.2.2 ha hn hN hbytes (by omega) (by omega) hd (fun q cA' H1 hK1 hP1 hD1 hS1 => ?_)
  have ec := bb_arr1 hX.2.2.2.2.2.2.2.1.1 (ht cA) hK1
  subst ec
  rw [bb_stE (st := st) (ad := ad) (k := 1) (q := fun _ => q) a5 (fun v hv => List.mem_append_right _ hv)]
  have e1 : bb_ws (bb_ext ad h.length 1 (fun _ => q)) cA h.length [((.inl ty, List.replicate N' dv) : bb_C)] = [(q, .inl (cA ty, a0))] := by
    show [(bb_ext ad h.length 1 (fun _ => q) h.length, (Sum.inl (cA ty, bb_arr _ ty _) : va_E))] = _
    rw [hz, show bb_ext ad h.length 1 (fun _ => q) h.length = q from bb_ext_in (i := 0) (by decide)]
  have e2 : Value.ref q = bb_cv (bb_ext ad h.length 1 (fun _ => q)) (.ref h.length) := by
    show _ = Value.ref (bb_ext ad h.length 1 (fun _ => q) h.length)
    rw [show bb_ext ad h.length 1 (fun _ => q) h.length = q from bb_ext_in (i := 0) (by decide)]
  rw [e2, ← List.map_cons]
  exact bb_grow (q := fun _ => q) hal hX hI hL (fun v hv => List.mem_append_left _ hv) hV (by rw [show [((.inl ty, List.replicate N' dv) : bb_C)].length = 1 from rfl, e1]; exact hP1) (by rw [show [((.inl ty, List.replicate N' dv) : bb_C)].length = 1 from rfl, e1]; exact hD1) hS1 rfl (by rw [z1]) kk
theorem bb_nnewq {C : String} {ix t0 N' : Nat} {n : Int32} {h' : bb_H} (hcl : Cond.classLink own ix C ∈ bb_good) (hover : ∀ U, bb_KA U → va_AO C U) (ht : ∀ cA, (bb_tys cA)[t0]? = some (cA (.object C), .object C)) (hn : ¬ n < 0) (hN : n.toNatClampNeg = N') (hbytes : N' * 4 ≤ 536870912) (hd : decode cc pc = .ok (.anewarray ix, 3)) (hal : bb_al n0 s0 rm h (L ++ st) [(.inl (.object C), List.replicate N' .null)] = some h') (kk : bb_N own cc nL rm n0 s0 o (pc + 3) L (.ref h.length :: st) h') : bb_N own cc nL rm n0 s0 o pc L (.int n :: st) h := by
  intro p l e s m args below meth c D cA A ad ad0 H locs ls hX hI hY hL hV
  obtain ⟨a1, a2, a3, a4, a5, -⟩ := bb_al_spec hal
  have hg := hX.2.2.2.2.1
  obtain ⟨v1, v2, v3, v4⟩ := id hV
  have z1 := bb_sz1 (.inl (.object C)) N' .null
  rw [z1] at a2
  simp only [List.length_cons, List.length_nil] at a1 a3
  refine va_newq hX.1 hX.2.1 hX.2.2.2.1 (hg _ hcl) (hover s hI.2) hX.2.2.2.2.2.2.2.1.1 hY.1 hY.2.1 hY.2.2 hX.2.2.2.2.2.2.2.2.2 hn hN hbytes (by omega) (by omega) hd (fun q cA' H1 hK1 hP1 hD1 hS1 => ?_)
  have ec := bb_arr1 hX.2.2.2.2.2.2.2.1.1 (ht cA) hK1
  subst ec
  rw [bb_stE (st := st) (ad := ad) (k := 1) (q := fun _ => q) a5 (fun v hv => List.mem_append_right _ hv)]
  have e1 : bb_ws (bb_ext ad h.length 1 (fun _ => q)) cA h.length [((.inl (.object C), List.replicate N' .null) : bb_C)] = [(q, .inl (cA (.object C), N', .inr (.inr (.inr (.inr (fun _ => none))))))] := by
    show [(bb_ext ad h.length 1 (fun _ => q) h.length, (Sum.inl (cA (.object C), bb_arr _ (.object C) _) : va_E))] = _
    rw [bb_zerosR, show bb_ext ad h.length 1 (fun _ => q) h.length = q from bb_ext_in (i := 0) (by decide)]
  have e2 : Value.ref q = bb_cv (bb_ext ad h.length 1 (fun _ => q)) (.ref h.length) := by
    show _ = Value.ref (bb_ext ad h.length 1 (fun _ => q) h.length)
    rw [show bb_ext ad h.length 1 (fun _ => q) h.length = q from bb_ext_in (i := 0) (by decide)]
  rw [e2, ← List.map_cons]
  exact bb_grow (q := fun _ => q) hal hX hI hL (fun v hv => List.mem_append_left _ hv) hV (by rw [show [((.inl (.object C), List.replicate N' .null) : bb_C)].length = 1 from rfl, e1]; exact hP1) (by rw [show [((.inl (.object C), List.replicate N' .null) : bb_C)].length = 1 from rfl, e1]; exact hD1) hS1 rfl (by rw [z1]) kk
end BBN
