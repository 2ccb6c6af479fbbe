/-! THE JUDGEMENT: from here, whatever the addresses, the method comes to its end with this answer and this heap. -/
/-- the places that stand for the one String constant and its bytes, which lie outside the heap -/
abbrev bb_qs : Nat := 1000000
abbrev bb_qv : Nat := 1000001
def bb_good : List Cond := lw_tbl.filter goodWord
def bb_tys (cA : FieldType → ClassId) : List (ClassId × FieldType) := [(cA .int, .int), (cA .char, .char), (cA .long, .long), (cA (.object "BattleBench$Bench"), .object "BattleBench$Bench"), (cA (.object "BattleBench$Sheet"), .object "BattleBench$Sheet"), (cA (.array .int), .array .int)]
def bb_nests : List (String × Nat × MethodName × String) := [("BattleBench", 11, ⟨"BattleBench$State", "<init>", "()V"⟩, "BattleBench"), ("BattleBench$State", 9, ⟨"BattleBench$Roll", "<init>", "()V"⟩, "BattleBench"), ("BattleBench$State", 18, ⟨"BattleBench$Bench", "<init>", "()V"⟩, "BattleBench"), ("BattleBench$Log", 24, ⟨"BattleBench$Bench", "<init>", "()V"⟩, "BattleBench"), ("BattleBench", 25, ⟨"BattleBench$Tape", "<init>", "()V"⟩, "BattleBench"), ("BattleBench$Tape", 21, ⟨"BattleBench$Roll", "<init>", "()V"⟩, "BattleBench"), ("BattleBench", 38, ⟨"BattleBench$Bench", "<init>", "()V"⟩, "BattleBench"), ("BattleBench", 45, ⟨"BattleBench$Roll", "<init>", "()V"⟩, "BattleBench"), ("BattleBench", 52, ⟨"BattleBench$Order", "<init>", "()V"⟩, "BattleBench"), ("BattleBench", 61, ⟨"BattleBench$Sheet", "<init>", "()V"⟩, "BattleBench"), ("BattleBench$Roll", 27, ⟨"BattleBench", "within", "(III)Z"⟩, "BattleBench"), ("BattleBench$Bench", 32, ⟨"BattleBench", "within", "(III)Z"⟩, "BattleBench"), ("BattleBench$Tape", 88, ⟨"BattleBench", "within", "(III)Z"⟩, "BattleBench"), ("BattleBench$Roll", 55, ⟨"BattleBench", "holds", "(II)Z"⟩, "BattleBench"), ("BattleBench$Order", 28, ⟨"BattleBench", "holds", "(II)Z"⟩, "BattleBench"), ("BattleBench$Order", 35, ⟨"BattleBench", "within", "(III)Z"⟩, "BattleBench"), ("BattleBench$Sheet", 30, ⟨"BattleBench", "within", "(III)Z"⟩, "BattleBench")]
def bb_K (D : va_G) (cA : FieldType → ClassId) (qS : Nat) (U : State) : Prop := va_K D vwCl (bb_tys cA) U ∧ (∀ q ∈ bb_nests, va_Nw (.methodLinkNest q.1 q.2.1 q.2.2.1 q.2.2.2) U) ∧ vk_R "BattleBench$Tape" 49 "phudr" qS U
theorem bb_K.warm {D : va_G} {cA : FieldType → ClassId} {qS : Nat} {s U : State} (hW : s.WarmedH U.vm) (h : bb_K D cA qS s) : bb_K D cA qS U := ⟨va_K.moved hW.alike h.1, fun q hq => va_Nw.warmM hW (h.2.1 q hq), vk_R.warm hW h.2.2⟩
theorem bb_K.call {D : va_G} {cA : FieldType → ClassId} {qS : Nat} {U : State} (g : JFrame) (mk : MethodId) (a : Array Value) (h : bb_K D cA qS U) : bb_K D cA qS (U.calling g mk a) := ⟨va_K.moved (u := U) (U := U.calling g mk a) (Vm.Alike.refl U.vm) h.1, fun q hq => va_Nw.same (u := U) (U := U.calling g mk a) rfl rfl (h.2.1 q hq), vk_R.same (u := U) (U := U.calling g mk a) rfl h.2.2⟩
def bb_Z (qS qV : Nat) (A : Nat → Prop) (U : State) (H : Heap) : Prop := vk_S 1 [5] [[112, 104, 117, 100, 114]] (fun _ => qS) (fun _ => qV) A U H ∧ va_Z "java/lang/String" "COMPACT_STRINGS" "Z" (.int 1) A U H
theorem bb_Z.go {qS qV : Nat} {A B : Nat → Prop} {s U : State} {H H1 : Heap} (h : bb_Z qS qV A s H) (hvm : s.vm.Alike U.vm) (hq : ∀ a : Nat, a < H.size → ¬ A a → H1[a]? = H[a]?) (hAB : ∀ q, B q → A q) : bb_Z qS qV B U H1 :=
  ⟨((h.1.moved hvm).kept hq).narrow hAB, ((h.2.moved hvm).kept hq).narrow hAB⟩
/-! locals by their places; null: not known -/
def bb_L (ad : Nat → Nat) (nL : Nat) (ls : Array Slot) (L : List Value) : Prop := ls.size = nL ∧ lv_wf ls ∧ ∀ (i : Nat) (v : Value), L[i]? = some v → v ≠ .null → ls[i]? = some (.val (bb_cv ad v))
def bb_lp (ad : Nat → Nat) (L : List Value) : List (Nat × Value) := (List.range L.length).filterMap (fun k : Nat => match (L[k]? : Option Value) with | some Value.null => none | some v => some (k, bb_cv ad v) | none => none)
theorem bb_lp_mem {ad : Nat → Nat} {L : List Value} {i : Nat} {v : Value} (h : L[i]? = some v) (hv : v ≠ .null) : (i, bb_cv ad v) ∈ bb_lp ad L := by
  refine List.mem_filterMap.mpr ⟨i, List.mem_range.mpr (List.getElem?_eq_some_iff.mp h).1, ?_⟩
  rw [h]
  cases v <;> first | rfl | exact absurd rfl hv
theorem bb_lp_of {ad : Nat → Nat} {L : List Value} {q : Nat × Value} (h : q ∈ bb_lp ad L) : ∃ v, L[q.1]? = some v ∧ v ≠ .null ∧ q.2 = bb_cv ad v := by
  obtain ⟨k, -, hk⟩ := List.mem_filterMap.mp h
  split at hk
  · cases hk
  · rename_i v hne hv
    cases hk
    exact ⟨v, hv, fun e => hne (by rw [e]), rfl⟩
  · cases hk
theorem bb_L.has {ad : Nat → Nat} {nL : Nat} {ls : Array Slot} {L : List Value} (h : bb_L ad nL ls L) : lv_has ls nL (bb_lp ad L) := ⟨h.1, h.2.1, fun q hq => by
  obtain ⟨v, h1, h2, h3⟩ := bb_lp_of hq
  rw [h3]
  exact h.2.2 q.1 v h1 h2⟩
theorem bb_L.of {ad : Nat → Nat} {nL : Nat} {ls : Array Slot} {L : List Value} {lv : List (Nat × Value)} (h : lv_has ls nL lv) (hm : ∀ (i : Nat) (v : Value), L[i]? = some v → v ≠ .null → (i, bb_cv ad v) ∈ lv) : bb_L ad nL ls L := ⟨h.1, h.2.1, fun i v h1 h2 => h.2.2 (i, bb_cv ad v) (hm i v h1 h2)⟩
theorem bb_cat (ad : Nat → Nat) (v : Value) : (bb_cv ad v).category = v.category := by cases v <;> rfl
/-- no long ends at this place -/
def bb_nol (L : List Value) (i : Nat) : Bool := match i with
  | 0 => true
  | j + 1 => match L[j]? with
    | some v => v.category != 2
    | none => true
theorem bb_L.store {ad : Nat → Nat} {nL : Nat} {ls' : Array Slot} {L : List Value} {i : Nat} {w : Value} (hno : bb_nol L i = true) (h : lv_has ls' nL ((i, bb_cv ad w) :: (bb_lp ad L).filter (fun q => !(q.1 == i) && !(q.1 + 1 == i && q.2.category == 2)))) : bb_L ad nL ls' (L.set i w) := by
  refine bb_L.of h (fun k v hk hv => ?_)
  by_cases e : k = i
  · subst e
    have hl : k < L.length := by
      have := (List.getElem?_eq_some_iff.mp hk).1
      rwa [List.length_set] at this
    rw [List.getElem?_set_self hl] at hk
    cases hk
    exact List.mem_cons_self
  · rw [List.getElem?_set_ne (fun q => e q.symm)] at hk
    refine List.mem_cons_of_mem _ (List.mem_filter.mpr ⟨bb_lp_mem hk hv, ?_⟩)
    have e1 : (k == i) = false := by simpa using e
    have e2 : (k + 1 == i && (bb_cv ad v).category == 2) = false := by
      rw [bb_cat]
      cases i with
      | zero => simp
      | succ j =>
        by_cases hkj : k = j
        · subst hkj
          unfold bb_nol at hno
          simp only [hk] at hno
          simpa using hno
        · simp [hkj]
    simp [e1, e2]
theorem bb_L.fewer {ad : Nat → Nat} {nL : Nat} {ls : Array Slot} {L L' : List Value} (h : bb_L ad nL ls L) (hm : ∀ (i : Nat) (v : Value), L'[i]? = some v → v ≠ .null → L[i]? = some v) : bb_L ad nL ls L' := ⟨h.1, h.2.1, fun i v h1 h2 => h.2.2 i v (hm i v h1 h2) h2⟩
/-- at each place the same, or not known -/
def bb_le : List Value → List Value → Prop
  | [], _ => True
  | .null :: L', _ :: L => bb_le L' L
  | v :: L', w :: L => v = w ∧ bb_le L' L
  | _ :: _, [] => False
theorem bb_le.use : ∀ {L' L : List Value}, bb_le L' L → ∀ (i : Nat) (v : Value), L'[i]? = some v → v ≠ .null → L[i]? = some v
  | [], _, _, i, v, h, _ => by simp at h
  | a :: L', [], hle, i, v, h, hv => by
    unfold bb_le at hle
    cases a <;> exact absurd hle (by simp)
  | a :: L', w :: L, hle, i, v, h, hv => by
    cases i with
    | zero =>
      rw [List.getElem?_cons_zero] at h ⊢
      cases h
      unfold bb_le at hle
      cases a <;> first | exact absurd rfl hv | (rw [hle.1])
    | succ i =>
      rw [List.getElem?_cons_succ] at h ⊢
      refine bb_le.use (L' := L') (L := L) ?_ i v h hv
      unfold bb_le at hle
      cases a <;> first | exact hle | exact hle.2
/-! the static side of a walk, and the judgement -/
def bb_X (own : String) (cc : ByteArray) (nL : Nat) (ret : Option FieldType) (p : Program) (s : State) (m : MethodId) (args : Array Value) (meth : Method) (c : Code) (D : va_G) (cA : FieldType → ClassId) (qS qV : Nat) (A : Nat → Prop) : Prop :=
  p.tables.exec = Jvm.exec ∧ c.code = cc ∧ c.maxLocals = nL ∧ s.vm.findClass own = some m.cls ∧ (∀ w ∈ bb_good, w.before args s = true) ∧ meth.sig.returnType = ret ∧ meth.locks = false ∧ bb_K D cA qS s ∧ bb_Z qS qV A s s.heap ∧ (∀ q, s.heap.size ≤ q → A q)
def bb_Y (D : va_G) (cA : FieldType → ClassId) (A : Nat → Prop) (ad : Nat → Nat) (h : bb_H) (H0 H : Heap) (locs : List Loc) : Prop := va_P D vwCl (bb_ws ad cA 0 h) H ∧ va_D A (bb_ws ad cA 0 h) ∧ va_S A H0 H locs
def bb_B (D : va_G) (cA : FieldType → ClassId) (A : Nat → Prop) (ad : Nat → Nat) (h : bb_H) (t : State) : Prop := va_P D vwCl (bb_ws ad cA 0 h) t.heap ∧ va_D A (bb_ws ad cA 0 h)
def bb_Q (r : Option Value) (B : State → Prop) (A : Nat → Prop) : Array Value → State → Outcome → State → Prop := fun _ st oc t => (oc = .returned r ∧ B t) ∧ va_F A st t
def bb_J (own : String) (cc : ByteArray) (nL : Nat) (ret : Option FieldType) (rm : Room) (o : Option Value × bb_H) (pc : Nat) (L st : List Value) (h : bb_H) : Prop :=
  ∀ (p : Program) (l : Launch) (e : Env) (s : State) (m : MethodId) (args : Array Value) (below : List Frame) (meth : Method) (c : Code) (D : va_G) (cA : FieldType → ClassId) (A : Nat → Prop) (ad : Nat → Nat) (H : Heap) (locs : List Loc) (ls : Array Slot), bb_X own cc nL ret p s m args meth c D cA (ad bb_qs) (ad bb_qv) A → bb_Y D cA A ad h s.heap H locs → bb_L ad nL ls L →
    W p l e rm s m args below meth c H locs 0 0 (MQ below (bb_Q (o.1.map (bb_cv ad)) (bb_B D cA A ad o.2) A) args s 0 0 A) (F0 m pc ls (st.map (bb_cv ad)))
section BBJ
variable {own : String} {cc : ByteArray} {nL : Nat} {ret : Option FieldType} {rm : Room} {o : Option Value × bb_H} {pc : Nat} {L L' st : List Value} {h : bb_H}
theorem bb_fewer (hle : bb_le L' L) (k : bb_J own cc nL ret rm o pc L' st h) : bb_J own cc nL ret rm o pc L st h :=
  fun p l e s m args below meth c D cA A ad H locs ls hX hY hL => k p l e s m args below meth c D cA A ad H locs ls hX hY (hL.fewer hle.use)
theorem bb_iconst {n : Int} {v : Int32} (hd : decode cc pc = .ok (.iconst n, 1)) (hv : Int32.ofInt n = v) (k : bb_J own cc nL ret rm o (pc + 1) L (.int v :: st) h) : bb_J own cc nL ret rm o pc L st h :=
  fun p l e s m args below meth c D cA A ad H locs ls hX hY hL => lv_iconst hX.1 hX.2.1 hd hv (k p l e s m args below meth c D cA A ad H locs ls hX hY hL)
theorem bb_bipush {n : Int} {v : Int32} (hd : decode cc pc = .ok (.bipush n, 2)) (hv : (Int8.ofInt n).toInt32 = v) (k : bb_J own cc nL ret rm o (pc + 2) L (.int v :: st) h) : bb_J own cc nL ret rm o pc L st h :=
  fun p l e s m args below meth c D cA A ad H locs ls hX hY hL => lv_bipush hX.1 hX.2.1 hd hv (k p l e s m args below meth c D cA A ad H locs ls hX hY hL)
theorem bb_sipush {n : Int} {v : Int32} (hd : decode cc pc = .ok (.sipush n, 3)) (hv : (Int16.ofInt n).toInt32 = v) (k : bb_J own cc nL ret rm o (pc + 3) L (.int v :: st) h) : bb_J own cc nL ret rm o pc L st h :=
  fun p l e s m args below meth c D cA A ad H locs ls hX hY hL => lv_sipush hX.1 hX.2.1 hd hv (k p l e s m args below meth c D cA A ad H locs ls hX hY hL)
theorem bb_lconst {n : Fin 2} {v : Int64} (hd : decode cc pc = .ok (.lconst n, 1)) (hv : Int64.ofNat (n : Nat) = v) (k : bb_J own cc nL ret rm o (pc + 1) L (.long v :: st) h) : bb_J own cc nL ret rm o pc L st h :=
  fun p l e s m args below meth c D cA A ad H locs ls hX hY hL => lv_lconst hX.1 hX.2.1 hd hv (k p l e s m args below meth c D cA A ad H locs ls hX hY hL)
theorem bb_ldc {ix : Nat} {v : Int32} (hc : Cond.constant own ix v ∈ bb_good) (hd : decode cc pc = .ok (.ldc ix, 2)) (k : bb_J own cc nL ret rm o (pc + 2) L (.int v :: st) h) : bb_J own cc nL ret rm o pc L st h :=
  fun p l e s m args below meth c D cA A ad H locs ls hX hY hL => lv_ldc hX.1 hX.2.1 hX.2.2.2.1 (hX.2.2.2.2.1 _ hc) hd (k p l e s m args below meth c D cA A ad H locs ls hX hY hL)
theorem bb_ldcw {ix : Nat} {v : Int32} (hc : Cond.constant own ix v ∈ bb_good) (hd : decode cc pc = .ok (.ldc_w ix, 3)) (k : bb_J own cc nL ret rm o (pc + 3) L (.int v :: st) h) : bb_J own cc nL ret rm o pc L st h :=
  fun p l e s m args below meth c D cA A ad H locs ls hX hY hL => lv_ldcw hX.1 hX.2.1 hX.2.2.2.1 (hX.2.2.2.2.1 _ hc) hd (k p l e s m args below meth c D cA A ad H locs ls hX hY hL)
theorem bb_iload {i : Nat} {x : Int32} (hd : decode cc pc = .ok (.iload i, 2)) (hl : L[i]? = some (.int x)) (k : bb_J own cc nL ret rm o (pc + 2) L (.int x :: st) h) : bb_J own cc nL ret rm o pc L st h :=
  fun p l e s m args below meth c D cA A ad H locs ls hX hY hL => lv_iload hX.1 hX.2.1 hd (hL.2.2 i _ hl (fun z => by cases z)) (k p l e s m args below meth c D cA A ad H locs ls hX hY hL)
theorem bb_iload_n {i : Fin 4} {x : Int32} (hd : decode cc pc = .ok (.iload_n i, 1)) (hl : L[(i : Nat)]? = some (.int x)) (k : bb_J own cc nL ret rm o (pc + 1) L (.int x :: st) h) : bb_J own cc nL ret rm o pc L st h :=
  fun p l e s m args below meth c D cA A ad H locs ls hX hY hL => lv_iload_n hX.1 hX.2.1 hd rfl (hL.2.2 i _ hl (fun z => by cases z)) (k p l e s m args below meth c D cA A ad H locs ls hX hY hL)
theorem bb_lload {i : Nat} {x : Int64} (hd : decode cc pc = .ok (.lload i, 2)) (hl : L[i]? = some (.long x)) (k : bb_J own cc nL ret rm o (pc + 2) L (.long x :: st) h) : bb_J own cc nL ret rm o pc L st h :=
  fun p l e s m args below meth c D cA A ad H locs ls hX hY hL => lv_lload hX.1 hX.2.1 hd (hL.2.2 i _ hl (fun z => by cases z)) (k p l e s m args below meth c D cA A ad H locs ls hX hY hL)
theorem bb_lload_n {i : Fin 4} {x : Int64} (hd : decode cc pc = .ok (.lload_n i, 1)) (hl : L[(i : Nat)]? = some (.long x)) (k : bb_J own cc nL ret rm o (pc + 1) L (.long x :: st) h) : bb_J own cc nL ret rm o pc L st h :=
  fun p l e s m args below meth c D cA A ad H locs ls hX hY hL => lv_lload_n hX.1 hX.2.1 hd rfl (hL.2.2 i _ hl (fun z => by cases z)) (k p l e s m args below meth c D cA A ad H locs ls hX hY hL)
theorem bb_aload {i : Nat} {x : Nat} (hd : decode cc pc = .ok (.aload i, 2)) (hl : L[i]? = some (.ref x)) (k : bb_J own cc nL ret rm o (pc + 2) L (.ref x :: st) h) : bb_J own cc nL ret rm o pc L st h :=
  fun p l e s m args below meth c D cA A ad H locs ls hX hY hL => lv_aload hX.1 hX.2.1 hd (hL.2.2 i _ hl (fun z => by cases z)) (k p l e s m args below meth c D cA A ad H locs ls hX hY hL)
theorem bb_aload_n {i : Fin 4} {x : Nat} (hd : decode cc pc = .ok (.aload_n i, 1)) (hl : L[(i : Nat)]? = some (.ref x)) (k : bb_J own cc nL ret rm o (pc + 1) L (.ref x :: st) h) : bb_J own cc nL ret rm o pc L st h :=
  fun p l e s m args below meth c D cA A ad H locs ls hX hY hL => lv_aload_n hX.1 hX.2.1 hd rfl (hL.2.2 i _ hl (fun z => by cases z)) (k p l e s m args below meth c D cA A ad H locs ls hX hY hL)
theorem bb_istore {i : Nat} {x : Int32} (hd : decode cc pc = .ok (.istore i, 2)) (hn : i < nL) (hno : bb_nol L i = true) (hL' : L.set i (.int x) = L') (k : bb_J own cc nL ret rm o (pc + 2) L' st h) : bb_J own cc nL ret rm o pc L (.int x :: st) h :=
  fun p l e s m args below meth c D cA A ad H locs ls hX hY hL => lv_istore hX.1 hX.2.1 hd hL.has hn rfl (fun ls' hl' => k p l e s m args below meth c D cA A ad H locs ls' hX hY (hL' ▸ bb_L.store hno hl'))
theorem bb_istore_n {i : Fin 4} {x : Int32} (hd : decode cc pc = .ok (.istore_n i, 1)) (hn : (i : Nat) < nL) (hno : bb_nol L i = true) (hL' : L.set i (.int x) = L') (k : bb_J own cc nL ret rm o (pc + 1) L' st h) : bb_J own cc nL ret rm o pc L (.int x :: st) h :=
  fun p l e s m args below meth c D cA A ad H locs ls hX hY hL => lv_istore_n hX.1 hX.2.1 hd rfl hL.has hn rfl (fun ls' hl' => k p l e s m args below meth c D cA A ad H locs ls' hX hY (hL' ▸ bb_L.store hno hl'))
theorem bb_astore {i : Nat} {x : Nat} (hd : decode cc pc = .ok (.astore i, 2)) (hn : i < nL) (hno : bb_nol L i = true) (hL' : L.set i (.ref x) = L') (k : bb_J own cc nL ret rm o (pc + 2) L' st h) : bb_J own cc nL ret rm o pc L (.ref x :: st) h :=
  fun p l e s m args below meth c D cA A ad H locs ls hX hY hL => lv_astore hX.1 hX.2.1 hd hL.has hn rfl (fun ls' hl' => k p l e s m args below meth c D cA A ad H locs ls' hX hY (hL' ▸ bb_L.store (w := .ref x) hno hl'))
theorem bb_astore_n {i : Fin 4} {x : Nat} (hd : decode cc pc = .ok (.astore_n i, 1)) (hn : (i : Nat) < nL) (hno : bb_nol L i = true) (hL' : L.set i (.ref x) = L') (k : bb_J own cc nL ret rm o (pc + 1) L' st h) : bb_J own cc nL ret rm o pc L (.ref x :: st) h :=
  fun p l e s m args below meth c D cA A ad H locs ls hX hY hL => lv_astore_n hX.1 hX.2.1 hd rfl hL.has hn rfl (fun ls' hl' => k p l e s m args below meth c D cA A ad H locs ls' hX hY (hL' ▸ bb_L.store (w := .ref x) hno hl'))
theorem bb_iinc {i : Nat} {n : Int} {x v : Int32} (hd : decode cc pc = .ok (.iinc i n, 3)) (hl : L[i]? = some (.int x)) (hv : x + Int32.ofInt n = v) (hn : i < nL) (hno : bb_nol L i = true) (hL' : L.set i (.int v) = L') (k : bb_J own cc nL ret rm o (pc + 3) L' st h) : bb_J own cc nL ret rm o pc L st h := by
  intro p l e s m args below meth c D cA A ad H locs ls hX hY hL
  obtain ⟨j, hj⟩ := List.getElem?_of_mem (bb_lp_mem (ad := ad) hl (fun z => by cases z))
  exact lv_iinc hX.1 hX.2.1 hd hL.has (k := j) hj hv hn rfl (fun ls' hl' => k p l e s m args below meth c D cA A ad H locs ls' hX hY (hL' ▸ bb_L.store hno hl'))
theorem bb_goto {off : Int} {tgt : Nat} (hd : decode cc pc = .ok (.goto off, 3)) (ht : (pc : Int) + off = (tgt : Int)) (k : bb_J own cc nL ret rm o tgt L st h) : bb_J own cc nL ret rm o pc L st h :=
  fun p l e s m args below meth c D cA A ad H locs ls hX hY hL => lv_goto hX.1 hX.2.1 hd ht (k p l e s m args below meth c D cA A ad H locs ls hX hY hL)
theorem bb_iadd {x y : Int32} (hd : decode cc pc = .ok (.iadd, 1)) (k : bb_J own cc nL ret rm o (pc + 1) L (.int (x + y) :: st) h) : bb_J own cc nL ret rm o pc L (.int y :: .int x :: st) h :=
  fun p l e s m args below meth c D cA A ad H locs ls hX hY hL => lv_iadd hX.1 hX.2.1 hd (k p l e s m args below meth c D cA A ad H locs ls hX hY hL)
theorem bb_isub {x y : Int32} (hd : decode cc pc = .ok (.isub, 1)) (k : bb_J own cc nL ret rm o (pc + 1) L (.int (x - y) :: st) h) : bb_J own cc nL ret rm o pc L (.int y :: .int x :: st) h :=
  fun p l e s m args below meth c D cA A ad H locs ls hX hY hL => lv_isub hX.1 hX.2.1 hd (k p l e s m args below meth c D cA A ad H locs ls hX hY hL)
theorem bb_imul {x y : Int32} (hd : decode cc pc = .ok (.imul, 1)) (k : bb_J own cc nL ret rm o (pc + 1) L (.int (x * y) :: st) h) : bb_J own cc nL ret rm o pc L (.int y :: .int x :: st) h :=
  fun p l e s m args below meth c D cA A ad H locs ls hX hY hL => lv_imul hX.1 hX.2.1 hd (k p l e s m args below meth c D cA A ad H locs ls hX hY hL)
theorem bb_iand {x y : Int32} (hd : decode cc pc = .ok (.iand, 1)) (k : bb_J own cc nL ret rm o (pc + 1) L (.int (x &&& y) :: st) h) : bb_J own cc nL ret rm o pc L (.int y :: .int x :: st) h :=
  fun p l e s m args below meth c D cA A ad H locs ls hX hY hL => lv_iand hX.1 hX.2.1 hd (k p l e s m args below meth c D cA A ad H locs ls hX hY hL)
theorem bb_ior {x y : Int32} (hd : decode cc pc = .ok (.ior, 1)) (k : bb_J own cc nL ret rm o (pc + 1) L (.int (x ||| y) :: st) h) : bb_J own cc nL ret rm o pc L (.int y :: .int x :: st) h :=
  fun p l e s m args below meth c D cA A ad H locs ls hX hY hL => lv_ior hX.1 hX.2.1 hd (k p l e s m args below meth c D cA A ad H locs ls hX hY hL)
theorem bb_ixor {x y : Int32} (hd : decode cc pc = .ok (.ixor, 1)) (k : bb_J own cc nL ret rm o (pc + 1) L (.int (x ^^^ y) :: st) h) : bb_J own cc nL ret rm o pc L (.int y :: .int x :: st) h :=
  fun p l e s m args below meth c D cA A ad H locs ls hX hY hL => lv_ixor hX.1 hX.2.1 hd (k p l e s m args below meth c D cA A ad H locs ls hX hY hL)
theorem bb_ishl {x y : Int32} (hd : decode cc pc = .ok (.ishl, 1)) (k : bb_J own cc nL ret rm o (pc + 1) L (.int (x <<< (y &&& 31)) :: st) h) : bb_J own cc nL ret rm o pc L (.int y :: .int x :: st) h :=
  fun p l e s m args below meth c D cA A ad H locs ls hX hY hL => lv_ishl hX.1 hX.2.1 hd (k p l e s m args below meth c D cA A ad H locs ls hX hY hL)
theorem bb_ishr {x y : Int32} (hd : decode cc pc = .ok (.ishr, 1)) (k : bb_J own cc nL ret rm o (pc + 1) L (.int (x >>> (y &&& 31)) :: st) h) : bb_J own cc nL ret rm o pc L (.int y :: .int x :: st) h :=
  fun p l e s m args below meth c D cA A ad H locs ls hX hY hL => lv_ishr hX.1 hX.2.1 hd (k p l e s m args below meth c D cA A ad H locs ls hX hY hL)
theorem bb_idiv {x y : Int32} (hd : decode cc pc = .ok (.idiv, 1)) (hne : ¬ y = 0) (k : bb_J own cc nL ret rm o (pc + 1) L (.int (x / y) :: st) h) : bb_J own cc nL ret rm o pc L (.int y :: .int x :: st) h :=
  fun p l e s m args below meth c D cA A ad H locs ls hX hY hL => lv_idiv hX.1 hX.2.1 hd hne (k p l e s m args below meth c D cA A ad H locs ls hX hY hL)
theorem bb_irem {x y : Int32} (hd : decode cc pc = .ok (.irem, 1)) (hne : ¬ y = 0) (k : bb_J own cc nL ret rm o (pc + 1) L (.int (x - x / y * y) :: st) h) : bb_J own cc nL ret rm o pc L (.int y :: .int x :: st) h :=
  fun p l e s m args below meth c D cA A ad H locs ls hX hY hL => lv_irem hX.1 hX.2.1 hd hne (k p l e s m args below meth c D cA A ad H locs ls hX hY hL)
theorem bb_ineg {x : Int32} (hd : decode cc pc = .ok (.ineg, 1)) (k : bb_J own cc nL ret rm o (pc + 1) L (.int (-x) :: st) h) : bb_J own cc nL ret rm o pc L (.int x :: st) h :=
  fun p l e s m args below meth c D cA A ad H locs ls hX hY hL => lv_ineg hX.1 hX.2.1 hd (k p l e s m args below meth c D cA A ad H locs ls hX hY hL)
theorem bb_iushr {x y : Int32} (hd : decode cc pc = .ok (.iushr, 1)) (k : bb_J own cc nL ret rm o (pc + 1) L (.int ((x.toUInt32 >>> (y.toUInt32 &&& Int32.toUInt32 31)).toInt32) :: st) h) : bb_J own cc nL ret rm o pc L (.int y :: .int x :: st) h :=
  fun p l e s m args below meth c D cA A ad H locs ls hX hY hL => lv_iushr hX.1 hX.2.1 hd rfl (k p l e s m args below meth c D cA A ad H locs ls hX hY hL)
theorem bb_i2l {x : Int32} (hd : decode cc pc = .ok (.i2l, 1)) (k : bb_J own cc nL ret rm o (pc + 1) L (.long x.toInt64 :: st) h) : bb_J own cc nL ret rm o pc L (.int x :: st) h :=
  fun p l e s m args below meth c D cA A ad H locs ls hX hY hL => lv_i2l hX.1 hX.2.1 hd rfl (k p l e s m args below meth c D cA A ad H locs ls hX hY hL)
theorem bb_l2i {x : Int64} (hd : decode cc pc = .ok (.l2i, 1)) (k : bb_J own cc nL ret rm o (pc + 1) L (.int x.toInt32 :: st) h) : bb_J own cc nL ret rm o pc L (.long x :: st) h :=
  fun p l e s m args below meth c D cA A ad H locs ls hX hY hL => lv_l2i hX.1 hX.2.1 hd rfl (k p l e s m args below meth c D cA A ad H locs ls hX hY hL)
theorem bb_i2b {x : Int32} (hd : decode cc pc = .ok (.i2b, 1)) (k : bb_J own cc nL ret rm o (pc + 1) L (.int x.toInt8.toInt32 :: st) h) : bb_J own cc nL ret rm o pc L (.int x :: st) h :=
  fun p l e s m args below meth c D cA A ad H locs ls hX hY hL => lv_i2b hX.1 hX.2.1 hd rfl (k p l e s m args below meth c D cA A ad H locs ls hX hY hL)
theorem bb_i2s {x : Int32} (hd : decode cc pc = .ok (.i2s, 1)) (k : bb_J own cc nL ret rm o (pc + 1) L (.int x.toInt16.toInt32 :: st) h) : bb_J own cc nL ret rm o pc L (.int x :: st) h :=
  fun p l e s m args below meth c D cA A ad H locs ls hX hY hL => lv_i2s hX.1 hX.2.1 hd rfl (k p l e s m args below meth c D cA A ad H locs ls hX hY hL)
theorem bb_i2c {x : Int32} (hd : decode cc pc = .ok (.i2c, 1)) (k : bb_J own cc nL ret rm o (pc + 1) L (.int (x.toUInt32 % 65536).toInt32 :: st) h) : bb_J own cc nL ret rm o pc L (.int x :: st) h :=
  fun p l e s m args below meth c D cA A ad H locs ls hX hY hL => lv_i2c hX.1 hX.2.1 hd rfl (k p l e s m args below meth c D cA A ad H locs ls hX hY hL)
theorem bb_lcmp {x y : Int64} (hd : decode cc pc = .ok (.lcmp, 1)) (k : bb_J own cc nL ret rm o (pc + 1) L (.int (lg_cmp x y) :: st) h) : bb_J own cc nL ret rm o pc L (.long y :: .long x :: st) h :=
  fun p l e s m args below meth c D cA A ad H locs ls hX hY hL => W.lcmp hX.1 hX.2.1 hd (k p l e s m args below meth c D cA A ad H locs ls hX hY hL)
theorem bb_dup {v : Value} (hd : decode cc pc = .ok (.dup, 1)) (hv : v.category = 1) (k : bb_J own cc nL ret rm o (pc + 1) L (v :: v :: st) h) : bb_J own cc nL ret rm o pc L (v :: st) h :=
  fun p l e s m args below meth c D cA A ad H locs ls hX hY hL => lv_dup hX.1 hX.2.1 hd ((bb_cat ad v).trans hv) (k p l e s m args below meth c D cA A ad H locs ls hX hY hL)
theorem bb_dup2 {v w : Value} (hd : decode cc pc = .ok (.dup2, 1)) (hv : v.category = 1) (hw : w.category = 1) (k : bb_J own cc nL ret rm o (pc + 1) L (v :: w :: v :: w :: st) h) : bb_J own cc nL ret rm o pc L (v :: w :: st) h :=
  fun p l e s m args below meth c D cA A ad H locs ls hX hY hL => lv_dup2_11 hX.1 hX.2.1 hd ((bb_cat ad v).trans hv) ((bb_cat ad w).trans hw) (k p l e s m args below meth c D cA A ad H locs ls hX hY hL)
theorem bb_pop {v : Value} (hd : decode cc pc = .ok (.pop, 1)) (hv : v.category = 1) (k : bb_J own cc nL ret rm o (pc + 1) L st h) : bb_J own cc nL ret rm o pc L (v :: st) h :=
  fun p l e s m args below meth c D cA A ad H locs ls hX hY hL => lv_pop hX.1 hX.2.1 hd ((bb_cat ad v).trans hv) (k p l e s m args below meth c D cA A ad H locs ls hX hY hL)
theorem bb_icmp_eq {x y : Int32} {off : Int} {tgt : Nat} (hd : decode cc pc = .ok (.if_icmp .eq off, 3)) (ht : (pc : Int) + off = (tgt : Int)) (kt : x = y → bb_J own cc nL ret rm o tgt L st h) (kf : ¬ x = y → bb_J own cc nL ret rm o (pc + 3) L st h) : bb_J own cc nL ret rm o pc L (.int y :: .int x :: st) h :=
  fun p l e s m args below meth c D cA A ad H locs ls hX hY hL => lv_icmp_eq hX.1 hX.2.1 hd ht (fun q => kt q p l e s m args below meth c D cA A ad H locs ls hX hY hL) (fun q => kf q p l e s m args below meth c D cA A ad H locs ls hX hY hL)
theorem bb_if_eq {x : Int32} {off : Int} {tgt : Nat} (hd : decode cc pc = .ok (.ifCond .eq off, 3)) (ht : (pc : Int) + off = (tgt : Int)) (kt : x = 0 → bb_J own cc nL ret rm o tgt L st h) (kf : ¬ x = 0 → bb_J own cc nL ret rm o (pc + 3) L st h) : bb_J own cc nL ret rm o pc L (.int x :: st) h :=
  fun p l e s m args below meth c D cA A ad H locs ls hX hY hL => lv_if_eq hX.1 hX.2.1 hd ht (fun q => kt q p l e s m args below meth c D cA A ad H locs ls hX hY hL) (fun q => kf q p l e s m args below meth c D cA A ad H locs ls hX hY hL)
theorem bb_icmp_ne {x y : Int32} {off : Int} {tgt : Nat} (hd : decode cc pc = .ok (.if_icmp .ne off, 3)) (ht : (pc : Int) + off = (tgt : Int)) (kt : ¬ x = y → bb_J own cc nL ret rm o tgt L st h) (kf : x = y → bb_J own cc nL ret rm o (pc + 3) L st h) : bb_J own cc nL ret rm o pc L (.int y :: .int x :: st) h :=
  fun p l e s m args below meth c D cA A ad H locs ls hX hY hL => lv_icmp_ne hX.1 hX.2.1 hd ht (fun q => kt q p l e s m args below meth c D cA A ad H locs ls hX hY hL) (fun q => kf q p l e s m args below meth c D cA A ad H locs ls hX hY hL)
theorem bb_if_ne {x : Int32} {off : Int} {tgt : Nat} (hd : decode cc pc = .ok (.ifCond .ne off, 3)) (ht : (pc : Int) + off = (tgt : Int)) (kt : ¬ x = 0 → bb_J own cc nL ret rm o tgt L st h) (kf : x = 0 → bb_J own cc nL ret rm o (pc + 3) L st h) : bb_J own cc nL ret rm o pc L (.int x :: st) h :=
  fun p l e s m args below meth c D cA A ad H locs ls hX hY hL => lv_if_ne hX.1 hX.2.1 hd ht (fun q => kt q p l e s m args below meth c D cA A ad H locs ls hX hY hL) (fun q => kf q p l e s m args below meth c D cA A ad H locs ls hX hY hL)
theorem bb_icmp_lt {x y : Int32} {off : Int} {tgt : Nat} (hd : decode cc pc = .ok (.if_icmp .lt off, 3)) (ht : (pc : Int) + off = (tgt : Int)) (kt : x < y → bb_J own cc nL ret rm o tgt L st h) (kf : ¬ x < y → bb_J own cc nL ret rm o (pc + 3) L st h) : bb_J own cc nL ret rm o pc L (.int y :: .int x :: st) h :=
  fun p l e s m args below meth c D cA A ad H locs ls hX hY hL => lv_icmp_lt hX.1 hX.2.1 hd ht (fun q => kt q p l e s m args below meth c D cA A ad H locs ls hX hY hL) (fun q => kf q p l e s m args below meth c D cA A ad H locs ls hX hY hL)
theorem bb_if_lt {x : Int32} {off : Int} {tgt : Nat} (hd : decode cc pc = .ok (.ifCond .lt off, 3)) (ht : (pc : Int) + off = (tgt : Int)) (kt : x < 0 → bb_J own cc nL ret rm o tgt L st h) (kf : ¬ x < 0 → bb_J own cc nL ret rm o (pc + 3) L st h) : bb_J own cc nL ret rm o pc L (.int x :: st) h :=
  fun p l e s m args below meth c D cA A ad H locs ls hX hY hL => lv_if_lt hX.1 hX.2.1 hd ht (fun q => kt q p l e s m args below meth c D cA A ad H locs ls hX hY hL) (fun q => kf q p l e s m args below meth c D cA A ad H locs ls hX hY hL)
theorem bb_icmp_ge {x y : Int32} {off : Int} {tgt : Nat} (hd : decode cc pc = .ok (.if_icmp .ge off, 3)) (ht : (pc : Int) + off = (tgt : Int)) (kt : y ≤ x → bb_J own cc nL ret rm o tgt L st h) (kf : ¬ y ≤ x → bb_J own cc nL ret rm o (pc + 3) L st h) : bb_J own cc nL ret rm o pc L (.int y :: .int x :: st) h :=
  fun p l e s m args below meth c D cA A ad H locs ls hX hY hL => lv_icmp_ge hX.1 hX.2.1 hd ht (fun q => kt q p l e s m args below meth c D cA A ad H locs ls hX hY hL) (fun q => kf q p l e s m args below meth c D cA A ad H locs ls hX hY hL)
theorem bb_if_ge {x : Int32} {off : Int} {tgt : Nat} (hd : decode cc pc = .ok (.ifCond .ge off, 3)) (ht : (pc : Int) + off = (tgt : Int)) (kt : 0 ≤ x → bb_J own cc nL ret rm o tgt L st h) (kf : ¬ 0 ≤ x → bb_J own cc nL ret rm o (pc + 3) L st h) : bb_J own cc nL ret rm o pc L (.int x :: st) h :=
  fun p l e s m args below meth c D cA A ad H locs ls hX hY hL => lv_if_ge hX.1 hX.2.1 hd ht (fun q => kt q p l e s m args below meth c D cA A ad H locs ls hX hY hL) (fun q => kf q p l e s m args below meth c D cA A ad H locs ls hX hY hL)
theorem bb_icmp_gt {x y : Int32} {off : Int} {tgt : Nat} (hd : decode cc pc = .ok (.if_icmp .gt off, 3)) (ht : (pc : Int) + off = (tgt : Int)) (kt : y < x → bb_J own cc nL ret rm o tgt L st h) (kf : ¬ y < x → bb_J own cc nL ret rm o (pc + 3) L st h) : bb_J own cc nL ret rm o pc L (.int y :: .int x :: st) h :=
  fun p l e s m args below meth c D cA A ad H locs ls hX hY hL => lv_icmp_gt hX.1 hX.2.1 hd ht (fun q => kt q p l e s m args below meth c D cA A ad H locs ls hX hY hL) (fun q => kf q p l e s m args below meth c D cA A ad H locs ls hX hY hL)
theorem bb_if_gt {x : Int32} {off : Int} {tgt : Nat} (hd : decode cc pc = .ok (.ifCond .gt off, 3)) (ht : (pc : Int) + off = (tgt : Int)) (kt : 0 < x → bb_J own cc nL ret rm o tgt L st h) (kf : ¬ 0 < x → bb_J own cc nL ret rm o (pc + 3) L st h) : bb_J own cc nL ret rm o pc L (.int x :: st) h :=
  fun p l e s m args below meth c D cA A ad H locs ls hX hY hL => lv_if_gt hX.1 hX.2.1 hd ht (fun q => kt q p l e s m args below meth c D cA A ad H locs ls hX hY hL) (fun q => kf q p l e s m args below meth c D cA A ad H locs ls hX hY hL)
theorem bb_icmp_le {x y : Int32} {off : Int} {tgt : Nat} (hd : decode cc pc = .ok (.if_icmp .le off, 3)) (ht : (pc : Int) + off = (tgt : Int)) (kt : x ≤ y → bb_J own cc nL ret rm o tgt L st h) (kf : ¬ x ≤ y → bb_J own cc nL ret rm o (pc + 3) L st h) : bb_J own cc nL ret rm o pc L (.int y :: .int x :: st) h :=
  fun p l e s m args below meth c D cA A ad H locs ls hX hY hL => lv_icmp_le hX.1 hX.2.1 hd ht (fun q => kt q p l e s m args below meth c D cA A ad H locs ls hX hY hL) (fun q => kf q p l e s m args below meth c D cA A ad H locs ls hX hY hL)
theorem bb_if_le {x : Int32} {off : Int} {tgt : Nat} (hd : decode cc pc = .ok (.ifCond .le off, 3)) (ht : (pc : Int) + off = (tgt : Int)) (kt : x ≤ 0 → bb_J own cc nL ret rm o tgt L st h) (kf : ¬ x ≤ 0 → bb_J own cc nL ret rm o (pc + 3) L st h) : bb_J own cc nL ret rm o pc L (.int x :: st) h :=
  fun p l e s m args below meth c D cA A ad H locs ls hX hY hL => lv_if_le hX.1 hX.2.1 hd ht (fun q => kt q p l e s m args below meth c D cA A ad H locs ls hX hY hL) (fun q => kf q p l e s m args below meth c D cA A ad H locs ls hX hY hL)
theorem bb_tableIn {dflt lo hi : Int} {offs : Array Int} {len : Nat} {x : Int32} {off : Int} {tgt : Nat} (hd : decode cc pc = .ok (.tableswitch dflt lo hi offs, len)) (h1 : ¬ x.toInt < lo) (h2 : ¬ hi < x.toInt) (ho : offs[(x.toInt - lo).toNat]? = some off) (ht : (pc : Int) + off = (tgt : Int)) (k : bb_J own cc nL ret rm o tgt L st h) : bb_J own cc nL ret rm o pc L (.int x :: st) h :=
  fun p l e s m args below meth c D cA A ad H locs ls hX hY hL => lv_tableIn hX.1 hX.2.1 hd h1 h2 ho ht (k p l e s m args below meth c D cA A ad H locs ls hX hY hL)
theorem bb_tableOut {dflt lo hi : Int} {offs : Array Int} {len : Nat} {x : Int32} {tgt : Nat} (hd : decode cc pc = .ok (.tableswitch dflt lo hi offs, len)) (h1 : x.toInt < lo ∨ hi < x.toInt) (ht : (pc : Int) + dflt = (tgt : Int)) (k : bb_J own cc nL ret rm o tgt L st h) : bb_J own cc nL ret rm o pc L (.int x :: st) h :=
  fun p l e s m args below meth c D cA A ad H locs ls hX hY hL => lv_tableOut hX.1 hX.2.1 hd h1 ht (k p l e s m args below meth c D cA A ad H locs ls hX hY hL)
theorem bb_lookup {dflt : Int} {ps : Array (Int × Int)} {len : Nat} {x : Int32} {off : Int} {tgt : Nat} (hd : decode cc pc = .ok (.lookupswitch dflt ps, len)) (hp : (ps.toList.zip (ps.toList.drop 1)).all (fun (a, next) => a.1 < next.1) = true) (ho : Op.lookupswitch.offset ps.toList dflt x.toInt = off) (ht : (pc : Int) + off = (tgt : Int)) (k : bb_J own cc nL ret rm o tgt L st h) : bb_J own cc nL ret rm o pc L (.int x :: st) h :=
  fun p l e s m args below meth c D cA A ad H locs ls hX hY hL => lv_lookup hX.1 hX.2.1 hd hp ho ht (k p l e s m args below meth c D cA A ad H locs ls hX hY hL)
theorem bb_swout (x : Int32) (lo hi : Nat) (hh : hi < 2 ^ 31) (q : ∀ n, lo ≤ n → n ≤ hi → x ≠ nI n) : x.toInt < (lo : Int) ∨ (hi : Int) < x.toInt := by
  by_cases h1 : x.toInt < (lo : Int)
  · exact Or.inl h1
  · by_cases h2 : (hi : Int) < x.toInt
    · exact Or.inr h2
    · exfalso
      refine q x.toInt.toNat (by omega) (by omega) ?_
      apply Int32.toInt_inj.mp
      rw [nI_toInt (by omega)]
      omega
/-! fields -/
def bb_fl (own : String) (ix ci k : Nat) : Prop := ∃ (C : String) (T : u_T) (N : Nat), vwCl[ci]? = some (C, T, N) ∧ k < N ∧ (∀ w ∈ u_ws C T N, w ∈ bb_good) ∧ Cond.fieldLink own ix (T k).1 (T k).2.1 (T k).2.2.1 ∈ bb_good
def bb_fp (own : String) (ix ci k : Nat) (ty : FieldType) : Prop := ∃ (C : String) (T : u_T) (N : Nat) (ty0 : Nat → FieldType), vwCl[ci]? = some (C, T, N) ∧ k < N ∧ (∀ w ∈ u_ws C T N, w ∈ bb_good) ∧ Cond.fieldLink own ix (T k).1 (T k).2.1 (T k).2.2.1 ∈ bb_good ∧ (∀ k, k < N → parseFieldDescriptor (T k).2.2.1 = some (ty0 k)) ∧ (∀ a, a < N → ∀ b, b < N → a ≠ b → (T a).2.1 ≠ (T b).2.1) ∧ (T k).2.2.2 = false ∧ ty0 k = ty
theorem bb_getV {ix ci k b : Nat} {v : Value} {vs : List Value} (hf : bb_fl own ix ci k) (hd : decode cc pc = .ok (.getfield ix, 3)) (hb : h[b]? = some (.inr ci, vs)) (hv : vs[k]? = some v) (kk : bb_J own cc nL ret rm o (pc + 3) L (v :: st) h) : bb_J own cc nL ret rm o pc L (.ref b :: st) h := by
  intro p l e s m args below meth c D cA A ad H locs ls hX hY hL
  obtain ⟨C, T, N, hc, hk, hin, hl⟩ := hf
  refine va_get (C := C) (T := T) (N := N) hX.1 hX.2.1 hX.2.2.2.2.1 hin hX.2.2.2.1 hX.2.2.2.2.2.2.2.1.1 hY.1 b (bb_ws_0 hb) hc k hk (hX.2.2.2.2.1 _ hl) (fun _ q => q) (v := bb_cv ad v) ?_ hd (kk p l e s m args below meth c D cA A ad H locs ls hX hY hL)
  rw [List.getElem?_map, hv]
  rfl
theorem bb_getI {ix ci k b : Nat} {x : Int32} (hf : bb_fl own ix ci k) (hd : decode cc pc = .ok (.getfield ix, 3)) (hb : bb_gI h b ci k = some x) (kk : bb_J own cc nL ret rm o (pc + 3) L (.int x :: st) h) : bb_J own cc nL ret rm o pc L (.ref b :: st) h := by
  obtain ⟨vs, h1, h2⟩ := bb_gI_spec hb
  exact bb_getV hf hd h1 h2 kk
theorem bb_getR {ix ci k b : Nat} {x : Nat} (hf : bb_fl own ix ci k) (hd : decode cc pc = .ok (.getfield ix, 3)) (hb : bb_gR h b ci k = some x) (kk : bb_J own cc nL ret rm o (pc + 3) L (.ref x :: st) h) : bb_J own cc nL ret rm o pc L (.ref b :: st) h := by
  obtain ⟨vs, h1, h2⟩ := bb_gR_spec hb
  exact bb_getV hf hd h1 h2 kk
theorem bb_putV {ix ci k b : Nat} {ty : FieldType} {v : Value} {vs : List Value} (hf : bb_fp own ix ci k ty) (hd : decode cc pc = .ok (.putfield ix, 3)) (hb : h[b]? = some (.inr ci, vs)) (hk2 : k < vs.length) (hn : narrow ty v = v) (hfit : fits ty v = true) (hcv : ∀ ad, bb_cv ad v = v) (kk : bb_J own cc nL ret rm o (pc + 3) L st (h.set b (.inr ci, vs.set k v))) : bb_J own cc nL ret rm o pc L (v :: .ref b :: st) h := by
  intro p l e s m args below meth c D cA A ad H locs ls hX hY hL
  obtain ⟨C, T, N, ty0, hc, hk, hin, hl, hty, hnm, hfin, rfl⟩ := hf
  obtain ⟨hP, hD, hS⟩ := hY
  rw [show (v :: Value.ref b :: st).map (bb_cv ad) = v :: .ref (ad b) :: st.map (bb_cv ad) by simp only [List.map_cons, hcv]; rfl]
  refine va_put (C := C) (T := T) (N := N) hX.1 hX.2.1 hX.2.2.2.2.1 hin ty0 hty hnm hX.2.2.2.1 hX.2.2.2.2.2.2.2.1.1 hP hD hS b (bb_ws_0 hb) hc k hk (hX.2.2.2.2.1 _ hl) (fun _ q => q) hfin (hty k hk) hn hfit (by rw [List.length_map]; exact hk2) hd (fun H1 locs1 hP1 hD1 hS1 => ?_)
  have e0 : (vs.map (bb_cv ad)).set k v = (vs.set k v).map (bb_cv ad) := by rw [List.map_set, hcv]
  rw [e0] at hP1 hD1
  have e2 := bb_ws_set0 (ad := ad) (cA := cA) (c := ((.inr ci, vs.set k v) : bb_C)) (h := h) (k := b)
  exact kk p l e s m args below meth c D cA A ad H1 locs1 ls hX ⟨by rw [← e2]; exact hP1, by rw [← e2]; exact hD1, hS1⟩ hL
theorem bb_putI {ix ci k b : Nat} {x : Int32} {h' : bb_H} (hf : bb_fp own ix ci k .int) (hd : decode cc pc = .ok (.putfield ix, 3)) (hb : bb_pI h b ci k x = some h') (kk : bb_J own cc nL ret rm o (pc + 3) L st h') : bb_J own cc nL ret rm o pc L (.int x :: .ref b :: st) h := by
  obtain ⟨vs, h1, h2, rfl⟩ := bb_pI_spec hb
  exact bb_putV hf hd h1 h2 rfl rfl (fun _ => rfl) kk
theorem bb_nz {x : Int32} (hx : x = 0 ∨ x = 1) : narrow .boolean (.int x) = .int x ∧ fits .boolean (.int x) = true := by
  rcases hx with rfl | rfl <;> exact ⟨rfl, rfl⟩
theorem bb_putZ {ix ci k b : Nat} {x : Int32} {h' : bb_H} (hf : bb_fp own ix ci k .boolean) (hd : decode cc pc = .ok (.putfield ix, 3)) (hb : bb_pZ h b ci k x = some h') (kk : bb_J own cc nL ret rm o (pc + 3) L st h') : bb_J own cc nL ret rm o pc L (.int x :: .ref b :: st) h := by
  obtain ⟨hx, hb⟩ := bb_pZ_spec hb
  obtain ⟨vs, h1, h2, rfl⟩ := bb_pI_spec hb
  exact bb_putV hf hd h1 h2 (bb_nz hx).1 (bb_nz hx).2 (fun _ => rfl) kk
/-! arrays -/
theorem bb_in {vs : List Value} {i : Int32} (hi : ¬ i < 0) (hl : i.toNatClampNeg < vs.length) : vp_in i vs.length := fun q => q.elim hi (fun z => absurd hl (Nat.not_lt.mpr z))
theorem bb_iaload {a : Nat} {i x : Int32} (hd : decode cc pc = .ok (.iaload, 1)) (hb : bb_aI h a .int i = some x) (kk : bb_J own cc nL ret rm o (pc + 1) L (.int x :: st) h) : bb_J own cc nL ret rm o pc L (.int i :: .ref a :: st) h := by
  intro p l e s m args below meth c D cA A ad H locs ls hX hY hL
  obtain ⟨vs, h1, h2, h3⟩ := bb_aI_spec hb
  obtain ⟨e1, e2⟩ := bb_nth h3
  refine va_iald hX.1 hX.2.1 hX.2.2.2.2.2.2.2.1.1 hY.1 a 0 (bb_ws_0 h1) rfl (bb_in h2 e2) hd ?_
  rw [show bb_toI (vs.getD i.toNatClampNeg .null) = x by rw [e1]; rfl]
  exact kk p l e s m args below meth c D cA A ad H locs ls hX hY hL
theorem bb_caload {a : Nat} {i x : Int32} (hd : decode cc pc = .ok (.caload, 1)) (hb : bb_aI h a .char i = some x) (kk : bb_J own cc nL ret rm o (pc + 1) L (.int x :: st) h) : bb_J own cc nL ret rm o pc L (.int i :: .ref a :: st) h := by
  intro p l e s m args below meth c D cA A ad H locs ls hX hY hL
  obtain ⟨vs, h1, h2, h3⟩ := bb_aI_spec hb
  obtain ⟨e1, e2⟩ := bb_nth h3
  refine va_cald hX.1 hX.2.1 hX.2.2.2.2.2.2.2.1.1 hY.1 a 1 (bb_ws_0 h1) rfl (bb_in h2 e2) hd ?_
  rw [show bb_toI (vs.getD i.toNatClampNeg .null) = x by rw [e1]; rfl]
  exact kk p l e s m args below meth c D cA A ad H locs ls hX hY hL
theorem bb_laload {a : Nat} {i : Int32} {x : Int64} (hd : decode cc pc = .ok (.laload, 1)) (hb : bb_aL h a i = some x) (kk : bb_J own cc nL ret rm o (pc + 1) L (.long x :: st) h) : bb_J own cc nL ret rm o pc L (.int i :: .ref a :: st) h := by
  intro p l e s m args below meth c D cA A ad H locs ls hX hY hL
  obtain ⟨vs, h1, h2, h3⟩ := bb_aL_spec hb
  obtain ⟨e1, e2⟩ := bb_nth h3
  refine va_lald hX.1 hX.2.1 hX.2.2.2.2.2.2.2.1.1 hY.1 a 2 (bb_ws_0 h1) rfl (bb_in h2 e2) hd ?_
  rw [show bb_toL (vs.getD i.toNatClampNeg .null) = x by rw [e1]; rfl]
  exact kk p l e s m args below meth c D cA A ad H locs ls hX hY hL
theorem bb_aaload {a t0 : Nat} {ty : FieldType} {i : Int32} {x : Nat} (ht : ∀ cA, (bb_tys cA)[t0]? = some (cA ty, ty)) (hr : ty.isReference = true) (ha : ∀ ad vs, bb_arr ad ty vs = (vs.length, .inr (.inr (.inr (.inr (fun j => bb_toR ad (vs.getD j .null))))))) (hd : decode cc pc = .ok (.aaload, 1)) (hb : bb_aR h a ty i = some x) (kk : bb_J own cc nL ret rm o (pc + 1) L (.ref x :: st) h) : bb_J own cc nL ret rm o pc L (.int i :: .ref a :: st) h := by
  intro p l e s m args below meth c D cA A ad H locs ls hX hY hL
  obtain ⟨vs, h1, h2, h3⟩ := bb_aR_spec hb
  obtain ⟨e1, e2⟩ := bb_nth h3
  have hc := hY.1 a _ (bb_ws_0 (ad := ad) (cA := cA) h1)
  have hc : H[ad a]? = some (vp_cell (cA ty) (bb_arr ad ty vs)) := hc
  rw [ha] at hc
  refine W.aald (v := .ref (ad x)) (ty := ty) hX.1 hX.2.1 hc (((hX.2.2.2.2.2.2.2.1.1).2 t0 _ (ht cA)).1 vs.length (fun j => va_rf (bb_toR ad (vs.getD j .null)))) hr (fun q => by cases q) ?_ ?_ rfl rfl hd (kk p l e s m args below meth c D cA A ad H locs ls hX hY hL)
  · show ¬ (i < 0 ∨ (arrV _ _ _).slots.size ≤ _)
    rw [arrV_size]
    exact bb_in h2 e2
  · show (arrV _ _ _).slots[_]? = _
    rw [arrV_read _ _ e2]
    show some (va_rf (bb_toR ad (vs.getD i.toNatClampNeg Value.null))) = _
    rw [e1]
    rfl
theorem bb_iastore {a : Nat} {i x : Int32} {h' : bb_H} (hd : decode cc pc = .ok (.iastore, 1)) (hb : bb_sV h a .int i (.int x) = some h') (kk : bb_J own cc nL ret rm o (pc + 1) L st h') : bb_J own cc nL ret rm o pc L (.int x :: .int i :: .ref a :: st) h := by
  intro p l e s m args below meth c D cA A ad H locs ls hX hY hL
  obtain ⟨vs, h1, h2, h3, rfl⟩ := bb_sV_spec hb
  obtain ⟨hP, hD, hS⟩ := hY
  refine va_iast hX.1 hX.2.1 hX.2.2.2.2.2.2.2.1.1 hP hD hS a 0 (bb_ws_0 h1) rfl (bb_in h2 h3) hd (fun H1 locs1 hP1 hD1 hS1 => ?_)
  have e0 : upd (fun j => bb_toI (vs.getD j .null)) i.toNatClampNeg x = fun k => bb_toI ((vs.set i.toNatClampNeg (.int x)).getD k .null) := bb_setf (v := (.int x)) bb_toI h3
  have e3 : ((cA .int, vs.length, .inl (upd (fun j => bb_toI (vs.getD j .null)) i.toNatClampNeg x)) : ClassId × vp_A) = (cA .int, bb_arr ad .int (vs.set i.toNatClampNeg (.int x))) := by rw [e0]; show _ = (cA .int, ((vs.set i.toNatClampNeg (.int x)).length, _)); rw [List.length_set]
  rw [e3] at hP1 hD1
  have e2 := bb_ws_set0 (ad := ad) (cA := cA) (c := ((.inl .int, vs.set i.toNatClampNeg (.int x)) : bb_C)) (h := h) (k := a)
  exact kk p l e s m args below meth c D cA A ad H1 locs1 ls hX ⟨by rw [← e2]; exact hP1, by rw [← e2]; exact hD1, hS1⟩ hL
theorem bb_castore {a : Nat} {i x : Int32} {h' : bb_H} (hd : decode cc pc = .ok (.castore, 1)) (hb : bb_sV h a .char i (.int (vp_nar .char x)) = some h') (kk : bb_J own cc nL ret rm o (pc + 1) L st h') : bb_J own cc nL ret rm o pc L (.int x :: .int i :: .ref a :: st) h := by
  intro p l e s m args below meth c D cA A ad H locs ls hX hY hL
  obtain ⟨vs, h1, h2, h3, rfl⟩ := bb_sV_spec hb
  obtain ⟨hP, hD, hS⟩ := hY
  refine va_cast hX.1 hX.2.1 hX.2.2.2.2.2.2.2.1.1 hP hD hS a 1 (bb_ws_0 h1) rfl (bb_in h2 h3) hd (fun H1 locs1 hP1 hD1 hS1 => ?_)
  have e0 : upd (fun j => bb_toI (vs.getD j .null)) i.toNatClampNeg (vp_nar .char x) = fun k => bb_toI ((vs.set i.toNatClampNeg (.int (vp_nar .char x))).getD k .null) := bb_setf (v := (.int (vp_nar .char x))) bb_toI h3
  have e3 : ((cA .char, vs.length, .inl (upd (fun j => bb_toI (vs.getD j .null)) i.toNatClampNeg (vp_nar .char x))) : ClassId × vp_A) = (cA .char, bb_arr ad .char (vs.set i.toNatClampNeg (.int (vp_nar .char x)))) := by rw [e0]; show _ = (cA .char, ((vs.set i.toNatClampNeg (.int (vp_nar .char x))).length, _)); rw [List.length_set]
  rw [e3] at hP1 hD1
  have e2 := bb_ws_set0 (ad := ad) (cA := cA) (c := ((.inl .char, vs.set i.toNatClampNeg (.int (vp_nar .char x))) : bb_C)) (h := h) (k := a)
  exact kk p l e s m args below meth c D cA A ad H1 locs1 ls hX ⟨by rw [← e2]; exact hP1, by rw [← e2]; exact hD1, hS1⟩ hL
theorem bb_lastore {a : Nat} {i : Int32} {x : Int64} {h' : bb_H} (hd : decode cc pc = .ok (.lastore, 1)) (hb : bb_sV h a .long i (.long x) = some h') (kk : bb_J own cc nL ret rm o (pc + 1) L st h') : bb_J own cc nL ret rm o pc L (.long x :: .int i :: .ref a :: st) h := by
  intro p l e s m args below meth c D cA A ad H locs ls hX hY hL
  obtain ⟨vs, h1, h2, h3, rfl⟩ := bb_sV_spec hb
  obtain ⟨hP, hD, hS⟩ := hY
  refine va_last hX.1 hX.2.1 hX.2.2.2.2.2.2.2.1.1 hP hD hS a 2 (bb_ws_0 h1) rfl (bb_in h2 h3) hd (fun H1 locs1 hP1 hD1 hS1 => ?_)
  have e0 : vp_updL (fun j => bb_toL (vs.getD j .null)) i.toNatClampNeg x = fun k => bb_toL ((vs.set i.toNatClampNeg (.long x)).getD k .null) := bb_setf (v := (.long x)) bb_toL h3
  have e3 : ((cA .long, vs.length, .inr (.inl (vp_updL (fun j => bb_toL (vs.getD j .null)) i.toNatClampNeg x))) : ClassId × vp_A) = (cA .long, bb_arr ad .long (vs.set i.toNatClampNeg (.long x))) := by rw [e0]; show _ = (cA .long, ((vs.set i.toNatClampNeg (.long x)).length, _)); rw [List.length_set]
  rw [e3] at hP1 hD1
  have e2 := bb_ws_set0 (ad := ad) (cA := cA) (c := ((.inl .long, vs.set i.toNatClampNeg (.long x)) : bb_C)) (h := h) (k := a)
  exact kk p l e s m args below meth c D cA A ad H1 locs1 ls hX ⟨by rw [← e2]; exact hP1, by rw [← e2]; exact hD1, hS1⟩ hL
/-! returns -/
theorem bb_iret {v : Int32} (hr : ret = some .int) (ho : o = (some (.int v), h)) (hd : decode cc pc = .ok (.ireturn, 1)) : bb_J own cc nL ret rm o pc L [.int v] h := by
  intro p l e s m args below meth c D cA A ad H locs ls hX hY hL
  subst ho
  subst hr
  have hlocks := hX.2.2.2.2.2.2.1
  exact W.iret hX.1 hX.2.1 hX.2.2.2.2.2.1 (fun t ht hW => ⟨⟨rfl, by rw [ht]; exact hY.1, hY.2.1⟩, hY.2.2.F ht⟩) hY.2.2.2.2 hd
theorem bb_zret {v : Int32} {ty : FieldType} (hr : ret = some ty) (hn : narrow ty (.int v) = .int v) (ho : o = (some (.int v), h)) (hd : decode cc pc = .ok (.ireturn, 1)) : bb_J own cc nL ret rm o pc L [.int v] h := by
  intro p l e s m args below meth c D cA A ad H locs ls hX hY hL
  subst ho
  subst hr
  have hlocks := hX.2.2.2.2.2.2.1
  exact W.zret hX.1 hX.2.1 hX.2.2.2.2.2.1 hn (fun t ht hW => ⟨⟨rfl, by rw [ht]; exact hY.1, hY.2.1⟩, hY.2.2.F ht⟩) hY.2.2.2.2 hd
theorem bb_lret {v : Int64} (hr : ret = some .long) (ho : o = (some (.long v), h)) (hd : decode cc pc = .ok (.lreturn, 1)) : bb_J own cc nL ret rm o pc L [.long v] h := by
  intro p l e s m args below meth c D cA A ad H locs ls hX hY hL
  subst ho
  subst hr
  have hlocks := hX.2.2.2.2.2.2.1
  exact W.lret hX.1 hX.2.1 hX.2.2.2.2.2.1 (fun t ht hW => ⟨⟨rfl, by rw [ht]; exact hY.1, hY.2.1⟩, hY.2.2.F ht⟩) hY.2.2.2.2 hd
theorem bb_vret (hr : ret = none) (ho : o = (none, h)) (hd : decode cc pc = .ok (.return_, 1)) : bb_J own cc nL ret rm o pc L [] h := by
  intro p l e s m args below meth c D cA A ad H locs ls hX hY hL
  subst ho
  subst hr
  have hlocks := hX.2.2.2.2.2.2.1
  exact W.vret hX.1 hX.2.1 hX.2.2.2.2.2.1 (fun t ht hW => ⟨⟨rfl, by rw [ht]; exact hY.1, hY.2.1⟩, hY.2.2.F ht⟩) hY.2.2.2.2 hd
end BBJ
