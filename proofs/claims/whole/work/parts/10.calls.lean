/-! CONTRACTS AND CALLS over whole mini heaps -/
def bb_wd (y : MethodName) (cc : ByteArray) (nL : Nat) (ret : Option FieldType) : List Cond := Cond.code y cc nL ret :: bb_good
def bb_Pc (D : va_G) (cA : FieldType → ClassId) (qS qV : Nat) (ad : Nat → Nat) (as : List Value) (h : bb_H) (sz : Nat) : Array Value → State → Prop := va_Pc (as.map (bb_cv ad)) (fun U => U.heap.size = sz ∧ va_P D vwCl (bb_ws ad cA 0 h) U.heap ∧ bb_K D cA qS U ∧ va_D (fun _ => True) (bb_ws ad cA 0 h) ∧ bb_Z qS qV (va_A (bb_ws ad cA 0 h) sz) U U.heap)
def bb_Ok (y : MethodName) (cc : ByteArray) (nL : Nat) (ret : Option FieldType) (rm : Room) (as : List Value) (h : bb_H) (o : Option Value × bb_H) : Prop :=
  ∀ (l : Launch) (D : va_G) (cA : FieldType → ClassId) (ad : Nat → Nat) (sz : Nat), Met l y (bb_wd y cc nL ret) rm (bb_Pc D cA (ad bb_qs) (ad bb_qv) ad as h sz) (bb_Q (o.1.map (bb_cv ad)) (bb_B D cA (va_A (bb_ws ad cA 0 h) sz) ad o.2) (va_A (bb_ws ad cA 0 h) sz)) 0 0 (va_A (bb_ws ad cA 0 h) sz)
/-- the locals with which a method begins -/
def bb_ent : List Value → List Value
  | [] => []
  | v :: vs => if v.category = 2 then v :: .null :: bb_ent vs else v :: bb_ent vs
theorem bb_ent_len (ad : Nat → Nat) : ∀ as : List Value, (lg_sl (as.map (bb_cv ad))).length = (bb_ent as).length
  | [] => rfl
  | v :: vs => by
    have ih := bb_ent_len ad vs
    unfold lg_sl at ih ⊢
    rw [List.map_cons, List.flatMap_cons, List.length_append, ih, bb_cat]
    show _ = (if v.category = 2 then v :: Value.null :: bb_ent vs else v :: bb_ent vs).length
    by_cases hc : v.category = 2
    · rw [if_pos hc, if_pos hc]
      simp only [List.length_cons, List.length_nil]
      omega
    · rw [if_neg hc, if_neg hc]
      simp only [List.length_cons, List.length_nil]
      omega
theorem bb_ent_in (ad : Nat → Nat) : ∀ (as : List Value) (j i : Nat) (v : Value), (bb_ent as)[i]? = some v → v ≠ .null → (j + i, bb_cv ad v) ∈ lv_args j (as.map (bb_cv ad))
  | [], j, i, v, h, _ => by simp [bb_ent] at h
  | w :: vs, j, i, v, h, hv => by
    rw [List.map_cons]
    unfold lv_args
    rw [bb_cat]
    unfold bb_ent at h
    by_cases hc : w.category = 2
    · rw [if_pos hc] at h
      rw [if_pos hc]
      match i, h with
      | 0, h =>
        rw [List.getElem?_cons_zero] at h
        cases h
        exact List.mem_cons_self
      | 1, h =>
        rw [List.getElem?_cons_succ, List.getElem?_cons_zero] at h
        cases h
        exact absurd rfl hv
      | i + 2, h =>
        rw [List.getElem?_cons_succ, List.getElem?_cons_succ] at h
        have h1 := bb_ent_in ad vs (j + 2) i v h hv
        rw [show j + 2 + i = j + (i + 2) by omega] at h1
        exact List.mem_cons_of_mem _ h1
    · rw [if_neg hc] at h
      rw [if_neg hc]
      match i, h with
      | 0, h =>
        rw [List.getElem?_cons_zero] at h
        cases h
        exact List.mem_cons_self
      | i + 1, h =>
        rw [List.getElem?_cons_succ] at h
        have h1 := bb_ent_in ad vs (j + 1) i v h hv
        rw [show j + 1 + i = j + (i + 1) by omega] at h1
        exact List.mem_cons_of_mem _ h1
def bb_entL (nL : Nat) (as : List Value) : List Value := bb_ent as ++ List.replicate (nL - (bb_ent as).length) .null
theorem bb_entL_in (ad : Nat → Nat) {nL : Nat} {as : List Value} {i : Nat} {v : Value} (h : (bb_entL nL as)[i]? = some v) (hv : v ≠ .null) : (i, bb_cv ad v) ∈ lv_args 0 (as.map (bb_cv ad)) := by
  unfold bb_entL at h
  by_cases hl : i < (bb_ent as).length
  · rw [List.getElem?_append_left hl] at h
    have h1 := bb_ent_in ad as 0 i v h hv
    rwa [Nat.zero_add] at h1
  · rw [List.getElem?_append_right (by omega)] at h
    exact absurd (List.eq_of_mem_replicate (List.mem_of_getElem? h)) hv
theorem bb_ok {y : MethodName} {cc : ByteArray} {nL : Nat} {ret : Option FieldType} {rm : Room} {as L : List Value} {h : bb_H} {o : Option Value × bb_H} (hy : plainName y.cls = true) (hlen : (bb_ent as).length ≤ nL) (hL : bb_entL nL as = L) (k : bb_J y.cls cc nL ret rm o 0 L [] h) : bb_Ok y cc nL ret rm as h o := by
  intro l D cA ad sz
  refine Met.ofW (cc := cc) (maxL := nL) (ret := ret) hy rfl ?_
  intro p e s m args below meth c s₁ B hml hv
  obtain ⟨rfl, hsz, hP, hK, hD0, hZ⟩ := hv
  have hts := atoms_spec (ws := bb_wd y cc nL ret) B.pre
  have hown : s.vm.findClass y.cls = some m.cls := findClass_of_methodNamed B.named
  subst hsz
  have hD := hD0.self (sz := s.heap.size)
  have hA : ∀ q : Nat, s.heap.size ≤ q → va_A (bb_ws ad cA 0 h) s.heap.size q := fun q hq => Or.inr hq
  have hl := lv_entry (as.map (bb_cv ad)) (n := nL) (by rw [bb_ent_len]; exact hlen)
  rw [lg_entry_eq]
  refine k p l e s m _ below meth c D cA _ ad s.heap [] _ ⟨B.exec, B.bytes, hml, hown, fun w hw => hts w (List.mem_cons_of_mem _ hw), B.returns, B.notSynchronized, hK, hZ, hA⟩ ⟨hP, hD, va_S.rf⟩ ?_
  subst hL
  exact bb_L.of hl (fun i v h1 h2 => bb_entL_in ad h1 h2)
theorem bb_goodin {ws : List Cond} (h : ∀ w ∈ ws, w ∈ bb_good) : GoodIn bb_good ws := fun w hw => ⟨h w hw, good_of_word (List.mem_filter.mp (h w hw)).2⟩
theorem bb_wd_in {y : MethodName} {cc : ByteArray} {nL : Nat} {ret : Option FieldType} (hc : Cond.code y cc nL ret ∈ bb_good) : ∀ w ∈ bb_wd y cc nL ret, w ∈ bb_good := fun w hw => by
  rcases List.mem_cons.mp hw with rfl | hw
  · exact hc
  · exact hw
section BBR
variable {p : Program} {l : Launch} {e : Env} {R : Room} {s : State} {m : MethodId} {args : Array Value} {below : List Frame} {meth : Method} {c : Code} {H : Heap} {locs : List Loc} {cells slots : Nat} {Q : State → Prop}
variable {pc : Nat} {ls : Array Slot} {rest st0 : List Value} {a : Array Value} {A0 A1 : Nat → Prop} {H0 : Heap} {free : Addr → Prop}
theorem bb_callx {r : Option Value} {B : State → Prop} (hr : va_Run p l e R s m args below meth c H locs cells slots 0 0 (F0 m pc ls st0) rest (bb_Q r B A1 a) free) (hS : va_S A0 H0 H locs) (hA : ∀ q, q < H.size → A1 q → A0 q) (hf : ∀ q, free q → A0 q)
    (kk : ∀ (t : State) (H1 : Heap) (locs1 : List Loc), t.heap = H1 → B t → va_S A0 H0 H1 locs1 → W p l e R s m args below meth c H1 locs1 (cells + 0) (slots + 0) Q (F0 m (pc + 3) ls (r.toList ++ rest))) : W p l e R s m args below meth c H locs cells slots Q (F0 m pc ls st0) := by
  intro T hT X
  obtain ⟨v, st₀, t, T', L, h0, X', hL, e1, e2, ⟨⟨hv, hb⟩, hz, hk⟩, st⟩ := hr T hT X
  cases hv
  rw [h0] at hz hk
  obtain ⟨t2, a1, b1⟩ := kk t T'.heap (locs ++ L) e1.symm hb
    ⟨Nat.le_trans hS.1 (by rw [e1]; exact hz), fun q h1 h2 => by rw [e1, hk q (Nat.lt_of_lt_of_le h1 hS.1) (fun z => h2 (hA q (Nat.lt_of_lt_of_le h1 hS.1) z))]; exact hS.2.1 q h1 h2, fun q hq => by
      rcases List.mem_append.mp hq with h | h
      · exact hS.2.2 q h
      · exact hf _ (hL q h)⟩ T' rfl X'
  exact ⟨t2, st t2 a1, b1⟩
end BBR
/-! what a call's place needs of the tables -/
def bb_iv (own : String) (ix : Nat) (C : String) (y : MethodName) (cc : ByteArray) (nL : Nat) (ret : Option FieldType) (n : Nat) : Prop :=
  (Cond.methodLink own ix y ∈ bb_good ∧ Cond.instanceMethod y ∈ bb_good ∧ Cond.selects C y y ∈ bb_good ∧ Cond.initialized C ∈ bb_good ∧ Cond.code y cc nL ret ∈ bb_good) ∧ (y.cls = C ∧ y.cls ≠ "java/lang/invoke/MethodHandle" ∧ y.cls ≠ "java/lang/invoke/VarHandle" ∧ (parseMethodDescriptor y.desc).map (fun d => d.parameters.length) = some n)
def bb_is_ (own : String) (ix : Nat) (y : MethodName) (cc : ByteArray) (nL : Nat) (ret : Option FieldType) (n : Nat) : Prop :=
  (Cond.methodLink own ix y ∈ bb_good ∧ Cond.static y ∈ bb_good ∧ Cond.initialized y.cls ∈ bb_good ∧ Cond.code y cc nL ret ∈ bb_good) ∧ (y.cls ≠ "java/lang/invoke/MethodHandle" ∧ y.cls ≠ "java/lang/invoke/VarHandle" ∧ (parseMethodDescriptor y.desc).map (fun d => d.parameters.length) = some n)
def bb_in_ (own : String) (ix : Nat) (host : String) (y : MethodName) (cc : ByteArray) (nL : Nat) (ret : Option FieldType) (n : Nat) : Prop :=
  ((own, ix, y, host) ∈ bb_nests ∧ Cond.static y ∈ bb_good ∧ Cond.initialized y.cls ∈ bb_good ∧ Cond.code y cc nL ret ∈ bb_good) ∧ (y.cls ≠ "java/lang/invoke/MethodHandle" ∧ y.cls ≠ "java/lang/invoke/VarHandle" ∧ (parseMethodDescriptor y.desc).map (fun d => d.parameters.length) = some n)
def bb_rr (rm' rm : Room) (nL' : Nat) : Prop := (rm'.cells = 0 ∧ rm'.slots = 0) ∧ (rm'.frames + 1 ≤ rm.frames ∧ 8 + (nL' + 11) + rm'.locals ≤ rm.locals)
theorem bb_sum (ad : Nat → Nat) (st : List Value) : ((st.map (bb_cv ad)).map fun v => v.category).sum = (st.map fun v => v.category).sum := by
  rw [List.map_map]
  congr 1
  apply List.map_congr_left
  intro v _
  exact bb_cat ad v
theorem bb_stk (ad : Nat → Nat) (r : Option Value) (st : List Value) : (r.map (bb_cv ad)).toList ++ st.map (bb_cv ad) = (r.toList ++ st).map (bb_cv ad) := by cases r <;> rfl
theorem bb_blind {D : va_G} {cA : FieldType → ClassId} {qS qV : Nat} {ad : Nat → Nat} {as : List Value} {h : bb_H} {sz : Nat} : FrameBlind (bb_Pc D cA qS qV ad as h sz) := fun a U g mk q => by
  obtain ⟨q0, q1, qP, qK, qD, qZ⟩ := q
  exact ⟨q0, q1, qP, qK.call g mk a, qD, bb_Z.go (U := U.calling g mk a) qZ (Vm.Alike.refl U.vm) (fun _ _ _ => rfl) (fun _ z => z)⟩
section BBC
variable {own : String} {cc : ByteArray} {nL : Nat} {ret : Option FieldType} {rm : Room} {o : Option Value × bb_H} {pc : Nat} {L st : List Value} {h : bb_H}
theorem bb_free {D : va_G} {cA : FieldType → ClassId} {A : Nat → Prop} {ad : Nat → Nat} {H0 H : Heap} {locs : List Loc} (hY : bb_Y D cA A ad h H0 H locs) (hA : ∀ q, H0.size ≤ q → A q) : ∀ q, va_A (bb_ws ad cA 0 h) H.size q → A q := fun q hq => by
  rcases hq with ⟨k, e, hk⟩ | hq
  · exact hY.2.1.2 k (q, e) hk
  · exact hA q (Nat.le_trans hY.2.2.1 hq)
theorem bb_pre {cc : ByteArray} {nL : Nat} {ret : Option FieldType} {p : Program} {s : State} {m : MethodId} {args : Array Value} {meth : Method} {c : Code} {D : va_G} {cA : FieldType → ClassId} {qS qV : Nat} {A : Nat → Prop} {ad : Nat → Nat} {H : Heap} {locs : List Loc} {as : List Value} (hX : bb_X own cc nL ret p s m args meth c D cA qS qV A) (hY : bb_Y D cA A ad h s.heap H locs) : ∀ U : State, U.heap = H → s.WarmedH U.vm → bb_Pc D cA qS qV ad as h H.size (as.map (bb_cv ad)).toArray U := fun U hU hW =>
  ⟨rfl, by rw [hU], by rw [hU]; exact hY.1, hX.2.2.2.2.2.2.2.1.warm hW, hY.2.1.weaken (fun _ _ _ _ => trivial), bb_Z.go hX.2.2.2.2.2.2.2.2.1 hW.alike (fun a h1 h2 => by rw [hU]; exact hY.2.2.2.1 a h1 h2) (bb_free hY hX.2.2.2.2.2.2.2.2.2)⟩
theorem bb_invV {ix ci b : Nat} {C : String} {T : u_T} {N : Nat} {y : MethodName} {cc' : ByteArray} {nL' n : Nat} {ret' : Option FieldType} {rm' : Room} {as vs ast : List Value} {r : Option Value} {h' : bb_H} (hs : bb_iv own ix C y cc' nL' ret' n) (hR : bb_rr rm' rm nL') (hcl : vwCl[ci]? = some (C, T, N)) (hd : decode cc pc = .ok (.invokevirtual ix, 3)) (hast : as.reverse ++ .ref b :: st = ast) (hn : as.length = n) (hb : h[b]? = some (.inr ci, vs)) (hrest : (st.map fun v => v.category).sum ≤ 8) (hok : bb_Ok y cc' nL' ret' rm' (.ref b :: as) h (r, h')) (k : bb_J own cc nL ret rm o (pc + 3) L (r.toList ++ st) h') : bb_J own cc nL ret rm o pc L ast h := by
  intro p l e s m args below meth c D cA A ad H locs ls hX hY hL
  subst hast
  obtain ⟨⟨w1, w2, w3, w4, w5⟩, hdd⟩ := hs
  have hF := bb_free hY hX.2.2.2.2.2.2.2.2.2
  have hG : GoodIn bb_good (wsV own ix C y (bb_wd y cc' nL' ret')) := bb_goodin (fun w hw => by
    unfold wsV at hw
    rcases List.mem_append.mp hw with hw | hw
    · simp only [List.mem_cons, List.not_mem_nil, or_false] at hw
      rcases hw with rfl | rfl | rfl | rfl
      · exact w1
      · exact w2
      · exact w3
      · exact w4
    · exact bb_wd_in w5 w hw)
  have hpre := bb_pre (as := .ref b :: as) hX hY
  refine bb_callx (va_runV (As := as.map (bb_cv ad)) (rest := st.map (bb_cv ad)) (b := ad b) ⟨hX.1, hX.2.1, hX.2.2.1, hX.2.2.2.1, hX.2.2.2.2.1⟩ (hok l D cA ad H.size) (cwV n hX.2.2.2.2.1 hG rfl hR.1.1 hR.1.2 hdd hR.2) ⟨bb_blind, va_recv hX.2.2.2.2.2.2.2.1.1 hY.1 hcl (bb_ws_0 hb), hpre⟩ rfl (by rw [List.length_map]; exact hn) hL.1 ?_ ?_ hd ⟨Nat.zero_le _, Nat.zero_le _⟩) hY.2.2 (fun q _ hq => hF q hq) hF (fun t H1 locs1 ht hB hS1 => ?_)
  · show (as.reverse ++ .ref b :: st).map (bb_cv ad) = _
    rw [List.map_append, List.map_reverse]
    rfl
  · show 2 * 0 + _ ≤ 8
    rw [bb_sum]
    omega
  · rw [bb_stk]
    exact k p l e s m args below meth c D cA A ad H1 locs1 ls hX ⟨by rw [← ht]; exact hB.1, hB.2.weaken (fun _ q _ z => hF q.1 z), hS1⟩ hL
theorem bb_invS {ix : Nat} {y : MethodName} {cc' : ByteArray} {nL' n : Nat} {ret' : Option FieldType} {rm' : Room} {as ast : List Value} {r : Option Value} {h' : bb_H} (hs : bb_is_ own ix y cc' nL' ret' n) (hR : bb_rr rm' rm nL') (hd : decode cc pc = .ok (.invokestatic ix, 3)) (hast : as.reverse ++ st = ast) (hn : as.length = n) (hrest : (st.map fun v => v.category).sum ≤ 8) (hok : bb_Ok y cc' nL' ret' rm' as h (r, h')) (k : bb_J own cc nL ret rm o (pc + 3) L (r.toList ++ st) h') : bb_J own cc nL ret rm o pc L ast h := by
  intro p l e s m args below meth c D cA A ad H locs ls hX hY hL
  subst hast
  obtain ⟨⟨w1, w2, w3, w4⟩, hdd⟩ := hs
  have hF := bb_free hY hX.2.2.2.2.2.2.2.2.2
  have hG : GoodIn bb_good (va_wsS own ix y (bb_wd y cc' nL' ret')) := bb_goodin (fun w hw => by
    unfold va_wsS at hw
    rcases List.mem_append.mp hw with hw | hw
    · simp only [List.mem_cons, List.not_mem_nil, or_false] at hw
      rcases hw with rfl | rfl | rfl
      · exact w1
      · exact w2
      · exact w3
    · exact bb_wd_in w4 w hw)
  have hpre := bb_pre (as := as) hX hY
  refine bb_callx (va_runS (As := as.map (bb_cv ad)) (rest := st.map (bb_cv ad)) ⟨hX.1, hX.2.1, hX.2.2.1, hX.2.2.2.1, hX.2.2.2.2.1⟩ (hok l D cA ad H.size) (va_cwS n hX.2.2.2.2.1 hG rfl hR.1.1 hR.1.2 hdd hR.2) ⟨bb_blind, hpre⟩ rfl (by rw [List.length_map]; exact hn) hL.1 ?_ ?_ hd ⟨Nat.zero_le _, Nat.zero_le _⟩) hY.2.2 (fun q _ hq => hF q hq) hF (fun t H1 locs1 ht hB hS1 => ?_)
  · show (as.reverse ++ st).map (bb_cv ad) = _
    rw [List.map_append, List.map_reverse]
  · show 2 * 0 + _ ≤ 8
    rw [bb_sum]
    omega
  · rw [bb_stk]
    exact k p l e s m args below meth c D cA A ad H1 locs1 ls hX ⟨by rw [← ht]; exact hB.1, hB.2.weaken (fun _ q _ z => hF q.1 z), hS1⟩ hL
theorem bb_invN {ix : Nat} {host : String} {y : MethodName} {cc' : ByteArray} {nL' n : Nat} {ret' : Option FieldType} {rm' : Room} {as ast : List Value} {r : Option Value} {h' : bb_H} (hs : bb_in_ own ix host y cc' nL' ret' n) (hR : bb_rr rm' rm nL') (hd : decode cc pc = .ok (.invokestatic ix, 3)) (hast : as.reverse ++ st = ast) (hn : as.length = n) (hrest : (st.map fun v => v.category).sum ≤ 8) (hok : bb_Ok y cc' nL' ret' rm' as h (r, h')) (k : bb_J own cc nL ret rm o (pc + 3) L (r.toList ++ st) h') : bb_J own cc nL ret rm o pc L ast h := by
  intro p l e s m args below meth c D cA A ad H locs ls hX hY hL
  subst hast
  obtain ⟨⟨w1, w2, w3, w4⟩, hdd⟩ := hs
  have hF := bb_free hY hX.2.2.2.2.2.2.2.2.2
  have hG : GoodIn bb_good (bb_wd y cc' nL' ret') := bb_goodin (bb_wd_in w4)
  have hpre := bb_pre (as := as) hX hY
  have hnw := hX.2.2.2.2.2.2.2.1.2.1 _ w1
  refine bb_callx (va_runSN (As := as.map (bb_cv ad)) (rest := st.map (bb_cv ad)) ⟨hX.1, hX.2.1, hX.2.2.1, hX.2.2.2.1, hX.2.2.2.2.1⟩ (hok l D cA ad H.size) ⟨va_cnB (host := host) n hX.2.2.2.2.1 hG rfl hR.1.1 hR.1.2 hnw (hX.2.2.2.2.1 _ w3) hdd hR.2, hX.2.2.2.2.1 _ w2, trivial⟩ ⟨bb_blind, hpre⟩ rfl (by rw [List.length_map]; exact hn) hL.1 ?_ ?_ hd ⟨Nat.zero_le _, Nat.zero_le _⟩) hY.2.2 (fun q _ hq => hF q hq) hF (fun t H1 locs1 ht hB hS1 => ?_)
  · show (as.reverse ++ st).map (bb_cv ad) = _
    rw [List.map_append, List.map_reverse]
  · show 2 * 0 + _ ≤ 8
    rw [bb_sum]
    omega
  · rw [bb_stk]
    exact k p l e s m args below meth c D cA A ad H1 locs1 ls hX ⟨by rw [← ht]; exact hB.1, hB.2.weaken (fun _ q _ z => hF q.1 z), hS1⟩ hL
end BBC
