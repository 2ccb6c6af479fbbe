/-! a constructor's contract, its call; new int[3][6] -/
def bb_PcA (D : va_G) (cA : FieldType → ClassId) (ad : Nat → Nat) (as : List Value) (h : bb_H) (sz : Nat) : Array Value → State → Prop := fun v U => bb_Pc D cA (ad bb_qs) (ad bb_qv) ad as h sz v U ∧ bb_KA U
def bb_OkA (y : MethodName) (cc : ByteArray) (nL : Nat) (rm : Room) (as : List Value) (h o : bb_H) : Prop :=
  ∀ (l : Launch) (D : va_G) (cA : FieldType → ClassId) (ad : Nat → Nat) (sz : Nat), Met l y (bb_wd y cc nL none) rm (bb_PcA D cA ad as h sz) (bb_Q none (bb_BA D cA (va_A (bb_ws ad cA 0 h) sz) h.length ad o) (va_A (bb_ws ad cA 0 h) sz)) rm.cells rm.slots (va_A (bb_ws ad cA 0 h) sz)
theorem bb_okA {y : MethodName} {cc : ByteArray} {nL : Nat} {rm : Room} {as L : List Value} {h o : bb_H} (hy : plainName y.cls = true) (hyn : y.name = "<init>") (hlen : (bb_ent as).length ≤ nL) (hL : bb_entL nL as = L) (h1000 : h.length ≤ 1000) (k : bb_N y.cls cc nL rm h.length (bb_sz h) o 0 L [] h) : bb_OkA y cc nL rm as h o := by
  intro l D cA ad sz
  refine Met.ofW (cc := cc) (maxL := nL) (ret := none) hy rfl ?_
  intro p e s m args below meth c s₁ B hml hv
  obtain ⟨⟨rfl, hsz, hP, hK, hD0, hZ⟩, hKA⟩ := hv
  have hts := atoms_spec (ws := bb_wd y cc nL none) B.pre
  have hown : s.vm.findClass y.cls = some m.cls := findClass_of_methodNamed B.named
  have hin : meth.name = "<init>" := (name_of_methodNamed B.named B.method).1.trans hyn
  subst hsz
  have hD := hD0.self (sz := s.heap.size)
  have hA : ∀ q : Nat, s.heap.size ≤ q → va_A (bb_ws ad cA 0 h) s.heap.size q := fun q hq => Or.inr hq
  have hl := lv_entry (as.map (bb_cv ad)) (n := nL) (by rw [bb_ent_len]; exact hlen)
  rw [lg_entry_eq]
  have w := k p l e s m (as.map (bb_cv ad)).toArray below meth c D cA (va_A (bb_ws ad cA 0 h) s.heap.size) ad ad s.heap [] ((lg_sl (as.map (bb_cv ad)) ++ List.replicate (nL - (lg_sl (as.map (bb_cv ad))).length) Slot.unset).toArray) ⟨B.exec, B.bytes, hml, hown, fun w hw => hts w (List.mem_cons_of_mem _ hw), B.returns, B.notSynchronized, hK, hZ, hA⟩ ⟨hin, hKA⟩ ⟨hP, hD, va_S.rf⟩ (by subst hL; exact bb_L.of hl (fun i v h1 h2 => bb_entL_in ad h1 h2)) ⟨Nat.le_refl _, Nat.le_refl _, h1000, fun _ _ => rfl⟩
  rw [Nat.sub_self, Nat.sub_self] at w
  exact w
theorem bb_blindA {D : va_G} {cA : FieldType → ClassId} {ad : Nat → Nat} {as : List Value} {h : bb_H} {sz : Nat} : FrameBlind (bb_PcA D cA ad as h sz) := fun a U g mk q => ⟨bb_blind a U g mk q.1, q.2.moved (U := U.calling g mk a) (Vm.Alike.refl U.vm)⟩
section BBR2
variable {p : Program} {l : Launch} {e : Env} {R : Room} {s : State} {m : MethodId} {args : Array Value} {below : List Frame} {meth : Method} {c : Code} {H : Heap} {locs : List Loc} {cells slots mc ms : Nat} {Q : State → Prop}
variable {pc : Nat} {ls : Array Slot} {rest st0 : List Value} {a : Array Value} {A0 A1 : Nat → Prop} {H0 : Heap} {free : Addr → Prop}
theorem bb_callxA {r : Option Value} {B : State → Prop} (hr : va_Run p l e R s m args below meth c H locs cells slots mc ms (F0 m pc ls st0) rest (bb_Q r B A1 a) free) (hS : va_S A0 H0 H locs) (hA : ∀ q, q < H.size → A1 q → A0 q) (hf : ∀ q, free q → A0 q)
    (kk : ∀ (t : State) (H1 : Heap) (locs1 : List Loc), t.heap = H1 → B t → va_S A0 H0 H1 locs1 → W p l e R s m args below meth c H1 locs1 (cells + mc) (slots + ms) Q (F0 m (pc + 3) ls (r.toList ++ rest))) : W p l e R s m args below meth c H locs cells slots Q (F0 m pc ls st0) := by
  intro T hT X
  obtain ⟨v, st₀, t, T', L, h0, X', hL, e1, e2, ⟨⟨hv, hb⟩, hz, hk⟩, st⟩ := hr T hT X
  cases hv
  rw [h0] at hz hk
  obtain ⟨t2, a1, b1⟩ := kk t T'.heap (locs ++ L) e1.symm hb
    ⟨Nat.le_trans hS.1 (by rw [e1]; exact hz), fun q h1 h2 => by rw [e1, hk q (Nat.lt_of_lt_of_le h1 hS.1) (fun z => h2 (hA q (Nat.lt_of_lt_of_le h1 hS.1) z))]; exact hS.2.1 q h1 h2, fun q hq => by
      rcases List.mem_append.mp hq with h | h
      · exact hS.2.2 q h
      · exact hf _ (hL q h)⟩ T' rfl X'
  exact ⟨t2, st t2 a1, b1⟩
end BBR2
def bb_cck (n0 s0 : Nat) (rm rm' : Room) (h : bb_H) (rs : List Value) (h' : bb_H) : Option bb_H := if h'.length = h.length + rm'.cells ∧ bb_sz h' = bb_sz h + rm'.slots ∧ h'.length ≤ n0 + rm.cells ∧ bb_sz h' ≤ s0 + rm.slots ∧ h'.length ≤ 1000 ∧ rs.all (bb_wv h.length) = true then some h' else none
theorem bb_cck_spec {n0 s0 : Nat} {rm rm' : Room} {h h' h'' : bb_H} {rs : List Value} (e : bb_cck n0 s0 rm rm' h rs h' = some h'') : h'.length = h.length + rm'.cells ∧ bb_sz h' = bb_sz h + rm'.slots ∧ h'.length ≤ n0 + rm.cells ∧ bb_sz h' ≤ s0 + rm.slots ∧ h'.length ≤ 1000 ∧ rs.all (bb_wv h.length) = true ∧ h'' = h' := by
  unfold bb_cck at e
  split at e
  · rename_i q
    cases e
    exact ⟨q.1, q.2.1, q.2.2.1, q.2.2.2.1, q.2.2.2.2.1, q.2.2.2.2.2, rfl⟩
  · cases e
/-- how a constructor is found: by a plain link, or as a nest mate's -/
def bb_ic (own : String) (ix : Nat) (y : MethodName) (cc : ByteArray) (nL : Nat) : Prop :=
  (Cond.methodLink own ix y ∈ bb_good ∨ (own, ix, y, "BattleBench") ∈ bb_nests) ∧ (Cond.instanceMethod y ∈ bb_good ∧ Cond.initialized y.cls ∈ bb_good ∧ Cond.code y cc nL none ∈ bb_good) ∧ y.name = "<init>" ∧ (y.cls ≠ "java/lang/invoke/MethodHandle" ∧ y.cls ≠ "java/lang/invoke/VarHandle" ∧ (parseMethodDescriptor y.desc).map (fun d => d.parameters.length) = some 0)
section BBN2
variable {own : String} {cc : ByteArray} {nL : Nat} {rm : Room} {n0 s0 : Nat} {o : bb_H} {pc : Nat} {L L' st : List Value} {h : bb_H}
theorem bb_nctor {ix b : Nat} {y : MethodName} {cc' : ByteArray} {nL' : Nat} {rm' : Room} {h' h'' : bb_H} (hs : bb_ic own ix y cc' nL') (hR : rm'.frames + 1 ≤ rm.frames ∧ 8 + (nL' + 11) + rm'.locals ≤ rm.locals) (hd : decode cc pc = .ok (.invokespecial ix, 3)) (hrest : (st.map fun v => v.category).sum ≤ 8) (hok : bb_OkA y cc' nL' rm' [.ref b] h h') (hck : bb_cck n0 s0 rm rm' h (L ++ st) h' = some h'') (k : bb_N own cc nL rm n0 s0 o (pc + 3) L st h'') : bb_N own cc nL rm n0 s0 o pc L (.ref b :: st) h := by
  intro p l e s m args below meth c D cA A ad ad0 H locs ls hX hI hY hL hV
  obtain ⟨hlink, ⟨w2, w3, w4⟩, hyn, hdd⟩ := hs
  obtain ⟨c1, c2, c3, c4, c5, c6, rfl⟩ := bb_cck_spec hck
  have hF := bb_free hY hX.2.2.2.2.2.2.2.2.2
  have hG : GoodIn bb_good (bb_wd y cc' nL' none) := bb_goodin (bb_wd_in w4)
  have hpre : ∀ U : State, U.heap = H → s.WarmedH U.vm → bb_PcA D cA ad [.ref b] h H.size ([Value.ref (ad b)] : List Value).toArray U := fun U hU hW => ⟨bb_pre (as := [.ref b]) hX hY U hU hW, hI.2.moved hW.alike⟩
  obtain ⟨v1, v2, v3, v4⟩ := id hV
  have hrun : va_Run p l e rm s m args below meth c H locs (h.length - n0) (bb_sz h - s0) rm'.cells rm'.slots (F0 m pc ls ((Value.ref b :: st).map (bb_cv ad))) (st.map (bb_cv ad)) (bb_Q none (bb_BA D cA (va_A (bb_ws ad cA 0 h) H.size) h.length ad h'') (va_A (bb_ws ad cA 0 h) H.size) ([Value.ref (ad b)] : List Value).toArray) (va_A (bb_ws ad cA 0 h) H.size) := by
    rcases hlink with w1 | w1
    · exact va_runI (As := []) (b := ad b) (rest := st.map (bb_cv ad)) ⟨hX.1, hX.2.1, hX.2.2.1, hX.2.2.2.1, hX.2.2.2.2.1⟩ (hok l D cA ad H.size) (cwI 0 hX.2.2.2.2.1 hG rfl rfl rfl (hX.2.2.2.2.1 _ w3) (hX.2.2.2.2.1 _ w1) (hX.2.2.2.2.1 _ w2) hyn hdd hR) ⟨bb_blindA, hpre⟩ rfl rfl hL.1 rfl (by show 2 * 0 + _ ≤ 8; rw [bb_sum]; omega) hd ⟨by omega, by omega⟩
    · have hnw := hX.2.2.2.2.2.2.2.1.2.1 _ w1
      exact va_runIN (As := []) (b := ad b) (rest := st.map (bb_cv ad)) ⟨hX.1, hX.2.1, hX.2.2.1, hX.2.2.2.1, hX.2.2.2.2.1⟩ (hok l D cA ad H.size) ⟨va_cnB (host := "BattleBench") 0 hX.2.2.2.2.1 hG rfl rfl rfl hnw (hX.2.2.2.2.1 _ w3) hdd hR, hyn, hX.2.2.2.2.1 _ w2⟩ ⟨bb_blindA, hpre⟩ rfl rfl hL.1 rfl (by show 2 * 0 + _ ≤ 8; rw [bb_sum]; omega) hd ⟨by omega, by omega⟩
  refine bb_callxA hrun hY.2.2 (fun q _ hq => hF q hq) hF (fun t H1 locs1 ht hB hS1 => ?_)
  obtain ⟨ad', he, hB1, hB2⟩ := hB
  have he2 : ∀ i, i < h.length → ad' i = ad i := fun i hi => he i (Or.inl hi)
  have est : st.map (bb_cv ad) = st.map (bb_cv ad') := List.map_congr_left fun v hv => (bb_cv_eq (List.all_eq_true.mp c6 v (List.mem_append_right _ hv)) he2).symm
  have hq1 : ad' bb_qs = ad bb_qs := he _ (Or.inr (Nat.le_refl _))
  have hq2 : ad' bb_qv = ad bb_qv := he _ (Or.inr (by show 1000000 ≤ 1000001; decide))
  have w := k p l e s m args below meth c D cA A ad' ad0 H1 locs1 ls (by rw [hq1, hq2]; exact hX) hI ⟨by rw [← ht]; exact hB1, hB2.weaken (fun _ q _ z => hF q.1 z), hS1⟩ ⟨hL.1, hL.2.1, fun i v z1 z2 => by
    rw [bb_cv_eq (List.all_eq_true.mp c6 v (List.mem_append_left _ (List.mem_of_getElem? z1))) he2]
    exact hL.2.2 i v z1 z2⟩ ⟨by omega, by omega, by omega, fun i hi => by
      rcases hi with hi | hi
      · rw [he2 i (by omega)]; exact v4 i (Or.inl hi)
      · rw [he i (Or.inr hi)]; exact v4 i (Or.inr hi)⟩
  rw [show h''.length - n0 = h.length - n0 + rm'.cells by omega, show bb_sz h'' - s0 = bb_sz h - s0 + rm'.slots by omega, ← est] at w
  exact w
def bb_g36 (n : Nat) : bb_H := [(.inl (.array .int), [.ref (n + 1), .ref (n + 2), .ref (n + 3)]), (.inl .int, List.replicate 6 (.int 0)), (.inl .int, List.replicate 6 (.int 0)), (.inl .int, List.replicate 6 (.int 0))]
theorem bb_nmna {ix : Nat} {h' : bb_H} (hcl : Cond.classLink own ix "[[I" ∈ bb_good) (harr : Cond.arrayClass .int ∈ bb_good) (hd : decode cc pc = .ok (.multianewarray ix 2, 4)) (hal : bb_al n0 s0 rm h (L ++ st) (bb_g36 h.length) = some h') (kk : bb_N own cc nL rm n0 s0 o (pc + 4) L (.ref h.length :: st) h') : bb_N own cc nL rm n0 s0 o pc L (.int 6 :: .int 3 :: st) h := by
  intro p l e s m args below meth c D cA A ad ad0 H locs ls hX hI hY hL hV
  obtain ⟨a1, a2, a3, a4, a5, -⟩ := bb_al_spec hal
  have hg := hX.2.2.2.2.1
  obtain ⟨v1, v2, v3, v4⟩ := id hV
  have z1 : bb_sz (bb_g36 h.length) = 21 := rfl
  have z2 : (bb_g36 h.length).length = 4 := rfl
  rw [z1] at a2
  rw [z2] at a1 a3
  have hK := hX.2.2.2.2.2.2.2.1.1
  have hcy : s.vm.findClass (FieldType.array .int).toString = some (cA .int) := (hK.2 0 _ rfl).2
  refine va_mna (X := bb_ws ad cA 0 h) (L := []) (f := fun _ => .inr (0, [])) (ty := .int) (cy := cA .int) (N' := 3) (K' := 6) (z := (6, .inl (fun _ => 0))) hX.1 hX.2.1 hX.2.2.2.1 (hg _ hcl) hI.2.2.2 (hg _ harr) hcy hK (by rw [show va_pl ([] : List Nat) (fun _ => (Sum.inr (0, []) : va_E)) = [] from rfl, List.append_nil]; exact hY.1) (by rw [show va_pl ([] : List Nat) (fun _ => (Sum.inr (0, []) : va_E)) = [] from rfl, List.append_nil]; exact hY.2.1) hY.2.2 hX.2.2.2.2.2.2.2.2.2 (by decide) (by decide) (by decide) (by decide) (by decide) (by decide) (by decide) rfl rfl (by omega) (by omega) (fun c => by
    show ({ cls := c, slots := Array.replicate 6 (.int 0), vm := .none } : Cell) = _
    rw [arrV_new]
    rfl) hd (fun q r cA' H1 hr1 hr2 hK1 hP1 hD1 hS1 => ?_)
  have ec := bb_arr1 (t0 := 5) hK rfl hK1
  subst ec
  rw [bb_stE (st := st) (ad := ad) (k := 4) (q := fun i => if i = 0 then q else r (i - 1)) a5 (fun v hv => List.mem_append_right _ hv)]
  have x0 : bb_ext ad h.length 4 (fun i => if i = 0 then q else r (i - 1)) h.length = q := bb_ext_in (i := 0) (by decide)
  have x1 : bb_ext ad h.length 4 (fun i => if i = 0 then q else r (i - 1)) (h.length + 1) = r 0 := bb_ext_in (i := 1) (by decide)
  have x2 : bb_ext ad h.length 4 (fun i => if i = 0 then q else r (i - 1)) (h.length + 2) = r 1 := bb_ext_in (i := 2) (by decide)
  have x3 : bb_ext ad h.length 4 (fun i => if i = 0 then q else r (i - 1)) (h.length + 3) = r 2 := bb_ext_in (i := 3) (by decide)
  have e1 : bb_ws (bb_ext ad h.length 4 (fun i => if i = 0 then q else r (i - 1))) cA h.length (bb_g36 h.length) = [(q, .inl (cA (.array .int), 3, .inr (.inr (.inr (.inr (fun i => if i < 3 then some (r i) else none)))))), (r 0, .inl (cA .int, 6, .inl (fun _ => 0))), (r 1, .inl (cA .int, 6, .inl (fun _ => 0))), (r 2, .inl (cA .int, 6, .inl (fun _ => 0)))] := by
    have ef : (fun j => bb_toR (bb_ext ad h.length 4 (fun i => if i = 0 then q else r (i - 1))) (([.ref (h.length + 1), .ref (h.length + 2), .ref (h.length + 3)] : List Value).getD j .null)) = fun i => if i < 3 then some (r i) else none := by
      funext j
      match j with
      | 0 => exact congrArg some x1
      | 1 => exact congrArg some x2
      | 2 => exact congrArg some x3
      | j + 3 => rw [if_neg (by omega)]; rfl
    have ez := bb_zerosI (bb_ext ad h.length 4 (fun i => if i = 0 then q else r (i - 1))) 6 .int (Or.inl rfl)
    simp only [bb_g36, bb_ws, bb_e, ez, x0, x1, x2, x3, show h.length + 1 + 1 = h.length + 2 from rfl, show h.length + 2 + 1 = h.length + 3 from rfl]
    rw [show bb_arr (bb_ext ad h.length 4 (fun i => if i = 0 then q else r (i - 1))) (.array .int) [.ref (h.length + 1), .ref (h.length + 2), .ref (h.length + 3)] = (3, .inr (.inr (.inr (.inr (fun j => bb_toR (bb_ext ad h.length 4 (fun i => if i = 0 then q else r (i - 1))) (([.ref (h.length + 1), .ref (h.length + 2), .ref (h.length + 3)] : List Value).getD j .null)))))) from rfl, ef]
  have e3 : (bb_ws ad cA 0 h ++ [(q, (Sum.inl (cA (.array .int), 3, .inr (.inr (.inr (.inr (fun i => if i < 3 then some (r i) else none))))) : va_E))]) ++ va_pl ([] ++ (List.range 3).map r) (vr_up (fun _ => (Sum.inr (0, []) : va_E)) ((List.range 3).map r) (.inl (cA .int, 6, .inl (fun _ => 0)))) = bb_ws ad cA 0 h ++ bb_ws (bb_ext ad h.length 4 (fun i => if i = 0 then q else r (i - 1))) cA h.length (bb_g36 h.length) := by
    rw [e1, List.append_assoc]
    congr 1
    have er : (List.range 3).map r = [r 0, r 1, r 2] := rfl
    rw [er, List.nil_append]
    unfold va_pl
    simp only [List.map_cons, List.map_nil]
    rw [vr_up_in (by simp), vr_up_in (by simp), vr_up_in (by simp)]
    rfl
  rw [e3] at hP1 hD1
  have e2 : Value.ref q = bb_cv (bb_ext ad h.length 4 (fun i => if i = 0 then q else r (i - 1))) (.ref h.length) := by
    show _ = Value.ref (bb_ext ad h.length 4 (fun i => if i = 0 then q else r (i - 1)) h.length)
    rw [x0]
  rw [e2, ← List.map_cons]
  exact bb_grow (q := fun i => if i = 0 then q else r (i - 1)) hal hX hI hL (fun v hv => List.mem_append_left _ hv) hV hP1 hD1 hS1 (by rw [z2]) (by rw [z1]) kk
end BBN2
