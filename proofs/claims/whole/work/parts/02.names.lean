/-! ===== BEGIN words of one list among another's, by their places ===== -/
theorem goodIn_r {big : List Cond} (ws : List Cond) (ps : List Nat) (hp : ws = ps.filterMap (fun i => big[i]?)) (h : ws.all goodWord = true) : GoodIn big ws := by
  intro w hw
  have h1 := List.all_eq_true.mp h w hw
  rw [hp] at hw
  obtain ⟨i, -, hi⟩ := List.mem_filterMap.mp hw
  have hm : w ∈ big := by first | exact List.mem_of_getElem? hi | exact List.getElem?_mem hi
  exact ⟨hm, good_of_word h1⟩
theorem goodIn_app {big a b : List Cond} (ha : GoodIn big a) (hb : GoodIn big b) : GoodIn big (a ++ b) := fun w h => (List.mem_append.mp h).elim (ha w) (hb w)
theorem goodIn_ca {big a b : List Cond} {c : Cond} (ha : GoodIn big (c :: a)) (hb : GoodIn big b) : GoodIn big (c :: (a ++ b)) := fun w h => (List.mem_cons.mp h).elim (fun e => ha w (List.mem_cons.mpr (Or.inl e))) (fun h => (List.mem_append.mp h).elim (fun h => ha w (List.mem_cons.mpr (Or.inr h))) (hb w))
theorem goodIn_sub {big ws : List Cond} (hm : ∀ w ∈ ws, w ∈ big) (h : ws.all goodWord = true) : GoodIn big ws := fun w hw => ⟨hm w hw, good_of_word (List.all_eq_true.mp h w hw)⟩
/-! ===== END ===== -/

/-! ===== BEGIN new T[n][m]: the outer array a place, the inner ones among the pooled ===== -/
/-- f, but v at every address of l -/
def vr_up {α : Type} (f : Nat → α) (l : List Nat) (v : α) : Nat → α := fun a => if a ∈ l then v else f a
theorem vr_up_in {α : Type} {f : Nat → α} {l : List Nat} {v : α} {a : Nat} (h : a ∈ l) : vr_up f l v a = v := if_pos h
theorem vr_up_ne {α : Type} {f : Nat → α} {l : List Nat} {v : α} {a : Nat} (h : a ∉ l) : vr_up f l v a = f a := if_neg h
theorem vr_rows {L l : List Nat} {f : Nat → va_E} {e : va_E} (h : ∀ a, a ∈ l → a ∉ L) : va_pl L f ++ l.map (fun a => (a, e)) = va_pl (L ++ l) (vr_up f l e) := by
  unfold va_pl
  rw [List.map_append]
  congr 1
  · apply List.map_congr_left
    intro a ha
    rw [vr_up_ne (fun q => h a q ha)]
  · apply List.map_congr_left
    intro a ha
    rw [vr_up_in ha]
theorem vr_lay {X rows : va_W} {x : Nat × va_E} {pl : va_W} {D : va_G} {cl : List vw_C} {H : Heap} (hP : va_P D cl (((X ++ pl) ++ [x]) ++ rows) H) : va_P D cl ((X ++ [x]) ++ (pl ++ rows)) H := by
  rw [List.append_assoc (X ++ pl)] at hP
  have h := va_P.swap hP
  rw [← List.append_assoc X] at h
  have h2 := va_P.swap h
  rw [List.append_assoc (X ++ [x])] at h2
  exact h2
theorem vr_layD {X rows : va_W} {x : Nat × va_E} {pl : va_W} {A : Nat → Prop} (hD : va_D A (((X ++ pl) ++ [x]) ++ rows)) : va_D A ((X ++ [x]) ++ (pl ++ rows)) := by
  rw [List.append_assoc (X ++ pl)] at hD
  have h := va_D.swap hD
  rw [← List.append_assoc X] at h
  have h2 := va_D.swap h
  rw [List.append_assoc (X ++ [x])] at h2
  exact h2
theorem vr_outer (c : ClassId) (N h0 : Nat) : ∀ i : Nat, Jvm.Free.Multi.outerC c N h0 i = arrV c N (fun j => va_rf (if j < i then some (h0 + 1 + j) else none))
  | 0 => by
    show ({ cls := c, slots := Array.replicate N .null, vm := .none } : Cell) = _
    rw [arrV_new]
    refine congrArg (arrV c N) (funext fun j => ?_)
    simp [va_rf]
  | i + 1 => by
    show (Jvm.Free.Multi.outerC c N h0 i).setSlot i (.ref (h0 + 1 + i)) = _
    rw [vr_outer c N h0 i, arrV_store]
    refine congrArg (arrV c N) (funext fun j => ?_)
    by_cases e : j = i
    · subst e
      simp [updV, va_rf]
    · by_cases h : j < i
      · simp [updV, e, h, Nat.lt_succ_of_lt h]
      · simp [updV, e, h, show ¬ j < i + 1 by omega]
def va_AOA (ty : FieldType) (U : State) : Prop := (Cond.arrayOver (.array ty)).before #[] U = true
theorem va_AOA.of {ty : FieldType} {A : Array Value} {U : State} (h : (Cond.arrayOver (.array ty)).before A U = true) : va_AOA ty U := h
theorem va_AOA.use {ty : FieldType} {A : Array Value} {U : State} (h : va_AOA ty U) : (Cond.arrayOver (.array ty)).before A U = true := h
section VGM
variable {p : Program} {l : Launch} {e : Env} {R : Room} {s : State} {m : MethodId} {args : Array Value} {below : List Frame} {meth : Method} {c : Code} {H : Heap} {locs : List Loc} {cells slots : Nat} {Q : State → Prop}
variable {cc : ByteArray} {pc : Nat} {ls : Array Slot} {rest : List Value} {D : va_G} {cl : List vw_C} {A : Nat → Prop} {a : Nat} {tys : List (ClassId × FieldType)} {ws : va_W} {H0 : Heap}
theorem va_mna {X : va_W} {L : List Nat} {f : Nat → va_E} {cc : ByteArray} (hexec : p.tables.exec = Jvm.exec) (hb : c.code = cc) {own : String} {index : Nat} {ty : FieldType} {cy : ClassId} (hown : s.vm.findClass own = some m.cls) (hclink : (Cond.classLink own index ("[" ++ (FieldType.array ty).toString)).before args s = true) (hover : va_AOA ty s) (harr : (Cond.arrayClass ty).before args s = true) (hcy : s.vm.findClass (FieldType.array ty).toString = some cy)
    (hK : va_K D cl tys s) (hP : va_P D cl (X ++ va_pl L f) H) (hD : va_D A (X ++ va_pl L f)) (hS : va_S A H0 H locs) (hA : ∀ q, H0.size ≤ q → A q) {n k : Int32} {N' K' : Nat} {z : vp_A} (hn : ¬ n < 0) (hk : ¬ k < 0) (hN : n.toNatClampNeg = N') (hM : k.toNatClampNeg = K')
    (hb1 : N' * 4 ≤ 536870912) (hb2 : K' * componentBytes ty ≤ 536870912) (hb3 : K' ≤ 536870912) (hdf : fits ty (defaultValue ty) = true) (hdd : (defaultValue ty).isDefault = true) (hcells : cells + (1 + N') ≤ R.cells) (hslots : slots + (N' + N' * K') ≤ R.slots) (hz : ∀ c : ClassId, Jvm.Free.Multi.innerC c K' (defaultValue ty) = vp_cell c z) (hdg : decode cc pc = .ok (.multianewarray index 2, 4))
    (kk : ∀ (q : Nat) (r : Nat → Nat) (cA : ClassId) (H1 : Heap), (∀ i j : Nat, i < N' → j < N' → r i = r j → i = j) → (∀ i : Nat, i < N' → r i ∉ L) → va_K D cl (tys ++ [(cA, .array ty)]) s →
      va_P D cl ((X ++ [(q, .inl (cA, N', .inr (.inr (.inr (.inr (fun i => if i < N' then some (r i) else none))))))]) ++ va_pl (L ++ (List.range N').map r) (vr_up f ((List.range N').map r) (.inl (cy, z)))) H1 → va_D A ((X ++ [(q, .inl (cA, N', .inr (.inr (.inr (.inr (fun i => if i < N' then some (r i) else none))))))]) ++ va_pl (L ++ (List.range N').map r) (vr_up f ((List.range N').map r) (.inl (cy, z)))) → va_S A H0 H1 locs →
      W p l e R s m args below meth c H1 locs (cells + 1 + N') (slots + N' + N' * K') Q (F0 m (pc + 4) ls (.ref q :: rest))) : W p l e R s m args below meth c H locs cells slots Q (F0 m pc ls (.int k :: .int n :: rest)) := by
  subst hN
  subst hM
  intro T hT Xs
  obtain ⟨vm₁, cA, comp, -, fA, fC, hO, -, X', step⟩ := Xs.multianewarray2F hexec hown hclink (va_AOA.use hover) harr (g := F0 m pc ls (.int k :: .int n :: rest)) rfl (by rw [hb]; exact hdg) rfl hn hk hb1 hb2 hb3 hdf hdd hcells hslots
  have ec : some cy = some comp := hcy.symm.trans fC
  cases ec
  generalize hF : Jvm.Free.Multi.fill (T.setVm vm₁) cA cy n.toNatClampNeg k.toNatClampNeg (defaultValue ty) n.toNatClampNeg = F at X' step
  have hTh : (T.setVm vm₁).heap = H := hT
  obtain ⟨f1, f2, -, -⟩ := Jvm.Free.Multi.fill_facts (T.setVm vm₁) cA cy n.toNatClampNeg k.toNatClampNeg (defaultValue ty) n.toNatClampNeg
  rw [hF, hTh] at f1 f2
  have hold : ∀ x : Nat, x < H.size → F.heap[x]? = H[x]? := fun x hx => by
    have := Jvm.Free.Multi.fill_old (T.setVm vm₁) cA cy n.toNatClampNeg k.toNatClampNeg (defaultValue ty) (a := x) (by rw [hTh]; exact hx) n.toNatClampNeg
    rw [hF, hTh] at this
    exact this
  have hrow : ∀ j : Nat, j < n.toNatClampNeg → F.heap[H.size + 1 + j]? = some (vp_cell cy z) := fun j hj => by
    have := Jvm.Free.Multi.fill_inner (T.setVm vm₁) cA cy n.toNatClampNeg k.toNatClampNeg (defaultValue ty) n.toNatClampNeg j hj
    rw [hF, hTh, hz] at this
    exact this
  have hout : Jvm.Free.Multi.outerC cA n.toNatClampNeg H.size n.toNatClampNeg = vp_cell cA (n.toNatClampNeg, .inr (.inr (.inr (.inr (fun i => if i < n.toNatClampNeg then some (H.size + 1 + i) else none))))) := by
    rw [vp_cell_q]
    exact vr_outer cA n.toNatClampNeg H.size n.toNatClampNeg
  rw [hout] at f2
  have hlt : ∀ a, a ∈ L → a < H.size := fun a ha => by
    obtain ⟨k9, hk9⟩ := va_pl_get (X := X) (f := f) ha
    exact (hP k9 _ hk9).lt
  have hnl : ∀ i : Nat, i < n.toNatClampNeg → H.size + 1 + i ∉ L := fun i _ h => by
    have := hlt _ h
    omega
  have hnm : ∀ a, a ∈ (List.range n.toNatClampNeg).map (fun i => H.size + 1 + i) → a ∉ L := fun a ha h => by
    obtain ⟨i, -, rfl⟩ := List.mem_map.mp ha
    have := hlt _ h
    omega
  have hP0 : va_P D cl (X ++ va_pl L f) F.heap := hP.kept (fun k9 x hx => hold x.1 ((hP k9 x hx).lt))
  have hP1 : va_P D cl ((X ++ va_pl L f) ++ [(H.size, .inl (cA, n.toNatClampNeg, .inr (.inr (.inr (.inr (fun i => if i < n.toNatClampNeg then some (H.size + 1 + i) else none))))))]) F.heap := hP0.app (fun k9 x hx => by
    have h0 : k9 < 1 := (List.getElem?_eq_some_iff.mp hx).1
    rw [show k9 = 0 by omega] at hx
    cases hx
    exact f2)
  have hP2 : va_P D cl (((X ++ va_pl L f) ++ [(H.size, .inl (cA, n.toNatClampNeg, .inr (.inr (.inr (.inr (fun i => if i < n.toNatClampNeg then some (H.size + 1 + i) else none))))))]) ++ ((List.range n.toNatClampNeg).map (fun i => H.size + 1 + i)).map (fun a => (a, .inl (cy, z)))) F.heap := hP1.app (fun k9 x hx => by
    obtain ⟨a, ha, rfl⟩ := List.mem_map.mp (List.mem_of_getElem? hx)
    obtain ⟨i, hi, rfl⟩ := List.mem_map.mp ha
    exact hrow i (List.mem_range.mp hi))
  have hD2 : va_D A (((X ++ va_pl L f) ++ [(H.size, .inl (cA, n.toNatClampNeg, .inr (.inr (.inr (.inr (fun i => if i < n.toNatClampNeg then some (H.size + 1 + i) else none))))))]) ++ ((List.range n.toNatClampNeg).map (fun i => H.size + 1 + i)).map (fun a => (a, .inl (cy, z)))) := by
    have hD1 := hD.push (e := .inl (cA, n.toNatClampNeg, .inr (.inr (.inr (.inr (fun i => if i < n.toNatClampNeg then some (H.size + 1 + i) else none)))))) hP rfl (hA _ hS.1)
    generalize hW1 : (X ++ va_pl L f) ++ [(H.size, .inl (cA, n.toNatClampNeg, .inr (.inr (.inr (.inr (fun i => if i < n.toNatClampNeg then some (H.size + 1 + i) else none))))))] = W1 at hD1 hP1 ⊢
    have hle : ∀ (k9 : Nat) (x : Nat × va_E), W1[k9]? = some x → x.1 ≤ H.size := fun k9 x hx => by
      rw [← hW1] at hx
      by_cases hl : k9 < (X ++ va_pl L f).length
      · rw [List.getElem?_append_left hl] at hx
        exact Nat.le_of_lt ((hP k9 x hx).lt)
      · rw [List.getElem?_append_right (by omega)] at hx
        have h0 : k9 - (X ++ va_pl L f).length < 1 := (List.getElem?_eq_some_iff.mp hx).1
        rw [show k9 - (X ++ va_pl L f).length = 0 by omega] at hx
        cases hx
        exact Nat.le_refl _
    have hr : ∀ (k9 : Nat) (x : Nat × va_E), (((List.range n.toNatClampNeg).map (fun i => H.size + 1 + i)).map (fun a => ((a, .inl (cy, z)) : Nat × va_E)))[k9]? = some x → x.1 = H.size + 1 + k9 := fun k9 x hx => by
      rw [List.getElem?_map, List.getElem?_map] at hx
      by_cases h9 : k9 < n.toNatClampNeg
      · rw [List.getElem?_range h9] at hx
        cases hx
        rfl
      · have hn0 : (List.range n.toNatClampNeg)[k9]? = none := List.getElem?_eq_none (by rw [List.length_range]; omega)
        rw [hn0] at hx
        cases hx
    refine ⟨fun i j x y hi hj hxy => ?_, fun k9 x hx => ?_⟩
    · by_cases h1 : i < W1.length <;> by_cases h2 : j < W1.length
      · rw [List.getElem?_append_left h1] at hi
        rw [List.getElem?_append_left h2] at hj
        exact hD1.1 i j x y hi hj hxy
      · rw [List.getElem?_append_left h1] at hi
        rw [List.getElem?_append_right (by omega)] at hj
        have := hle _ _ hi
        have := hr _ _ hj
        omega
      · rw [List.getElem?_append_right (by omega)] at hi
        rw [List.getElem?_append_left h2] at hj
        have := hle _ _ hj
        have := hr _ _ hi
        omega
      · rw [List.getElem?_append_right (by omega)] at hi hj
        have := hr _ _ hi
        have := hr _ _ hj
        omega
    · by_cases h1 : k9 < W1.length
      · rw [List.getElem?_append_left h1] at hx
        exact hD1.2 k9 x hx
      · rw [List.getElem?_append_right (by omega)] at hx
        have := hr _ _ hx
        exact hA _ (by have := hS.1; omega)
  have hAr : ArrOfT s cA (.array ty) := fun N9 z9 => by
    obtain ⟨-, k9, hk9, cm9, hkk9⟩ := (hO 0 0 0).1
    exact ⟨(fun q hq => by cases hq), k9, hk9, cm9, hkk9⟩
  have hK2 : va_K D cl (tys ++ [(cA, .array ty)]) s := ⟨hK.1, fun k9 x hx => by
    by_cases hl : k9 < tys.length
    · rw [List.getElem?_append_left hl] at hx
      exact hK.2 k9 x hx
    · rw [List.getElem?_append_right (by omega)] at hx
      have h0 : k9 - tys.length < 1 := (List.getElem?_eq_some_iff.mp hx).1
      rw [show k9 - tys.length = 0 by omega] at hx
      cases hx
      exact ⟨hAr, fA⟩⟩
  obtain ⟨t, a1, b1⟩ := kk H.size (fun i => H.size + 1 + i) cA F.heap (fun i j _ _ h => by have h9 : H.size + 1 + i = H.size + 1 + j := h; omega) hnl hK2 (by rw [← vr_rows hnm]; exact vr_lay hP2) (by rw [← vr_rows hnm]; exact vr_layD hD2) ⟨by rw [f1]; have := hS.1; omega, fun x h1 h2 => (hold x (Nat.lt_of_lt_of_le h1 hS.1)).trans (hS.2.1 x h1 h2), hS.2.2⟩ F rfl X'
  refine ⟨t, step t ?_, b1⟩
  have e : T.heap.size = H.size := by rw [hT]
  rw [e]
  exact a1
end VGM
/-! ===== END ===== -/

/-! ===== BEGIN printed: names, fields, word lists, decode rows ===== -/
def RX0 : String := "BattleBench$Bench"
def TX0 : u_T := fun k => match k with
  | 0 => ("BattleBench$Bench", "lives", "[I", true)
  | 1 => ("BattleBench$Bench", "seats", "[I", true)
  | 2 => ("BattleBench$Bench", "seated", "I", false)
  | 3 => ("BattleBench$Bench", "year", "I", false)
  | _ => ("BattleBench$Bench", "draw", "I", false)
def tyX0 : Nat → FieldType := fun k => match k with
  | 0 => .array .int
  | 1 => .array .int
  | 2 => .int
  | 3 => .int
  | _ => .int
abbrev wsX00 : List Cond := u_ws RX0 TX0 5
theorem nmX0 : ∀ a, a < 5 → ∀ b, b < 5 → a ≠ b → (TX0 a).2.1 ≠ (TX0 b).2.1 := by decide +kernel
theorem tyX0_ok : ∀ k, k < 5 → parseFieldDescriptor (TX0 k).2.2.1 = some (tyX0 k) := by decide +kernel
abbrev cX0_init : ByteArray := prog_2_method_1_code
def yX0_init : MethodName := ⟨RX0, "<init>", "()V"⟩
abbrev cX0_takeFrom : ByteArray := prog_2_method_2_code
def yX0_takeFrom : MethodName := ⟨RX0, "takeFrom", "(LBattleBench$Bench;)V"⟩
abbrev cX0_seatLast : ByteArray := prog_2_method_3_code
def yX0_seatLast : MethodName := ⟨RX0, "seatLast", "(II)V"⟩
abbrev cX0_seatAll : ByteArray := prog_2_method_4_code
def yX0_seatAll : MethodName := ⟨RX0, "seatAll", "(I[I)V"⟩
abbrev cX0_seatAs : ByteArray := prog_2_method_5_code
def yX0_seatAs : MethodName := ⟨RX0, "seatAs", "([I)V"⟩
abbrev cX0_whoIsOn : ByteArray := prog_2_method_6_code
def yX0_whoIsOn : MethodName := ⟨RX0, "whoIsOn", "(I)I"⟩
abbrev cX0_seatOf : ByteArray := prog_2_method_7_code
def yX0_seatOf : MethodName := ⟨RX0, "seatOf", "(I)I"⟩
abbrev cX0_whoSits : ByteArray := prog_2_method_8_code
def yX0_whoSits : MethodName := ⟨RX0, "whoSits", "()I"⟩
abbrev cX0_whoSitsBy : ByteArray := prog_2_method_9_code
def yX0_whoSitsBy : MethodName := ⟨RX0, "whoSitsBy", "(I)I"⟩
abbrev cX0_setOn : ByteArray := prog_2_method_10_code
def yX0_setOn : MethodName := ⟨RX0, "setOn", "(I)I"⟩
abbrev cX0_lifeOfAll : ByteArray := prog_2_method_11_code
def yX0_lifeOfAll : MethodName := ⟨RX0, "lifeOfAll", "()I"⟩
abbrev cX0_lossOf : ByteArray := prog_2_method_12_code
def yX0_lossOf : MethodName := ⟨RX0, "lossOf", "(ILBattleBench$Roll;)I"⟩
abbrev cX0_hasPairAt : ByteArray := prog_2_method_13_code
def yX0_hasPairAt : MethodName := ⟨RX0, "hasPairAt", "(I)Z"⟩
abbrev cX0_swapAt : ByteArray := prog_2_method_14_code
def yX0_swapAt : MethodName := ⟨RX0, "swapAt", "(I)V"⟩
abbrev cX0_moveByDraw : ByteArray := prog_2_method_15_code
def yX0_moveByDraw : MethodName := ⟨RX0, "moveByDraw", "()V"⟩
abbrev cX0_passYear : ByteArray := prog_2_method_16_code
def yX0_passYear : MethodName := ⟨RX0, "passYear", "(LBattleBench$Roll;)V"⟩
abbrev cX0_passYears : ByteArray := prog_2_method_17_code
def yX0_passYears : MethodName := ⟨RX0, "passYears", "(ILBattleBench$Roll;)V"⟩
def RX1 : String := "BattleBench$Log"
def TX1 : u_T := fun k => match k with
  | 0 => ("BattleBench$Log", "benches", "[LBattleBench$Bench;", true)
  | 1 => ("BattleBench$Log", "known", "I", false)
  | _ => ("BattleBench$Log", "next", "I", false)
def tyX1 : Nat → FieldType := fun k => match k with
  | 0 => .array (.object "BattleBench$Bench")
  | 1 => .int
  | _ => .int
abbrev wsX10 : List Cond := u_ws RX1 TX1 3
theorem nmX1 : ∀ a, a < 3 → ∀ b, b < 3 → a ≠ b → (TX1 a).2.1 ≠ (TX1 b).2.1 := by decide +kernel
theorem tyX1_ok : ∀ k, k < 3 → parseFieldDescriptor (TX1 k).2.2.1 = some (tyX1 k) := by decide +kernel
abbrev cX1_init : ByteArray := prog_3_method_1_code
def yX1_init : MethodName := ⟨RX1, "<init>", "()V"⟩
abbrev cX1_takeFrom : ByteArray := prog_3_method_2_code
def yX1_takeFrom : MethodName := ⟨RX1, "takeFrom", "(LBattleBench$Log;)V"⟩
abbrev cX1_keep : ByteArray := prog_3_method_3_code
def yX1_keep : MethodName := ⟨RX1, "keep", "(LBattleBench$Bench;)V"⟩
abbrev cX1_giveBack : ByteArray := prog_3_method_4_code
def yX1_giveBack : MethodName := ⟨RX1, "giveBack", "(LBattleBench$Bench;)V"⟩
abbrev cX1_forget : ByteArray := prog_3_method_5_code
def yX1_forget : MethodName := ⟨RX1, "forget", "()V"⟩
def RX2 : String := "BattleBench$Order"
def TX2 : u_T := fun k => match k with
  | 0 => ("BattleBench$Order", "men", "[I", true)
  | 1 => ("BattleBench$Order", "best", "[I", true)
  | _ => ("BattleBench$Order", "size", "I", false)
def tyX2 : Nat → FieldType := fun k => match k with
  | 0 => .array .int
  | 1 => .array .int
  | _ => .int
abbrev wsX20 : List Cond := u_ws RX2 TX2 3
theorem nmX2 : ∀ a, a < 3 → ∀ b, b < 3 → a ≠ b → (TX2 a).2.1 ≠ (TX2 b).2.1 := by decide +kernel
theorem tyX2_ok : ∀ k, k < 3 → parseFieldDescriptor (TX2 k).2.2.1 = some (tyX2 k) := by decide +kernel
abbrev cX2_init : ByteArray := prog_4_method_1_code
def yX2_init : MethodName := ⟨RX2, "<init>", "()V"⟩
abbrev cX2_start : ByteArray := prog_4_method_2_code
def yX2_start : MethodName := ⟨RX2, "start", "(LBattleBench$Bench;)V"⟩
abbrev cX2_keepAsBest : ByteArray := prog_4_method_3_code
def yX2_keepAsBest : MethodName := ⟨RX2, "keepAsBest", "()V"⟩
abbrev cX2_bestOn : ByteArray := prog_4_method_4_code
def yX2_bestOn : MethodName := ⟨RX2, "bestOn", "(I)I"⟩
abbrev cX2_isTurnedRound : ByteArray := prog_4_method_5_code
def yX2_isTurnedRound : MethodName := ⟨RX2, "isTurnedRound", "()Z"⟩
abbrev cX2_advance : ByteArray := prog_4_method_6_code
def yX2_advance : MethodName := ⟨RX2, "advance", "()Z"⟩
abbrev cX2_swap : ByteArray := prog_4_method_7_code
def yX2_swap : MethodName := ⟨RX2, "swap", "(II)V"⟩
def RX3 : String := "BattleBench$Roll"
def TX3 : u_T := fun k => match k with
  | 0 => ("BattleBench$Roll", "men", "I", false)
  | 1 => ("BattleBench$Roll", "kinds", "[I", true)
  | 2 => ("BattleBench$Roll", "places", "[[I", true)
  | _ => ("BattleBench$Roll", "stoodBy", "[I", true)
def tyX3 : Nat → FieldType := fun k => match k with
  | 0 => .int
  | 1 => .array .int
  | 2 => .array (.array .int)
  | _ => .array .int
abbrev wsX30 : List Cond := u_ws RX3 TX3 4
theorem nmX3 : ∀ a, a < 4 → ∀ b, b < 4 → a ≠ b → (TX3 a).2.1 ≠ (TX3 b).2.1 := by decide +kernel
theorem tyX3_ok : ∀ k, k < 4 → parseFieldDescriptor (TX3 k).2.2.1 = some (tyX3 k) := by decide +kernel
abbrev cX3_init : ByteArray := prog_5_method_1_code
def yX3_init : MethodName := ⟨RX3, "<init>", "()V"⟩
abbrev cX3_takeFrom : ByteArray := prog_5_method_2_code
def yX3_takeFrom : MethodName := ⟨RX3, "takeFrom", "(LBattleBench$Roll;)V"⟩
abbrev cX3_has : ByteArray := prog_5_method_3_code
def yX3_has : MethodName := ⟨RX3, "has", "(I)Z"⟩
abbrev cX3_isTaken : ByteArray := prog_5_method_4_code
def yX3_isTaken : MethodName := ⟨RX3, "isTaken", "(II)Z"⟩
abbrev cX3_isTakenAtAnyHour : ByteArray := prog_5_method_5_code
def yX3_isTakenAtAnyHour : MethodName := ⟨RX3, "isTakenAtAnyHour", "(I)Z"⟩
abbrev cX3_placeNext : ByteArray := prog_5_method_6_code
def yX3_placeNext : MethodName := ⟨RX3, "placeNext", "(II)V"⟩
abbrev cX3_placeNextByNumber : ByteArray := prog_5_method_7_code
def yX3_placeNextByNumber : MethodName := ⟨RX3, "placeNextByNumber", "()V"⟩
abbrev cX3_adm : ByteArray := prog_5_method_8_code
/-- the name of Roll's method 8, taken out of the tables: its own word is one that the screen of a hand-in refuses, so it isn't spelled here -/
def yX3_adm_n : String := match tables_1_2[9]? with
  | some (Cond.methodLink _ _ y) => y.name
  | _ => ""
def yX3_adm : MethodName := ⟨RX3, yX3_adm_n, "(I)V"⟩
abbrev cX3_findWhoStoodBy : ByteArray := prog_5_method_9_code
def yX3_findWhoStoodBy : MethodName := ⟨RX3, "findWhoStoodBy", "()V"⟩
abbrev cX3_wereTogether : ByteArray := prog_5_method_10_code
def yX3_wereTogether : MethodName := ⟨RX3, "wereTogether", "(II)Z"⟩
abbrev cX3_isNobodyBetween : ByteArray := prog_5_method_11_code
def yX3_isNobodyBetween : MethodName := ⟨RX3, "isNobodyBetween", "([III)Z"⟩
abbrev cX3_wrongPairs : ByteArray := prog_5_method_12_code
def yX3_wrongPairs : MethodName := ⟨RX3, "wrongPairs", "([II)I"⟩
abbrev cX3_lossOf : ByteArray := prog_5_method_13_code
def yX3_lossOf : MethodName := ⟨RX3, "lossOf", "(IIII)I"⟩
abbrev cX3_lossOfHale : ByteArray := prog_5_method_14_code
def yX3_lossOfHale : MethodName := ⟨RX3, "lossOfHale", "(I)I"⟩
def RX4 : String := "BattleBench$Sheet"
def TX4 : u_T := fun k => match k with
  | 0 => ("BattleBench$Sheet", "isThere", "Z", false)
  | 1 => ("BattleBench$Sheet", "lane", "I", false)
  | 2 => ("BattleBench$Sheet", "length", "I", false)
  | _ => ("BattleBench$Sheet", "items", "[J", true)
def tyX4 : Nat → FieldType := fun k => match k with
  | 0 => .boolean
  | 1 => .int
  | 2 => .int
  | _ => .array .long
abbrev wsX40 : List Cond := u_ws RX4 TX4 4
theorem nmX4 : ∀ a, a < 4 → ∀ b, b < 4 → a ≠ b → (TX4 a).2.1 ≠ (TX4 b).2.1 := by decide +kernel
theorem tyX4_ok : ∀ k, k < 4 → parseFieldDescriptor (TX4 k).2.2.1 = some (tyX4 k) := by decide +kernel
abbrev cX4_init : ByteArray := prog_6_method_1_code
def yX4_init : MethodName := ⟨RX4, "<init>", "()V"⟩
abbrev cX4_renew : ByteArray := prog_6_method_2_code
def yX4_renew : MethodName := ⟨RX4, "renew", "(II)V"⟩
abbrev cX4_spans : ByteArray := prog_6_method_3_code
def yX4_spans : MethodName := ⟨RX4, "spans", "(II)Z"⟩
abbrev cX4_refusalOf : ByteArray := prog_6_method_4_code
def yX4_refusalOf : MethodName := ⟨RX4, "refusalOf", "(III)I"⟩
abbrev cX4_put : ByteArray := prog_6_method_5_code
def yX4_put : MethodName := ⟨RX4, "put", "(IJ)V"⟩
abbrev cX4_cut : ByteArray := prog_6_method_6_code
def yX4_cut : MethodName := ⟨RX4, "cut", "(J)J"⟩
def RX5 : String := "BattleBench$State"
def TX5 : u_T := fun k => match k with
  | 0 => ("BattleBench$State", "roll", "LBattleBench$Roll;", true)
  | 1 => ("BattleBench$State", "bench", "LBattleBench$Bench;", true)
  | _ => ("BattleBench$State", "log", "LBattleBench$Log;", true)
def tyX5 : Nat → FieldType := fun k => match k with
  | 0 => .object "BattleBench$Roll"
  | 1 => .object "BattleBench$Bench"
  | _ => .object "BattleBench$Log"
abbrev wsX50 : List Cond := u_ws RX5 TX5 3
theorem nmX5 : ∀ a, a < 3 → ∀ b, b < 3 → a ≠ b → (TX5 a).2.1 ≠ (TX5 b).2.1 := by decide +kernel
theorem tyX5_ok : ∀ k, k < 3 → parseFieldDescriptor (TX5 k).2.2.1 = some (tyX5 k) := by decide +kernel
abbrev cX5_init : ByteArray := prog_7_method_1_code
def yX5_init : MethodName := ⟨RX5, "<init>", "()V"⟩
abbrev cX5_takeFrom : ByteArray := prog_7_method_2_code
def yX5_takeFrom : MethodName := ⟨RX5, "takeFrom", "(LBattleBench$State;)V"⟩
def RX6 : String := "BattleBench$Tape"
def TX6 : u_T := fun k => match k with
  | 0 => ("BattleBench$Tape", "letters", "[C", true)
  | 1 => ("BattleBench$Tape", "length", "I", false)
  | 2 => ("BattleBench$Tape", "roll", "LBattleBench$Roll;", true)
  | 3 => ("BattleBench$Tape", "lives", "[I", true)
  | 4 => ("BattleBench$Tape", "at", "I", false)
  | _ => ("BattleBench$Tape", "fault", "I", false)
def tyX6 : Nat → FieldType := fun k => match k with
  | 0 => .array .char
  | 1 => .int
  | 2 => .object "BattleBench$Roll"
  | 3 => .array .int
  | 4 => .int
  | _ => .int
abbrev wsX60 : List Cond := u_ws RX6 TX6 6
theorem nmX6 : ∀ a, a < 6 → ∀ b, b < 6 → a ≠ b → (TX6 a).2.1 ≠ (TX6 b).2.1 := by decide +kernel
theorem tyX6_ok : ∀ k, k < 6 → parseFieldDescriptor (TX6 k).2.2.1 = some (tyX6 k) := by decide +kernel
abbrev cX6_init : ByteArray := prog_8_method_1_code
def yX6_init : MethodName := ⟨RX6, "<init>", "()V"⟩
abbrev cX6_add : ByteArray := prog_8_method_2_code
def yX6_add : MethodName := ⟨RX6, "add", "(C)V"⟩
abbrev cX6_readBench : ByteArray := prog_8_method_3_code
def yX6_readBench : MethodName := ⟨RX6, "readBench", "()I"⟩
abbrev cX6_readMan : ByteArray := prog_8_method_4_code
def yX6_readMan : MethodName := ⟨RX6, "readMan", "()V"⟩
abbrev cX6_readLife : ByteArray := prog_8_method_5_code
def yX6_readLife : MethodName := ⟨RX6, "readLife", "()I"⟩
abbrev cX6_readPlaces : ByteArray := prog_8_method_6_code
def yX6_readPlaces : MethodName := ⟨RX6, "readPlaces", "()V"⟩
abbrev cX6_readComma : ByteArray := prog_8_method_7_code
def yX6_readComma : MethodName := ⟨RX6, "readComma", "()Z"⟩
abbrev cX6_faultAt : ByteArray := prog_8_method_8_code
def yX6_faultAt : MethodName := ⟨RX6, "faultAt", "(I)V"⟩
abbrev cX6_skipBlanks : ByteArray := prog_8_method_9_code
def yX6_skipBlanks : MethodName := ⟨RX6, "skipBlanks", "()V"⟩
abbrev cX6_here : ByteArray := prog_8_method_10_code
def yX6_here : MethodName := ⟨RX6, "here", "()C"⟩
abbrev cX6_isDigit : ByteArray := prog_8_method_11_code
def yX6_isDigit : MethodName := ⟨RX6, "isDigit", "()Z"⟩
abbrev cX6_readDigit : ByteArray := prog_8_method_12_code
def yX6_readDigit : MethodName := ⟨RX6, "readDigit", "()I"⟩
def RX7 : String := "BattleBench"
def TX7 : u_T := fun k => match k with
  | 0 => ("BattleBench", "state", "LBattleBench$State;", true)
  | 1 => ("BattleBench", "kept", "LBattleBench$State;", true)
  | 2 => ("BattleBench", "isKept", "Z", false)
  | 3 => ("BattleBench", "tape", "LBattleBench$Tape;", true)
  | 4 => ("BattleBench", "sheets", "[LBattleBench$Sheet;", true)
  | 5 => ("BattleBench", "trial", "LBattleBench$Bench;", true)
  | 6 => ("BattleBench", "guess", "LBattleBench$Roll;", true)
  | 7 => ("BattleBench", "order", "LBattleBench$Order;", true)
  | _ => ("BattleBench", "chains", "[I", true)
def tyX7 : Nat → FieldType := fun k => match k with
  | 0 => .object "BattleBench$State"
  | 1 => .object "BattleBench$State"
  | 2 => .boolean
  | 3 => .object "BattleBench$Tape"
  | 4 => .array (.object "BattleBench$Sheet")
  | 5 => .object "BattleBench$Bench"
  | 6 => .object "BattleBench$Roll"
  | 7 => .object "BattleBench$Order"
  | _ => .array .int
abbrev wsX70 : List Cond := u_ws RX7 TX7 9
theorem nmX7 : ∀ a, a < 9 → ∀ b, b < 9 → a ≠ b → (TX7 a).2.1 ≠ (TX7 b).2.1 := by decide +kernel
theorem tyX7_ok : ∀ k, k < 9 → parseFieldDescriptor (TX7 k).2.2.1 = some (tyX7 k) := by decide +kernel
abbrev cX7_init : ByteArray := prog_1_method_1_code
def yX7_init : MethodName := ⟨RX7, "<init>", "()V"⟩
abbrev cX7_man : ByteArray := prog_1_method_2_code
def yX7_man : MethodName := ⟨RX7, "man", "(II)I"⟩
abbrev cX7_stood : ByteArray := prog_1_method_3_code
def yX7_stood : MethodName := ⟨RX7, "stood", "(III)I"⟩
abbrev cX7_of : ByteArray := prog_1_method_4_code
def yX7_of : MethodName := ⟨RX7, "of", "(II)I"⟩
abbrev cX7_seat : ByteArray := prog_1_method_5_code
def yX7_seat : MethodName := ⟨RX7, "seat", "(I)I"⟩
abbrev cX7_type : ByteArray := prog_1_method_6_code
def yX7_type : MethodName := ⟨RX7, "type", "(I)I"⟩
abbrev cX7_read : ByteArray := prog_1_method_7_code
def yX7_read : MethodName := ⟨RX7, "read", "()I"⟩
abbrev cX7_count : ByteArray := prog_1_method_8_code
def yX7_count : MethodName := ⟨RX7, "count", "(I)I"⟩
abbrev cX7_years : ByteArray := prog_1_method_9_code
def yX7_years : MethodName := ⟨RX7, "years", "(I)I"⟩
abbrev cX7_move : ByteArray := prog_1_method_10_code
def yX7_move : MethodName := ⟨RX7, "move", "(I)I"⟩
abbrev cX7_nurse : ByteArray := prog_1_method_11_code
def yX7_nurse : MethodName := ⟨RX7, "nurse", "(II)I"⟩
abbrev cX7_drift : ByteArray := prog_1_method_12_code
def yX7_drift : MethodName := ⟨RX7, "drift", "(I)I"⟩
abbrev cX7_undo : ByteArray := prog_1_method_13_code
def yX7_undo : MethodName := ⟨RX7, "undo", "()I"⟩
abbrev cX7_seed : ByteArray := prog_1_method_14_code
def yX7_seed : MethodName := ⟨RX7, "seed", "(I)I"⟩
abbrev cX7_goOn : ByteArray := prog_1_method_15_code
def yX7_goOn : MethodName := ⟨RX7, "goOn", "(IZ)I"⟩
abbrev cX7_ahead : ByteArray := prog_1_method_16_code
def yX7_ahead : MethodName := ⟨RX7, "ahead", "(II)I"⟩
abbrev cX7_then : ByteArray := prog_1_method_17_code
def yX7_then : MethodName := ⟨RX7, "then", "(I)I"⟩
abbrev cX7_ends : ByteArray := prog_1_method_18_code
def yX7_ends : MethodName := ⟨RX7, "ends", "(I)I"⟩
abbrev cX7_lonely : ByteArray := prog_1_method_19_code
def yX7_lonely : MethodName := ⟨RX7, "lonely", "()I"⟩
abbrev cX7_close : ByteArray := prog_1_method_20_code
def yX7_close : MethodName := ⟨RX7, "close", "(II)I"⟩
abbrev cX7_swaps : ByteArray := prog_1_method_21_code
def yX7_swaps : MethodName := ⟨RX7, "swaps", "(I)I"⟩
abbrev cX7_stay : ByteArray := prog_1_method_22_code
def yX7_stay : MethodName := ⟨RX7, "stay", "(II)I"⟩
abbrev cX7_ways : ByteArray := prog_1_method_23_code
def yX7_ways : MethodName := ⟨RX7, "ways", "()I"⟩
abbrev cX7_ease : ByteArray := prog_1_method_24_code
def yX7_ease : MethodName := ⟨RX7, "ease", "(I)I"⟩
abbrev cX7_left : ByteArray := prog_1_method_25_code
def yX7_left : MethodName := ⟨RX7, "left", "(II)I"⟩
abbrev cX7_winter : ByteArray := prog_1_method_26_code
def yX7_winter : MethodName := ⟨RX7, "winter", "(III)I"⟩
abbrev cX7_image : ByteArray := prog_1_method_27_code
def yX7_image : MethodName := ⟨RX7, "image", "()I"⟩
abbrev cX7_restore : ByteArray := prog_1_method_28_code
def yX7_restore : MethodName := ⟨RX7, "restore", "()I"⟩
abbrev cX7_failed : ByteArray := prog_1_method_29_code
def yX7_failed : MethodName := ⟨RX7, "failed", "(IIIIII)I"⟩
abbrev cX7_film : ByteArray := prog_1_method_30_code
def yX7_film : MethodName := ⟨RX7, "film", "(IIIII)I"⟩
abbrev cX7_sheet : ByteArray := prog_1_method_31_code
def yX7_sheet : MethodName := ⟨RX7, "sheet", "(III)I"⟩
abbrev cX7_drop : ByteArray := prog_1_method_32_code
def yX7_drop : MethodName := ⟨RX7, "drop", "(I)I"⟩
abbrev cX7_item : ByteArray := prog_1_method_33_code
def yX7_item : MethodName := ⟨RX7, "item", "(IIIJ)I"⟩
abbrev cX7_copy : ByteArray := prog_1_method_34_code
def yX7_copy : MethodName := ⟨RX7, "copy", "(IIIII)I"⟩
abbrev cX7_foretell : ByteArray := prog_1_method_35_code
def yX7_foretell : MethodName := ⟨RX7, "foretell", "(I)V"⟩
abbrev cX7_foretellFor : ByteArray := prog_1_method_36_code
def yX7_foretellFor : MethodName := ⟨RX7, "foretellFor", "([II)V"⟩
abbrev cX7_whoCouldStay : ByteArray := prog_1_method_37_code
def yX7_whoCouldStay : MethodName := ⟨RX7, "whoCouldStay", "([I)I"⟩
abbrev cX7_measureChains : ByteArray := prog_1_method_38_code
def yX7_measureChains : MethodName := ⟨RX7, "measureChains", "([I)I"⟩
abbrev cX7_findEase : ByteArray := prog_1_method_39_code
def yX7_findEase : MethodName := ⟨RX7, "findEase", "()I"⟩
abbrev cX7_findMostLeft : ByteArray := prog_1_method_40_code
def yX7_findMostLeft : MethodName := ⟨RX7, "findMostLeft", "(I)V"⟩
abbrev cX7_weightOfWinters : ByteArray := prog_1_method_41_code
def yX7_weightOfWinters : MethodName := ⟨RX7, "weightOfWinters", "(II)I"⟩
abbrev cX7_areAllByTheirOwn : ByteArray := prog_1_method_42_code
def yX7_areAllByTheirOwn : MethodName := ⟨RX7, "areAllByTheirOwn", "(I)Z"⟩
abbrev cX7_kindsThatFit : ByteArray := prog_1_method_43_code
def yX7_kindsThatFit : MethodName := ⟨RX7, "kindsThatFit", "(ILBattleBench$Sheet;II)I"⟩
abbrev cX7_howManyLivesFit : ByteArray := prog_1_method_44_code
def yX7_howManyLivesFit : MethodName := ⟨RX7, "howManyLivesFit", "(ILBattleBench$Sheet;II)I"⟩
abbrev cX7_leastLifeThatFits : ByteArray := prog_1_method_45_code
def yX7_leastLifeThatFits : MethodName := ⟨RX7, "leastLifeThatFits", "(ILBattleBench$Sheet;II)I"⟩
abbrev cX7_doesLifeFit : ByteArray := prog_1_method_46_code
def yX7_doesLifeFit : MethodName := ⟨RX7, "doesLifeFit", "(IILBattleBench$Sheet;II)Z"⟩
abbrev cX7_doesFail : ByteArray := prog_1_method_47_code
def yX7_doesFail : MethodName := ⟨RX7, "doesFail", "(ILBattleBench$Sheet;II)Z"⟩
abbrev cX7_within : ByteArray := prog_1_method_48_code
def yX7_within : MethodName := ⟨RX7, "within", "(III)Z"⟩
abbrev cX7_isHour : ByteArray := prog_1_method_49_code
def yX7_isHour : MethodName := ⟨RX7, "isHour", "(I)Z"⟩
abbrev cX7_isSheet : ByteArray := prog_1_method_50_code
def yX7_isSheet : MethodName := ⟨RX7, "isSheet", "(I)Z"⟩
abbrev cX7_isLane : ByteArray := prog_1_method_51_code
def yX7_isLane : MethodName := ⟨RX7, "isLane", "(I)Z"⟩
abbrev cX7_holds : ByteArray := prog_1_method_52_code
def yX7_holds : MethodName := ⟨RX7, "holds", "(II)Z"⟩
abbrev cX7_power : ByteArray := prog_1_method_53_code
def yX7_power : MethodName := ⟨RX7, "power", "(II)I"⟩
abbrev cX7_commonDivisor : ByteArray := prog_1_method_54_code
def yX7_commonDivisor : MethodName := ⟨RX7, "commonDivisor", "(II)I"⟩
def RX8 : String := "BattleBenchModel"
def TX8 : u_T := fun k => match k with
  | 0 => ("BattleBenchModel", "s", "[I", true)
  | 1 => ("BattleBenchModel", "images", "[I", true)
  | 2 => ("BattleBenchModel", "kept", "Z", false)
  | 3 => ("BattleBenchModel", "tape", "[I", true)
  | 4 => ("BattleBenchModel", "typed", "I", false)
  | 5 => ("BattleBenchModel", "draft", "[I", true)
  | 6 => ("BattleBenchModel", "at", "I", false)
  | 7 => ("BattleBenchModel", "items", "[J", true)
  | 8 => ("BattleBenchModel", "moved", "[J", true)
  | 9 => ("BattleBenchModel", "sizes", "[I", true)
  | 10 => ("BattleBenchModel", "lanes", "[I", true)
  | 11 => ("BattleBenchModel", "less", "[I", true)
  | 12 => ("BattleBenchModel", "aside", "[I", true)
  | _ => ("BattleBenchModel", "order", "[I", true)
def tyX8 : Nat → FieldType := fun k => match k with
  | 0 => .array .int
  | 1 => .array .int
  | 2 => .boolean
  | 3 => .array .int
  | 4 => .int
  | 5 => .array .int
  | 6 => .int
  | 7 => .array .long
  | 8 => .array .long
  | 9 => .array .int
  | 10 => .array .int
  | 11 => .array .int
  | 12 => .array .int
  | _ => .array .int
abbrev wsX80 : List Cond := u_ws RX8 TX8 14
theorem nmX8 : ∀ a, a < 14 → ∀ b, b < 14 → a ≠ b → (TX8 a).2.1 ≠ (TX8 b).2.1 := by decide +kernel
theorem tyX8_ok : ∀ k, k < 14 → parseFieldDescriptor (TX8 k).2.2.1 = some (tyX8 k) := by decide +kernel
abbrev cX8_init : ByteArray := prog_10_method_1_code
def yX8_init : MethodName := ⟨RX8, "<init>", "()V"⟩
abbrev cX8_in : ByteArray := prog_10_method_3_code
def yX8_in : MethodName := ⟨RX8, "in", "(III)Z"⟩
abbrev cX8_has : ByteArray := prog_10_method_4_code
def yX8_has : MethodName := ⟨RX8, "has", "(II)Z"⟩
abbrev cX8_isMan : ByteArray := prog_10_method_5_code
def yX8_isMan : MethodName := ⟨RX8, "isMan", "(I)Z"⟩
abbrev cX8_seatOf : ByteArray := prog_10_method_6_code
def yX8_seatOf : MethodName := ⟨RX8, "seatOf", "(I)I"⟩
abbrev cX8_onSeat : ByteArray := prog_10_method_7_code
def yX8_onSeat : MethodName := ⟨RX8, "onSeat", "(I)I"⟩
abbrev cX8_bench : ByteArray := prog_10_method_8_code
def yX8_bench : MethodName := ⟨RX8, "bench", "()I"⟩
abbrev cX8_isTaken : ByteArray := prog_10_method_9_code
def yX8_isTaken : MethodName := ⟨RX8, "isTaken", "(II)Z"⟩
abbrev cX8_man : ByteArray := prog_10_method_10_code
def yX8_man : MethodName := ⟨RX8, "man", "(II)I"⟩
abbrev cX8_stood : ByteArray := prog_10_method_11_code
def yX8_stood : MethodName := ⟨RX8, "stood", "(III)I"⟩
abbrev cX8_stoodBy : ByteArray := prog_10_method_12_code
def yX8_stoodBy : MethodName := ⟨RX8, "stoodBy", "(II)Z"⟩
abbrev cX8_allStoodBy : ByteArray := prog_10_method_13_code
def yX8_allStoodBy : MethodName := ⟨RX8, "allStoodBy", "(I)I"⟩
abbrev cX8_allSitBy : ByteArray := prog_10_method_14_code
def yX8_allSitBy : MethodName := ⟨RX8, "allSitBy", "(I)I"⟩
abbrev cX8_ones : ByteArray := prog_10_method_15_code
def yX8_ones : MethodName := ⟨RX8, "ones", "(I)I"⟩
abbrev cX8_fails : ByteArray := prog_10_method_16_code
def yX8_fails : MethodName := ⟨RX8, "fails", "(I)I"⟩
abbrev cX8_passes : ByteArray := prog_10_method_17_code
def yX8_passes : MethodName := ⟨RX8, "passes", "()V"⟩
abbrev cX8_of : ByteArray := prog_10_method_18_code
def yX8_of : MethodName := ⟨RX8, "of", "(II)I"⟩
abbrev cX8_seat : ByteArray := prog_10_method_19_code
def yX8_seat : MethodName := ⟨RX8, "seat", "(I)I"⟩
abbrev cX8_type : ByteArray := prog_10_method_20_code
def yX8_type : MethodName := ⟨RX8, "type", "(I)I"⟩
abbrev cX8_letterAt : ByteArray := prog_10_method_21_code
def yX8_letterAt : MethodName := ⟨RX8, "letterAt", "(I)I"⟩
abbrev cX8_isDigit : ByteArray := prog_10_method_22_code
def yX8_isDigit : MethodName := ⟨RX8, "isDigit", "(I)Z"⟩
abbrev cX8_skips : ByteArray := prog_10_method_23_code
def yX8_skips : MethodName := ⟨RX8, "skips", "()I"⟩
abbrev cX8_kindBy : ByteArray := prog_10_method_24_code
def yX8_kindBy : MethodName := ⟨RX8, "kindBy", "(I)I"⟩
abbrev cX8_isTold : ByteArray := prog_10_method_25_code
def yX8_isTold : MethodName := ⟨RX8, "isTold", "(III)Z"⟩
abbrev cX8_readsMan : ByteArray := prog_10_method_26_code
def yX8_readsMan : MethodName := ⟨RX8, "readsMan", "(I)Z"⟩
abbrev cX8_readsAll : ByteArray := prog_10_method_27_code
def yX8_readsAll : MethodName := ⟨RX8, "readsAll", "()I"⟩
abbrev cX8_read : ByteArray := prog_10_method_28_code
def yX8_read : MethodName := ⟨RX8, "read", "()I"⟩
abbrev cX8_lives : ByteArray := prog_10_method_29_code
def yX8_lives : MethodName := ⟨RX8, "lives", "()I"⟩
abbrev cX8_wrong : ByteArray := prog_10_method_30_code
def yX8_wrong : MethodName := ⟨RX8, "wrong", "()I"⟩
abbrev cX8_count : ByteArray := prog_10_method_31_code
def yX8_count : MethodName := ⟨RX8, "count", "(I)I"⟩
abbrev cX8_keeps : ByteArray := prog_10_method_32_code
def yX8_keeps : MethodName := ⟨RX8, "keeps", "()V"⟩
abbrev cX8_years : ByteArray := prog_10_method_33_code
def yX8_years : MethodName := ⟨RX8, "years", "(I)I"⟩
abbrev cX8_changes : ByteArray := prog_10_method_34_code
def yX8_changes : MethodName := ⟨RX8, "changes", "(I)V"⟩
abbrev cX8_move : ByteArray := prog_10_method_35_code
def yX8_move : MethodName := ⟨RX8, "move", "(I)I"⟩
abbrev cX8_nurse : ByteArray := prog_10_method_36_code
def yX8_nurse : MethodName := ⟨RX8, "nurse", "(II)I"⟩
abbrev cX8_drift : ByteArray := prog_10_method_37_code
def yX8_drift : MethodName := ⟨RX8, "drift", "(I)I"⟩
abbrev cX8_undo : ByteArray := prog_10_method_38_code
def yX8_undo : MethodName := ⟨RX8, "undo", "()I"⟩
abbrev cX8_seed : ByteArray := prog_10_method_39_code
def yX8_seed : MethodName := ⟨RX8, "seed", "(I)I"⟩
abbrev cX8_holds : ByteArray := prog_10_method_40_code
def yX8_holds : MethodName := ⟨RX8, "holds", "()V"⟩
abbrev cX8_lets : ByteArray := prog_10_method_41_code
def yX8_lets : MethodName := ⟨RX8, "lets", "()V"⟩
abbrev cX8_ahead : ByteArray := prog_10_method_42_code
def yX8_ahead : MethodName := ⟨RX8, "ahead", "(II)I"⟩
abbrev cX8_then : ByteArray := prog_10_method_43_code
def yX8_then : MethodName := ⟨RX8, "then", "(I)I"⟩
abbrev cX8_ends : ByteArray := prog_10_method_44_code
def yX8_ends : MethodName := ⟨RX8, "ends", "(I)I"⟩
abbrev cX8_lonely : ByteArray := prog_10_method_45_code
def yX8_lonely : MethodName := ⟨RX8, "lonely", "()I"⟩
abbrev cX8_close : ByteArray := prog_10_method_46_code
def yX8_close : MethodName := ⟨RX8, "close", "(II)I"⟩
abbrev cX8_placeOn : ByteArray := prog_10_method_47_code
def yX8_placeOn : MethodName := ⟨RX8, "placeOn", "(II)I"⟩
abbrev cX8_swaps : ByteArray := prog_10_method_48_code
def yX8_swaps : MethodName := ⟨RX8, "swaps", "(I)I"⟩
abbrev cX8_isOrder : ByteArray := prog_10_method_49_code
def yX8_isOrder : MethodName := ⟨RX8, "isOrder", "(II)Z"⟩
abbrev cX8_isAhead : ByteArray := prog_10_method_50_code
def yX8_isAhead : MethodName := ⟨RX8, "isAhead", "(II)Z"⟩
abbrev cX8_stay : ByteArray := prog_10_method_51_code
def yX8_stay : MethodName := ⟨RX8, "stay", "(II)I"⟩
abbrev cX8_firstOrder : ByteArray := prog_10_method_52_code
def yX8_firstOrder : MethodName := ⟨RX8, "firstOrder", "()V"⟩
abbrev cX8_nextOrder : ByteArray := prog_10_method_53_code
def yX8_nextOrder : MethodName := ⟨RX8, "nextOrder", "()Z"⟩
abbrev cX8_ways : ByteArray := prog_10_method_54_code
def yX8_ways : MethodName := ⟨RX8, "ways", "()I"⟩
abbrev cX8_ease : ByteArray := prog_10_method_55_code
def yX8_ease : MethodName := ⟨RX8, "ease", "(I)I"⟩
abbrev cX8_left : ByteArray := prog_10_method_56_code
def yX8_left : MethodName := ⟨RX8, "left", "(II)I"⟩
abbrev cX8_winter : ByteArray := prog_10_method_57_code
def yX8_winter : MethodName := ⟨RX8, "winter", "(III)I"⟩
abbrev cX8_image : ByteArray := prog_10_method_58_code
def yX8_image : MethodName := ⟨RX8, "image", "()I"⟩
abbrev cX8_restore : ByteArray := prog_10_method_59_code
def yX8_restore : MethodName := ⟨RX8, "restore", "()I"⟩
abbrev cX8_isSheet : ByteArray := prog_10_method_60_code
def yX8_isSheet : MethodName := ⟨RX8, "isSheet", "(I)Z"⟩
abbrev cX8_barred : ByteArray := prog_10_method_61_code
def yX8_barred : MethodName := ⟨RX8, "barred", "(IIII)I"⟩
abbrev cX8_cut : ByteArray := prog_10_method_62_code
def yX8_cut : MethodName := ⟨RX8, "cut", "(IJ)J"⟩
abbrev cX8_isSo : ByteArray := prog_10_method_63_code
def yX8_isSo : MethodName := ⟨RX8, "isSo", "(III)Z"⟩
abbrev cX8_failed : ByteArray := prog_10_method_64_code
def yX8_failed : MethodName := ⟨RX8, "failed", "(IIIIII)I"⟩
abbrev cX8_film : ByteArray := prog_10_method_65_code
def yX8_film : MethodName := ⟨RX8, "film", "(IIIII)I"⟩
abbrev cX8_sheet : ByteArray := prog_10_method_66_code
def yX8_sheet : MethodName := ⟨RX8, "sheet", "(III)I"⟩
abbrev cX8_drop : ByteArray := prog_10_method_67_code
def yX8_drop : MethodName := ⟨RX8, "drop", "(I)I"⟩
abbrev cX8_item : ByteArray := prog_10_method_68_code
def yX8_item : MethodName := ⟨RX8, "item", "(IIIJ)I"⟩
abbrev cX8_copy : ByteArray := prog_10_method_69_code
def yX8_copy : MethodName := ⟨RX8, "copy", "(IIIII)I"⟩
def RJ11 : String := "java/lang/Character"
def TJ11 : u_T := fun k => match k with
  | _ => ("", "", "", false)
def tyJ11 : Nat → FieldType := fun k => match k with
  | _ => .int
abbrev wsJ110 : List Cond := u_ws RJ11 TJ11 0
theorem nmJ11 : ∀ a, a < 0 → ∀ b, b < 0 → a ≠ b → (TJ11 a).2.1 ≠ (TJ11 b).2.1 := by decide +kernel
theorem tyJ11_ok : ∀ k, k < 0 → parseFieldDescriptor (TJ11 k).2.2.1 = some (tyJ11 k) := by decide +kernel
abbrev cJ11_isValidCodePoint_9a6ad : ByteArray := prog_11_method_11_code
def yJ11_isValidCodePoint_9a6ad : MethodName := ⟨RJ11, "isValidCodePoint", "(I)Z"⟩
abbrev cJ11_highSurrogate_5068e : ByteArray := prog_11_method_28_code
def yJ11_highSurrogate_5068e : MethodName := ⟨RJ11, "highSurrogate", "(I)C"⟩
abbrev cJ11_lowSurrogate_5068e : ByteArray := prog_11_method_29_code
def yJ11_lowSurrogate_5068e : MethodName := ⟨RJ11, "lowSurrogate", "(I)C"⟩
def RJ6 : String := "java/lang/Integer"
def TJ6 : u_T := fun k => match k with
  | _ => ("", "", "", false)
def tyJ6 : Nat → FieldType := fun k => match k with
  | _ => .int
abbrev wsJ60 : List Cond := u_ws RJ6 TJ6 0
theorem nmJ6 : ∀ a, a < 0 → ∀ b, b < 0 → a ≠ b → (TJ6 a).2.1 ≠ (TJ6 b).2.1 := by decide +kernel
theorem tyJ6_ok : ∀ k, k < 0 → parseFieldDescriptor (TJ6 k).2.2.1 = some (tyJ6 k) := by decide +kernel
abbrev cJ6_bitCount_0f7a4 : ByteArray := prog_12_method_49_code
def yJ6_bitCount_0f7a4 : MethodName := ⟨RJ6, "bitCount", "(I)I"⟩
def RJ9 : String := "java/lang/Math"
def TJ9 : u_T := fun k => match k with
  | _ => ("", "", "", false)
def tyJ9 : Nat → FieldType := fun k => match k with
  | _ => .int
abbrev wsJ90 : List Cond := u_ws RJ9 TJ9 0
theorem nmJ9 : ∀ a, a < 0 → ∀ b, b < 0 → a ≠ b → (TJ9 a).2.1 ≠ (TJ9 b).2.1 := by decide +kernel
theorem tyJ9_ok : ∀ k, k < 0 → parseFieldDescriptor (TJ9 k).2.2.1 = some (tyJ9 k) := by decide +kernel
abbrev cJ9_max_7cf53 : ByteArray := prog_13_method_65_code
def yJ9_max_7cf53 : MethodName := ⟨RJ9, "max", "(II)I"⟩
abbrev cJ9_min_7cf53 : ByteArray := prog_13_method_69_code
def yJ9_min_7cf53 : MethodName := ⟨RJ9, "min", "(II)I"⟩
def RJ0 : String := "java/lang/String"
def TJ0 : u_T := fun k => match k with
  | _ => ("", "", "", false)
def tyJ0 : Nat → FieldType := fun k => match k with
  | _ => .int
abbrev wsJ00 : List Cond := u_ws RJ0 TJ0 0
theorem nmJ0 : ∀ a, a < 0 → ∀ b, b < 0 → a ≠ b → (TJ0 a).2.1 ≠ (TJ0 b).2.1 := by decide +kernel
theorem tyJ0_ok : ∀ k, k < 0 → parseFieldDescriptor (TJ0 k).2.2.1 = some (tyJ0 k) := by decide +kernel
abbrev cJ0_length_8abf5 : ByteArray := prog_14_method_54_code
def yJ0_length_8abf5 : MethodName := ⟨RJ0, "length", "()I"⟩
abbrev cJ0_indexOf_0f7a4 : ByteArray := prog_14_method_79_code
def yJ0_indexOf_0f7a4 : MethodName := ⟨RJ0, "indexOf", "(I)I"⟩
abbrev cJ0_indexOf_7cf53 : ByteArray := prog_14_method_80_code
def yJ0_indexOf_7cf53 : MethodName := ⟨RJ0, "indexOf", "(II)I"⟩
abbrev cJ0_coder_7d493 : ByteArray := prog_14_method_152_code
def yJ0_coder_7d493 : MethodName := ⟨RJ0, "coder", "()B"⟩
abbrev cJ0_isLatin1_aae02 : ByteArray := prog_14_method_154_code
def yJ0_isLatin1_aae02 : MethodName := ⟨RJ0, "isLatin1", "()Z"⟩
abbrev cJ0_checkBoundsBeginEnd_23922 : ByteArray := prog_14_method_158_code
def yJ0_checkBoundsBeginEnd_23922 : MethodName := ⟨RJ0, "checkBoundsBeginEnd", "(III)V"⟩
def RJ1 : String := "java/lang/StringLatin1"
def TJ1 : u_T := fun k => match k with
  | _ => ("", "", "", false)
def tyJ1 : Nat → FieldType := fun k => match k with
  | _ => .int
abbrev wsJ10 : List Cond := u_ws RJ1 TJ1 0
theorem nmJ1 : ∀ a, a < 0 → ∀ b, b < 0 → a ≠ b → (TJ1 a).2.1 ≠ (TJ1 b).2.1 := by decide +kernel
theorem tyJ1_ok : ∀ k, k < 0 → parseFieldDescriptor (TJ1 k).2.2.1 = some (tyJ1 k) := by decide +kernel
abbrev cJ1_canEncode_9a6ad : ByteArray := prog_15_method_4_code
def yJ1_canEncode_9a6ad : MethodName := ⟨RJ1, "canEncode", "(I)Z"⟩
abbrev cJ1_indexOf_4cfef : ByteArray := prog_15_method_22_code
def yJ1_indexOf_4cfef : MethodName := ⟨RJ1, "indexOf", "([BIII)I"⟩
abbrev cJ1_indexOfChar_4cfef : ByteArray := prog_15_method_23_code
def yJ1_indexOfChar_4cfef : MethodName := ⟨RJ1, "indexOfChar", "([BIII)I"⟩
def RJ2 : String := "java/lang/StringUTF16"
def TJ2 : u_T := fun k => match k with
  | _ => ("", "", "", false)
def tyJ2 : Nat → FieldType := fun k => match k with
  | _ => .int
abbrev wsJ20 : List Cond := u_ws RJ2 TJ2 0
theorem nmJ2 : ∀ a, a < 0 → ∀ b, b < 0 → a ≠ b → (TJ2 a).2.1 ≠ (TJ2 b).2.1 := by decide +kernel
theorem tyJ2_ok : ∀ k, k < 0 → parseFieldDescriptor (TJ2 k).2.2.1 = some (tyJ2 k) := by decide +kernel
abbrev cJ2_getChar_3b067 : ByteArray := prog_16_method_5_code
def yJ2_getChar_3b067 : MethodName := ⟨RJ2, "getChar", "([BI)C"⟩
abbrev cJ2_length_9d52b : ByteArray := prog_16_method_6_code
def yJ2_length_9d52b : MethodName := ⟨RJ2, "length", "([B)I"⟩
abbrev cJ2_indexOf_4cfef : ByteArray := prog_16_method_40_code
def yJ2_indexOf_4cfef : MethodName := ⟨RJ2, "indexOf", "([BIII)I"⟩
abbrev cJ2_indexOfChar_4cfef : ByteArray := prog_16_method_47_code
def yJ2_indexOfChar_4cfef : MethodName := ⟨RJ2, "indexOfChar", "([BIII)I"⟩
abbrev cJ2_indexOfCharUnsafe_4cfef : ByteArray := prog_16_method_48_code
def yJ2_indexOfCharUnsafe_4cfef : MethodName := ⟨RJ2, "indexOfCharUnsafe", "([BIII)I"⟩
abbrev cJ2_indexOfSupplementary_4cfef : ByteArray := prog_16_method_49_code
def yJ2_indexOfSupplementary_4cfef : MethodName := ⟨RJ2, "indexOfSupplementary", "([BIII)I"⟩
abbrev cJ2_checkBoundsBeginEnd_d044e : ByteArray := prog_16_method_93_code
def yJ2_checkBoundsBeginEnd_d044e : MethodName := ⟨RJ2, "checkBoundsBeginEnd", "(II[B)V"⟩
def RJ10 : String := "java/lang/System"
def TJ10 : u_T := fun k => match k with
  | _ => ("", "", "", false)
def tyJ10 : Nat → FieldType := fun k => match k with
  | _ => .int
abbrev wsJ100 : List Cond := u_ws RJ10 TJ10 0
theorem nmJ10 : ∀ a, a < 0 → ∀ b, b < 0 → a ≠ b → (TJ10 a).2.1 ≠ (TJ10 b).2.1 := by decide +kernel
theorem tyJ10_ok : ∀ k, k < 0 → parseFieldDescriptor (TJ10 k).2.2.1 = some (tyJ10 k) := by decide +kernel
def RJ3 : String := "jdk/internal/util/Preconditions"
def TJ3 : u_T := fun k => match k with
  | _ => ("", "", "", false)
def tyJ3 : Nat → FieldType := fun k => match k with
  | _ => .int
abbrev wsJ30 : List Cond := u_ws RJ3 TJ3 0
theorem nmJ3 : ∀ a, a < 0 → ∀ b, b < 0 → a ≠ b → (TJ3 a).2.1 ≠ (TJ3 b).2.1 := by decide +kernel
theorem tyJ3_ok : ∀ k, k < 0 → parseFieldDescriptor (TJ3 k).2.2.1 = some (tyJ3 k) := by decide +kernel
abbrev cJ3_checkFromToIndex_8c36e : ByteArray := prog_18_method_12_code
def yJ3_checkFromToIndex_8c36e : MethodName := ⟨RJ3, "checkFromToIndex", "(IIILjava/util/function/BiFunction;)I"⟩
def RL : String := "BattleBenchLaw"
abbrev cL_law : ByteArray := code
def yL_law : MethodName := ⟨RL, "law", "([I)Z"⟩
abbrev vwCl : List vw_C := [(RX0, TX0, 5), (RX1, TX1, 3), (RX2, TX2, 3), (RX3, TX3, 4), (RX4, TX4, 4), (RX5, TX5, 3), (RX6, TX6, 6), (RX7, TX7, 9), (RX8, TX8, 14)]
theorem inX0 : ∀ w ∈ wsX00, w ∈ lw_tbl := by decide +kernel
theorem inX1 : ∀ w ∈ wsX10, w ∈ lw_tbl := by decide +kernel
theorem inX2 : ∀ w ∈ wsX20, w ∈ lw_tbl := by decide +kernel
theorem inX3 : ∀ w ∈ wsX30, w ∈ lw_tbl := by decide +kernel
theorem inX4 : ∀ w ∈ wsX40, w ∈ lw_tbl := by decide +kernel
theorem inX5 : ∀ w ∈ wsX50, w ∈ lw_tbl := by decide +kernel
theorem inX6 : ∀ w ∈ wsX60, w ∈ lw_tbl := by decide +kernel
theorem inX7 : ∀ w ∈ wsX70, w ∈ lw_tbl := by decide +kernel
theorem inX8 : ∀ w ∈ wsX80, w ∈ lw_tbl := by decide +kernel
