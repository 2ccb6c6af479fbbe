def bb_o7 : bb_H := [(.inr 7, [.null, .null, .int 0, .null, .null, .null, .null, .null, .null])]
def bb_o8 : bb_H := [(.inr 8, [.null, .null, .int 0, .null, .int 0, .null, .int 0, .null, .null, .null, .null, .null, .null, .null])]
def HX0 : bb_H := (m_X7_init 0 bb_o7).getD []
def HM0 : bb_H := (m_X8_init 0 bb_o8).getD []
set_option maxRecDepth 100000 in
theorem hx0_ok : m_X7_init 0 bb_o7 = some HX0 := by decide +kernel
set_option maxRecDepth 100000 in
theorem hm0_ok : m_X8_init 0 bb_o8 = some HM0 := by decide +kernel
theorem nw_L_7 : bb_inw RL 7 7 [.null, .null, .int 0, .null, .null, .null, .null, .null, .null] := ⟨RX7, TX7, 9, tyX7, rfl, bb_u7, tyX7_ok, by decide +kernel, by decide, rfl, fun _ => rfl⟩
theorem nw_L_10 : bb_inw RL 10 8 [.null, .null, .int 0, .null, .int 0, .null, .int 0, .null, .null, .null, .null, .null, .null, .null] := ⟨RX8, TX8, 14, tyX8, rfl, bb_u8, tyX8_ok, by decide +kernel, by decide, rfl, fun _ => rfl⟩
theorem ic_L_9 : bb_ic RL 9 yX7_init cX7_init 2 := by unfold bb_ic; decide +kernel
theorem ic_L_12 : bb_ic RL 12 yX8_init cX8_init 2 := by unfold bb_ic; decide +kernel
/-! a constructor's call in the law: the cells w1 stay -/

set_option maxHeartbeats 4000000 in
theorem bl_ctor {p : Program} {l : Launch} {e : Env} {s : State} {m : MethodId} {below : List Frame} {meth : Method} {c : Code} {b N : Nat} {xs : Nat → Int32} {D : va_G} {cA : FieldType → ClassId} {ad : Nat → Nat} {H : Heap} {locs : List Loc} {ls : Array Slot} {u v pc : Nat} {rest : List Value} {Q : State → Prop} {w1 : va_W} {ix : Nat} {y : MethodName} {cc' : ByteArray} {nL' : Nat} {rm' : Room} {h h' : bb_H}
    (C0 : lw_At p s m meth c b N xs) (hK : bb_K D cA (ad bb_qs) s) (hZ : bb_Z (ad bb_qs) (ad bb_qv) (bl_A s) s s.heap) (hKA : bb_KA s) (hs : bb_ic RL ix y cc' nL') (hlk : Cond.methodLink RL ix y ∈ bb_good) (hR : rm'.frames + 1 ≤ 12 ∧ 8 + (nL' + 11) + rm'.locals ≤ 454) (hd : decode cL_law pc = .ok (.invokespecial ix, 3)) (hrest : (rest.map fun v => v.category).sum ≤ 8) (hml : ls.size = 4) (hok : bb_OkA y cc' nL' rm' [.ref 0] h h') (hu : u + rm'.cells ≤ 600000) (hv : v + rm'.slots ≤ 7302250)
    (hP : va_P D vwCl (w1 ++ bb_ws ad cA 0 h) H) (hD : va_D (bl_A s) (w1 ++ bb_ws ad cA 0 h)) (hS : va_S (bl_A s) s.heap H locs)
    (kk : ∀ (ad' : Nat → Nat) (H1 : Heap) (locs1 : List Loc), (∀ i, (i < h.length ∨ bb_qs ≤ i) → ad' i = ad i) → va_P D vwCl (w1 ++ bb_ws ad' cA 0 h') H1 → va_D (bl_A s) (w1 ++ bb_ws ad' cA 0 h') → va_S (bl_A s) s.heap H1 locs1 → W p l e room_1 s m #[Value.ref b] below meth c H1 locs1 (u + rm'.cells) (v + rm'.slots) Q (F0 m (pc + 3) ls rest)) :
    W p l e room_1 s m #[Value.ref b] below meth c H locs u v Q (F0 m pc ls (.ref (ad 0) :: rest)) := by
  obtain ⟨-, ⟨w2, w3, w4⟩, hyn, hdd⟩ := hs
  have hg := bl_good C0
  have hF : ∀ q, va_A (bb_ws ad cA 0 h) H.size q → bl_A s q := fun q hq => by
    rcases hq with ⟨k, e, hk⟩ | hq
    · exact (bl_DR hD).2 k (q, e) hk
    · exact Nat.le_trans hS.1 hq
  have hG : GoodIn bb_good (bb_wd y cc' nL' none) := bb_goodin (bb_wd_in w4)
  have hpre : ∀ U : State, U.heap = H → s.WarmedH U.vm → bb_PcA D cA ad [.ref 0] h H.size ([Value.ref (ad 0)] : List Value).toArray U := fun U hU hW =>
    ⟨⟨rfl, by rw [hU], by rw [hU]; exact bl_PR hP, hK.warm hW, (bl_DR hD).weaken (fun _ _ _ _ => trivial), bb_Z.go hZ hW.alike (fun a h1 h2 => by rw [hU]; exact hS.2.1 a h1 h2) hF⟩, hKA.moved hW.alike⟩
  refine bl_callx (va_runI (As := []) (b := ad 0) (rest := rest) ⟨C0.1, C0.2.1, C0.2.2.2.1, C0.2.2.2.2.1, hg⟩ (hok l D cA ad H.size) (cwI 0 hg hG rfl rfl rfl (hg _ w3) (hg _ hlk) (hg _ w2) hyn hdd hR) ⟨bb_blindA, hpre⟩ rfl rfl hml rfl (by show 2 * 0 + _ ≤ 8; omega) hd ⟨hu, hv⟩) hS (fun q _ hq => hF q hq) hF (fun t H1 locs1 ht hB hk hS1 => ?_)
  obtain ⟨ad', he, hB1, hB2⟩ := hB
  rw [ht] at hB1
  obtain ⟨j1, j2⟩ := bl_joinR hP hD hF hk hB1 hB2
  exact kk ad' H1 locs1 he j1 j2 hS1
set_option maxRecDepth 100000 in
set_option maxHeartbeats 4000000 in
/-- THE LAW, from its entry, over such a relation -/
theorem whole_open {R : bb_H → bb_H → Prop} (S : bl_Sim R) (hR0 : R HX0 HM0) {p : Program} {e : Env} {s : State} {m : MethodId} {below : List Frame} {meth : Method} {c : Code} (l : Launch) {b L : Nat} {xs : Nat → Int32} (hL : L ≤ 448) (C0 : lw_At p s m meth c b L xs) : W p l e room_1 s m #[Value.ref b] below meth c s.heap [] 0 0 (lw_Z below #[Value.ref b] s) (entryFrame m ([Value.ref b] : List Value).toArray 4) := by
  obtain ⟨D, cA, qS, qV, hK, hZ, hKA⟩ := bl_begin C0
  have hg := bl_good C0
  have hA : ∀ q : Nat, s.heap.size ≤ q → bl_A s q := fun _ h => h
  have hl := lv_entry ([.ref b]) (n := 4) (Nat.le_of_ble_eq_true rfl)
  rw [lg_entry_eq]
  generalize (lg_sl ([.ref b]) ++ List.replicate (4 - (lg_sl ([.ref b])).length) Slot.unset).toArray = ls at hl ⊢
  have hl : lv_has ls 4 [(0, .ref b)] := hl
  obtain ⟨C7, T7, N7, ty7, a1, a2, a3, ⟨a4, a5, a6⟩, a7, a8, a9⟩ := nw_L_7
  cases a1
  refine va_new (ci := 7) (C := RX7) (T := TX7) (N := 9) (ws := []) (A := bl_A s) C0.1 C0.2.1 hg a2 ty7 a3 C0.2.2.2.2.1 (hg _ a4) (hg _ a5) (hg _ a6) hK.1 (fun k q h => by simp at h) ⟨fun i j p q h => by simp at h, fun k q h => by simp at h⟩ va_S.rf hA rfl a7 (Nat.le_of_ble_eq_true rfl) (Nat.le_of_ble_eq_true rfl) dL_law_0 (fun q H hP hD hS => ?_)
  refine lv_dup C0.1 C0.2.1 dL_law_3 rfl ?_
  obtain ⟨ad, had⟩ : ∃ ad : Nat → Nat, ad 0 = q ∧ ad bb_qs = qS ∧ ad bb_qv = qV := ⟨fun i => if i = 0 then q else if i = bb_qs then qS else qV, rfl, rfl, rfl⟩
  obtain ⟨d1, d2, d3⟩ := had
  have e7 : bb_ws ad cA 0 bb_o7 = [(q, .inr (7, [.null, .null, .int 0, .null, .null, .null, .null, .null, .null]))] := by rw [← d1]; rfl
  rw [← d1]
  refine bl_ctor (w1 := []) (ad := ad) (h := bb_o7) C0 (by rw [d2]; exact hK) (by rw [d2, d3]; exact hZ) hKA ic_L_9 (by decide +kernel) (by decide) dL_law_4 (Nat.le_of_ble_eq_true rfl) hl.1 (ok_X7_init hx0_ok) (Nat.le_of_ble_eq_true rfl) (Nat.le_of_ble_eq_true rfl) (by rw [List.nil_append, e7]; exact hP) (by rw [List.nil_append, e7]; exact hD) hS (fun adX H locs hx hP hD hS => ?_)
  rw [List.nil_append] at hP hD
  have x0 : adX 0 = ad 0 := hx 0 (Or.inl (by decide))
  have x1 : adX bb_qs = qS := (hx _ (Or.inr (Nat.le_refl _))).trans d2
  have x2 : adX bb_qv = qV := (hx _ (Or.inr (by show 1000000 ≤ 1000001; decide))).trans d3
  rw [← x0]
  refine lv_astore_n (lv' := [(1, .ref (adX 0)), (0, .ref b)]) C0.1 C0.2.1 dL_law_7 rfl hl (by decide) rfl (fun ls hl => ?_)
  obtain ⟨C8, T8, N8, ty8, g1, g2, g3, ⟨g4, g5, g6⟩, g7, g8, g9⟩ := nw_L_10
  cases g1
  refine va_new (ci := 8) (C := RX8) (T := TX8) (N := 14) (A := bl_A s) C0.1 C0.2.1 hg g2 ty8 g3 C0.2.2.2.2.1 (hg _ g4) (hg _ g5) (hg _ g6) hK.1 hP hD hS hA rfl g7 (Nat.le_of_ble_eq_true rfl) (Nat.le_of_ble_eq_true rfl) dL_law_8 (fun q2 H hP hD hS => ?_)
  refine lv_dup C0.1 C0.2.1 dL_law_11 rfl ?_
  obtain ⟨ae, hae⟩ : ∃ ad : Nat → Nat, ad 0 = q2 ∧ ad bb_qs = qS ∧ ad bb_qv = qV := ⟨fun i => if i = 0 then q2 else if i = bb_qs then qS else qV, rfl, rfl, rfl⟩
  obtain ⟨f1, f2, f3⟩ := hae
  have e8 : bb_ws ae cA 0 bb_o8 = [(q2, .inr (8, [.null, .null, .int 0, .null, .int 0, .null, .int 0, .null, .null, .null, .null, .null, .null, .null]))] := by rw [← f1]; rfl
  rw [← f1]
  refine bl_ctor (w1 := bb_ws adX cA 0 HX0) (ad := ae) (h := bb_o8) C0 (by rw [f2]; exact hK) (by rw [f2, f3]; exact hZ) hKA ic_L_12 (by decide +kernel) (by decide) dL_law_12 (Nat.le_of_ble_eq_true rfl) hl.1 (ok_X8_init hm0_ok) (Nat.le_of_ble_eq_true rfl) (Nat.le_of_ble_eq_true rfl) (by rw [e8]; exact hP) (by rw [e8]; exact hD) hS (fun adM H locs hm hP hD hS => ?_)
  have m0 : adM 0 = ae 0 := hm 0 (Or.inl (by decide))
  have m1 : adM bb_qs = qS := (hm _ (Or.inr (Nat.le_refl _))).trans f2
  have m2 : adM bb_qv = qV := (hm _ (Or.inr (by show 1000000 ≤ 1000001; decide))).trans f3
  rw [← m0]
  refine lv_astore_n (lv' := [(2, .ref (adM 0)), (1, .ref (adX 0)), (0, .ref b)]) C0.1 C0.2.1 dL_law_15 rfl hl (by decide) rfl (fun ls hl => ?_)
  refine lv_iconst (v := 0) C0.1 C0.2.1 dL_law_16 (by decide) ?_
  refine lv_istore_n (lv' := [(3, .int 0), (2, .ref (adM 0)), (1, .ref (adX 0)), (0, .ref b)]) C0.1 C0.2.1 dL_law_17 rfl hl (by decide) rfl (fun ls hl => ?_)
  exact bl_loop S hL (Nat.le_of_ble_eq_true rfl) (Nat.le_of_ble_eq_true rfl) (L + 1) 0 0 HX0 HM0 nI_0.symm (Nat.zero_le _) (by omega) hR0 p l e s m below meth c b D cA adX adM H locs ls C0 ⟨by rw [x1]; exact hK, by rw [x1, x2]; exact hZ, m1.trans x1.symm, m2.trans x2.symm⟩ ⟨hP, hD, hS⟩ hl
