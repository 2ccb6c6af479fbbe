/-! what the Statement gives of the start, in the judgement's words -/
theorem bl_nest_in : ∀ q ∈ bb_nests, Cond.methodLinkNest q.1 q.2.1 q.2.2.1 q.2.2.2 ∈ lw_tbl := by decide +kernel
set_option maxRecDepth 100000 in
set_option maxHeartbeats 4000000 in
theorem bl_begin {p : Program} {s : State} {m : MethodId} {meth : Method} {c : Code} {b N : Nat} {xs : Nat → Int32} (C0 : lw_At p s m meth c b N xs) : ∃ (D : va_G) (cA : FieldType → ClassId) (qS qV : Nat), bb_K D cA qS s ∧ bb_Z qS qV (bl_A s) s s.heap ∧ bb_KA s := by
  obtain ⟨hx, hb, hr, hml, hown, hts, hX, hbl, hlocks, hgv⟩ := id C0
  obtain ⟨c0, i0, k0⟩ := u_known (C := RX0) (T := TX0) (N := 5) (n := 5) hts inX0 (hts (.instantiable RX0 5) (by decide +kernel))
  obtain ⟨c1, i1, k1⟩ := u_known (C := RX1) (T := TX1) (N := 3) (n := 3) hts inX1 (hts (.instantiable RX1 3) (by decide +kernel))
  obtain ⟨c2, i2, k2⟩ := u_known (C := RX2) (T := TX2) (N := 3) (n := 3) hts inX2 (hts (.instantiable RX2 3) (by decide +kernel))
  obtain ⟨c3, i3, k3⟩ := u_known (C := RX3) (T := TX3) (N := 4) (n := 4) hts inX3 (hts (.instantiable RX3 4) (by decide +kernel))
  obtain ⟨c4, i4, k4⟩ := u_known (C := RX4) (T := TX4) (N := 4) (n := 4) hts inX4 (hts (.instantiable RX4 4) (by decide +kernel))
  obtain ⟨c5, i5, k5⟩ := u_known (C := RX5) (T := TX5) (N := 3) (n := 3) hts inX5 (hts (.instantiable RX5 3) (by decide +kernel))
  obtain ⟨c6, i6, k6⟩ := u_known (C := RX6) (T := TX6) (N := 6) (n := 6) hts inX6 (hts (.instantiable RX6 6) (by decide +kernel))
  obtain ⟨c7, i7, k7⟩ := u_known (C := RX7) (T := TX7) (N := 9) (n := 9) hts inX7 (hts (.instantiable RX7 9) (by decide +kernel))
  obtain ⟨c8, i8, k8⟩ := u_known (C := RX8) (T := TX8) (N := 14) (n := 14) hts inX8 (hts (.instantiable RX8 14) (by decide +kernel))
  obtain ⟨dC, dI, hKc⟩ : ∃ (dC : Nat → ClassId) (dI : Nat → Nat → Nat), ∀ (k : Nat) (q : vw_C), vwCl[k]? = some q → u_Kn s q.1 q.2.1 q.2.2 (dC k) (dI k) := by
    refine ⟨fun k => match k with | 0 => c0 | 1 => c1 | 2 => c2 | 3 => c3 | 4 => c4 | 5 => c5 | 6 => c6 | 7 => c7 | _ => c8, fun k => match k with | 0 => i0 | 1 => i1 | 2 => i2 | 3 => i3 | 4 => i4 | 5 => i5 | 6 => i6 | 7 => i7 | _ => i8, ?_⟩
    intro k q hq
    match k, hq with
    | 0, hq => cases hq; exact k0
    | 1, hq => cases hq; exact k1
    | 2, hq => cases hq; exact k2
    | 3, hq => cases hq; exact k3
    | 4, hq => cases hq; exact k4
    | 5, hq => cases hq; exact k5
    | 6, hq => cases hq; exact k6
    | 7, hq => cases hq; exact k7
    | 8, hq => cases hq; exact k8
    | k + 9, hq => simp [vwCl] at hq
  obtain ⟨aI, kI, mI, e1, e2, e3⟩ := Cond.arrayClass_spec (hts (.arrayClass .int) (by decide +kernel))
  obtain ⟨aC, kC, mC, e4, e5, e6⟩ := Cond.arrayClass_spec (hts (.arrayClass .char) (by decide +kernel))
  obtain ⟨aL, kL, mL, e7, e8, e9⟩ := Cond.arrayClass_spec (hts (.arrayClass .long) (by decide +kernel))
  have oB : va_AO "BattleBench$Bench" s := va_AO.of (hts (.arrayOver (.object "BattleBench$Bench")) (by decide +kernel))
  have oS : va_AO "BattleBench$Sheet" s := va_AO.of (hts (.arrayOver (.object "BattleBench$Sheet")) (by decide +kernel))
  have oA : va_AOA .int s := va_AOA.of (hts (.arrayOver (.array .int)) (by decide +kernel))
  obtain ⟨mB, aB, kB, f1, -, f3, f4, f5⟩ := Cond.arrayOver_spec oB
  obtain ⟨mS, aS, kS, g1, -, g3, g4, g5⟩ := Cond.arrayOver_spec oS
  obtain ⟨mA, aA, kA, j1, j3, j4, j5⟩ := Cond.arrayOver_specA oA
  obtain ⟨cA, hcA⟩ : ∃ cA : FieldType → ClassId, cA .int = aI ∧ cA .char = aC ∧ cA .long = aL ∧ cA (.object "BattleBench$Bench") = aB ∧ cA (.object "BattleBench$Sheet") = aS ∧ cA (.array .int) = aA :=
    ⟨fun ty => if ty = .int then aI else if ty = .char then aC else if ty = .long then aL else if ty = .object "BattleBench$Bench" then aB else if ty = .object "BattleBench$Sheet" then aS else aA, by simp⟩
  obtain ⟨q1, q2, q3, q4, q5, q6⟩ := hcA
  have hK : va_K (dC, dI) vwCl (bb_tys cA) s := by
    refine ⟨hKc, fun k q hq => ?_⟩
    match k, hq with
    | 0, hq => cases hq; rw [q1]; exact ⟨fun n z => ⟨fun k h => (by cases h), kI, e2, mI, e3⟩, e1⟩
    | 1, hq => cases hq; rw [q2]; exact ⟨fun n z => ⟨fun k h => (by cases h), kC, e5, mC, e6⟩, e4⟩
    | 2, hq => cases hq; rw [q3]; exact ⟨fun n z => ⟨fun k h => (by cases h), kL, e8, mL, e9⟩, e7⟩
    | 3, hq => cases hq; rw [q4]; exact ⟨fun n z => ⟨fun k h => (by cases h), kB, f3, mB, f4⟩, kB, mB, f3, f4, f1, f5⟩
    | 4, hq => cases hq; rw [q5]; exact ⟨fun n z => ⟨fun k h => (by cases h), kS, g3, mS, g4⟩, kS, mS, g3, g4, g1, g5⟩
    | 5, hq => cases hq; rw [q6]; exact ⟨fun n z => ⟨fun k h => (by cases h), kA, j3, mA, j4⟩, j5⟩
    | k + 6, hq => simp [bb_tys] at hq
  have hs := flat_of_before _ hgv
  have hA : ∀ a : Nat, a < s.heap.size → ¬ bl_A s a := fun a ha => Nat.not_le.mpr ha
  obtain ⟨adK, adV, hvS, hev⟩ := vk_Sof (args := #[Value.ref b]) (s := s) (N := 1) (tm := fun _ => Term.string "BattleBench$Tape" 49) (len := [5]) (byt := [[112, 104, 117, 100, 114]]) (A := bl_A s) (fun i hi => by obtain rfl : i = 0 := (by omega); decide) (fun i hi => hs (.exactly (.string "BattleBench$Tape" 49) "java/lang/String") (by decide +kernel)) (fun i hi => hs (.eq (.field (.string "BattleBench$Tape" 49) "java/lang/String" "coder" "B") (.int 0)) (by decide +kernel))
    (fun i hi => hs (.arrayOf (.field (.string "BattleBench$Tape" 49) "java/lang/String" "value" "[B") .byte) (by decide +kernel)) (fun i hi => by obtain rfl : i = 0 := (by omega); exact hs (.eq (.length (.field (.string "BattleBench$Tape" 49) "java/lang/String" "value" "[B")) (.int 5)) (by decide +kernel))
    (fun i hi j hj => by
      obtain rfl : i = 0 := (by omega)
      have hj : j < 5 := hj
      rcases (show j = 0 ∨ j = 1 ∨ j = 2 ∨ j = 3 ∨ j = 4 by omega) with rfl | rfl | rfl | rfl | rfl
      · exact hs (.eq (.elem (.field (.string "BattleBench$Tape" 49) "java/lang/String" "value" "[B") (.int 0)) (.int 112)) (by decide +kernel)
      · exact hs (.eq (.elem (.field (.string "BattleBench$Tape" 49) "java/lang/String" "value" "[B") (.int 1)) (.int 104)) (by decide +kernel)
      · exact hs (.eq (.elem (.field (.string "BattleBench$Tape" 49) "java/lang/String" "value" "[B") (.int 2)) (.int 117)) (by decide +kernel)
      · exact hs (.eq (.elem (.field (.string "BattleBench$Tape" 49) "java/lang/String" "value" "[B") (.int 3)) (.int 100)) (by decide +kernel)
      · exact hs (.eq (.elem (.field (.string "BattleBench$Tape" 49) "java/lang/String" "value" "[B") (.int 4)) (.int 114)) (by decide +kernel))
    (fun i j hi hj hij => absurd (show i = j by omega) hij) hA
  have hvk : vk_R "BattleBench$Tape" 49 "phudr" (adK 0) s := vk_R.of (A := #[Value.ref b]) (hts (.stringRef "BattleBench$Tape" 49 "phudr") (by decide +kernel)) (hev 0 (by decide))
  refine ⟨(dC, dI), cA, adK 0, adV 0, ⟨hK, fun q hq => va_Nw.of rfl (hts _ (bl_nest_in q hq)), hvk⟩, ⟨⟨fun i hi => by obtain rfl : i = 0 := (by omega); exact hvS.1 0 hi, fun i j hi hj _ => by omega⟩, ?_⟩, oB, oS, oA⟩
  exact va_Zof (hts (.laysStatic "java/lang/String" "COMPACT_STRINGS" "Z") (by decide +kernel)) (hts (.initialized "java/lang/String") (by decide +kernel)) (va_eqi (hs (.eq (.static "java/lang/String" "COMPACT_STRINGS" "Z") (.int 1)) (by decide +kernel))) hA
