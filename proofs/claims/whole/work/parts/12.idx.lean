def bb_iix (own : String) (ix : Nat) : Prop := Cond.methodLink own ix yJ0_indexOf_0f7a4 ∈ bb_good
theorem bb_indexOf {cc : ByteArray} {nL : Nat} {ret : Option FieldType} {rm : Room} {own : String} {o : Option Value × bb_H} {pc : Nat} {L st : List Value} {h : bb_H} {ix : Nat} {x : Int32} (hs : bb_iix own ix) (hf : 6 ≤ rm.frames) (hl : 150 ≤ rm.locals) (hrest : (st.map fun v => v.category).sum ≤ 8) (hd : decode cc pc = .ok (.invokevirtual ix, 3)) (k : bb_J own cc nL ret rm o (pc + 3) L (.int (bb_kix x) :: st) h) : bb_J own cc nL ret rm o pc L (.int x :: .ref bb_qs :: st) h := by
  sorry
