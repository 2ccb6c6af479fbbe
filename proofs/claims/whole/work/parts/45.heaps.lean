/-! THE TWO HEAPS, whole: the class's as a list of its parts, the model's as a list of its rows -/
def rlC (r : Nat) (R : Rl) : bb_H := [rlO r R, (.inl .int, fnI 6 (nF R.2.1)), (.inl (.array .int), [.ref (r + 3), .ref (r + 4), .ref (r + 5)]), (.inl .int, fnI 6 (nF (R.2.2.1 0))), (.inl .int, fnI 6 (nF (R.2.2.1 1))), (.inl .int, fnI 6 (nF (R.2.2.1 2))), (.inl .int, fnI 6 (nF R.2.2.2))]
def bnC (b : Nat) (B : Bn) : bb_H := [bnO b B, (.inl .int, fnI 6 (nF B.1)), (.inl .int, fnI 6 (nF B.2.1))]
/-- a log: how many are known, the next place, the benches -/
abbrev Lg : Type := Nat × Nat × (Nat → Bn)
def lgO (g : Nat) (L : Lg) : bb_C := (.inr 1, [.ref (g + 1), .int (nI L.1), .int (nI L.2.1)])
def lgA (g : Nat) : bb_C := (.inl (.object "BattleBench$Bench"), [.ref (g + 2), .ref (g + 5), .ref (g + 8), .ref (g + 11), .ref (g + 14), .ref (g + 17), .ref (g + 20), .ref (g + 23)])
def lgC (g : Nat) (L : Lg) : bb_H := lgO g L :: lgA g :: (bnC (g + 2) (L.2.2 0) ++ (bnC (g + 5) (L.2.2 1) ++ (bnC (g + 8) (L.2.2 2) ++ (bnC (g + 11) (L.2.2 3) ++ (bnC (g + 14) (L.2.2 4) ++ (bnC (g + 17) (L.2.2 5) ++ (bnC (g + 20) (L.2.2 6) ++ bnC (g + 23) (L.2.2 7))))))))
abbrev St : Type := Rl × Bn × Lg
def stC (b : Nat) (s : St) : bb_H := (.inr 5, [.ref (b + 1), .ref (b + 8), .ref (b + 11)]) :: (rlC (b + 1) s.1 ++ (bnC (b + 8) s.2.1 ++ lgC (b + 11) s.2.2))
/-- the tape: letters, how many, its roll, its lives, where it is read, the fault -/
abbrev Tp : Type := (Nat → Nat) × Nat × Rl × (Nat → Nat) × Nat × Int32
def tpC (T : Tp) : bb_H := (.inr 6, [.ref 76, .int (nI T.2.1), .ref 77, .ref 84, .int (nI T.2.2.2.2.1), .int T.2.2.2.2.2]) :: (.inl .char, fnI 70 (nF T.1)) :: (rlC 77 T.2.2.1 ++ [(.inl .int, fnI 6 (nF T.2.2.2.1))])
/-- a sheet: is it there, its lane, its length, its items -/
abbrev Sh : Type := Int32 × Int32 × Nat × (Nat → Int64)
def shC (a : Nat) (X : Sh) : bb_H := [(.inr 4, [.int X.1, .int X.2.1, .int (nI X.2.2.1), .ref (a + 1)]), (.inl .long, fnL 24 X.2.2.2)]
/-- the orders: men, best, size -/
abbrev Od : Type := (Nat → Nat) × (Nat → Nat) × Nat
def odC (O : Od) : bb_H := [(.inr 2, [.ref 97, .ref 98, .int (nI O.2.2)]), (.inl .int, fnI 6 (nF O.1)), (.inl .int, fnI 6 (nF O.2.1))]
def chp (s k : St) (kf : Int32) (T : Tp) (X : Nat → Sh) (tr : Bn) (gu : Rl) (O : Od) (ch : Nat → Nat) : bb_H :=
  (.inr 7, [.ref 1, .ref 38, .int kf, .ref 75, .ref 85, .ref 86, .ref 89, .ref 96, .ref 99]) :: (stC 1 s ++ (stC 38 k ++ (tpC T ++ ((.inl (.object "BattleBench$Sheet"), [.ref 100, .ref 102, .ref 104, .ref 106]) :: (bnC 86 tr ++ (rlC 89 gu ++ (odC O ++ ((.inl .int, fnI 6 (nF ch)) :: (shC 100 (X 0) ++ (shC 102 (X 1) ++ (shC 104 (X 2) ++ shC 106 (X 3)))))))))))) 
abbrev Mx : Type := (Nat → Int32) × Int32 × (Nat → Int32) × Int32 × (Nat → Int32) × Int32 × (Nat → Int64) × (Nat → Int64) × (Nat → Int32) × (Nat → Int32)
def mh (S Le As Or : Nat → Int32) (M : Mx) : bb_H :=
  [(.inr 8, [.ref 1, .ref 2, .int M.2.1, .ref 3, .int M.2.2.2.1, .ref 4, .int M.2.2.2.2.2.1, .ref 5, .ref 6, .ref 7, .ref 8, .ref 9, .ref 10, .ref 11]), (.inl .int, fnI 161 S), (.inl .int, fnI 161 M.1), (.inl .int, fnI 70 M.2.2.1), (.inl .int, fnI 40 M.2.2.2.2.1), (.inl .long, fnL 96 M.2.2.2.2.2.2.1), (.inl .long, fnL 24 M.2.2.2.2.2.2.2.1), (.inl .int, fnI 4 M.2.2.2.2.2.2.2.2.1), (.inl .int, fnI 4 M.2.2.2.2.2.2.2.2.2), (.inl .int, fnI 6 Le), (.inl .int, fnI 40 As), (.inl .int, fnI 40 Or)]
def z0 : Nat → Nat := fun _ => 0
def rl0 : Rl := (0, z0, fun _ => z0, z0)
def bn0 : Bn := (z0, z0, 0, 0, 1)
def st0 : St := (rl0, bn0, 0, 0, fun _ => bn0)
set_option maxRecDepth 100000 in
theorem HX0_eq : HX0 = chp st0 st0 0 (z0, 0, rl0, z0, 0, 0) (fun _ => (0, 0, 0, fun _ => 0)) bn0 rl0 (z0, z0, 0) z0 := by decide +kernel
set_option maxRecDepth 100000 in
theorem HM0_eq : HM0 = mh (fun i => if i = 3 then 1 else 0) (fun _ => 0) (fun _ => 0) (fun _ => 0) (fun _ => 0, 0, fun _ => 0, 0, fun _ => 0, 0, fun _ => 0, fun _ => 0, fun _ => -1, fun _ => 0) := by decide +kernel
section CHP
variable {s k : St} {kf : Int32} {T : Tp} {X : Nat → Sh} {tr : Bn} {gu : Rl} {O : Od} {ch : Nat → Nat}
theorem c70 : bb_gR (chp s k kf T X tr gu O ch) 0 7 0 = some 1 := rfl
theorem c71 : bb_gR (chp s k kf T X tr gu O ch) 0 7 1 = some 38 := rfl
theorem c72 : bb_gI (chp s k kf T X tr gu O ch) 0 7 2 = some kf := rfl
theorem c73 : bb_gR (chp s k kf T X tr gu O ch) 0 7 3 = some 75 := rfl
theorem c74 : bb_gR (chp s k kf T X tr gu O ch) 0 7 4 = some 85 := rfl
theorem c75 : bb_gR (chp s k kf T X tr gu O ch) 0 7 5 = some 86 := rfl
theorem c76 : bb_gR (chp s k kf T X tr gu O ch) 0 7 6 = some 89 := rfl
theorem c77 : bb_gR (chp s k kf T X tr gu O ch) 0 7 7 = some 96 := rfl
theorem c78 : bb_gR (chp s k kf T X tr gu O ch) 0 7 8 = some 99 := rfl
theorem c7r {α : Type} {x : Option α} : bb_rcv (chp s k kf T X tr gu O ch) 0 7 x = x := rfl
theorem c10 : bb_gR (chp s k kf T X tr gu O ch) 1 5 0 = some 2 := rfl
theorem c11 : bb_gR (chp s k kf T X tr gu O ch) 1 5 1 = some 9 := rfl
theorem c12 : bb_gR (chp s k kf T X tr gu O ch) 1 5 2 = some 12 := rfl
theorem c1r {α : Type} {x : Option α} : bb_rcv (chp s k kf T X tr gu O ch) 1 5 x = x := rfl
theorem c380 : bb_gR (chp s k kf T X tr gu O ch) 38 5 0 = some 39 := rfl
theorem c381 : bb_gR (chp s k kf T X tr gu O ch) 38 5 1 = some 46 := rfl
theorem c382 : bb_gR (chp s k kf T X tr gu O ch) 38 5 2 = some 49 := rfl
theorem c38r {α : Type} {x : Option α} : bb_rcv (chp s k kf T X tr gu O ch) 38 5 x = x := rfl
theorem cB9 : bnAt (chp s k kf T X tr gu O ch) 9 s.2.1 := ⟨rfl, rfl, rfl⟩
theorem cB46 : bnAt (chp s k kf T X tr gu O ch) 46 k.2.1 := ⟨rfl, rfl, rfl⟩
theorem cB86 : bnAt (chp s k kf T X tr gu O ch) 86 tr := ⟨rfl, rfl, rfl⟩
theorem cR2 : rlAt (chp s k kf T X tr gu O ch) 2 s.1 := ⟨rfl, rfl, rfl, rfl, rfl, rfl, rfl⟩
theorem cR39 : rlAt (chp s k kf T X tr gu O ch) 39 k.1 := ⟨rfl, rfl, rfl, rfl, rfl, rfl, rfl⟩
theorem cR77 : rlAt (chp s k kf T X tr gu O ch) 77 T.2.2.1 := ⟨rfl, rfl, rfl, rfl, rfl, rfl, rfl⟩
theorem cR89 : rlAt (chp s k kf T X tr gu O ch) 89 gu := ⟨rfl, rfl, rfl, rfl, rfl, rfl, rfl⟩
theorem sB9 (B : Bn) : bnSet (chp s k kf T X tr gu O ch) 9 B = chp (s.1, B, s.2.2) k kf T X tr gu O ch := rfl
theorem sB46 (B : Bn) : bnSet (chp s k kf T X tr gu O ch) 46 B = chp s (k.1, B, k.2.2) kf T X tr gu O ch := rfl
theorem sB86 (B : Bn) : bnSet (chp s k kf T X tr gu O ch) 86 B = chp s k kf T X B gu O ch := rfl
end CHP
