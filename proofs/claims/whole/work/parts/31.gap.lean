/-! the gap of a set of starts; the starts in their order -/
def gupd (g : Nat) (o : Option Nat) (t : Nat) : Nat := match o with
  | none => g
  | some b => if g < t - b then t - b else g
def gx1 (b : Bool) (g : Nat) (o : Option Nat) (t : Nat) : Nat × Option Nat := if b then (gupd g o t, some t) else (g, o)
def gapXs (st S : Nat) (a : Nat × Option Nat) (t : Nat) : Nat × Option Nat := gx1 (st.testBit (if t < S then t else t - S)) a.1 a.2 t
def gapXn (st S : Nat) : Nat := ((List.range (2 * S)).foldl (gapXs st S) (0, none)).1
def nextM (st S t : Nat) : Nat → Nat → Nat
  | 0, x => x
  | f + 1, x => if st.testBit ((t + x) % S) then x else if x < S then nextM st S t f (x + 1) else x
def gapMs (st S : Nat) (a t : Nat) : Nat := if st.testBit t then (if a < nextM st S t 11 1 then nextM st S t 11 1 else a) else a
def gapMn (st S : Nat) : Nat := (List.range S).foldl (gapMs st S) 0
set_option maxHeartbeats 4000000 in
set_option maxRecDepth 100000 in
theorem gap_eq : ∀ S, S < 11 → ∀ st, st < 1024 → (4 ≤ S ∧ st < 2 ^ S ∧ st ≠ 0) → gapXn st S = gapMn st S ∧ 1 ≤ gapXn st S ∧ gapXn st S ≤ S := by decide +kernel
