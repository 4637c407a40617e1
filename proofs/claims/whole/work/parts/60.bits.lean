/-! sets of starts: how many, which comes ahead -/
def nb (x : Nat) : Nat := popc x 10
set_option maxHeartbeats 4000000 in
set_option maxRecDepth 100000 in
theorem bitc_eq : ∀ x, x < 1024 → f_J6_bitCount_0f7a4 (nI x) = some (nI (nb x)) := by decide +kernel
def lo (x : Nat) : Nat := ((List.range 10).find? (fun i => x.testBit i)).getD 0
set_option maxHeartbeats 4000000 in
set_option maxRecDepth 100000 in
theorem lo_eq : ∀ x, x < 1024 → x = 0 ∨ (nI x &&& -(nI x) = nI (2 ^ lo x) ∧ lo x < 10 ∧ x.testBit (lo x) = true) := by decide +kernel
theorem lo_least : ∀ x, x < 1024 → ∀ j, j < 10 → lo x ≤ j ∨ x.testBit j = false := by decide +kernel
set_option maxHeartbeats 4000000 in
theorem bit_and : ∀ a, a < 1024 → ∀ i, i < 10 → decide (nI a &&& nI (2 ^ i) = 0) = !(a.testBit i) := by decide +kernel
