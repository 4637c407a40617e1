/-- the place-th start from t on -/
def nthB (st : Nat) : Nat → Nat → Nat → Int32
  | 0, _, _ => -1
  | f + 1, m, t => if st.testBit t then (if m = 0 then nI t else nthB st f (m - 1) (t + 1)) else nthB st f m (t + 1)
set_option maxHeartbeats 4000000 in
theorem nthB_ok : ∀ st, st < 1024 → ∀ m, m < 5 → m < popc st 10 → nthB st 10 m 0 ≠ -1 := by decide +kernel
set_option maxHeartbeats 4000000 in
theorem popc_S : ∀ S, S < 11 → ∀ st, st < 1024 → st < 2 ^ S → popc st S = popc st 10 := by decide +kernel
