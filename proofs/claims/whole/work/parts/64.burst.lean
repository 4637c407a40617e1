/-! a burst of starts -/
def bu (S n v : Nat) : Nat := (List.range n).foldl (fun x i => x ||| 2 ^ ((v + i) % S)) 0
set_option maxHeartbeats 4000000 in
set_option maxRecDepth 100000 in
theorem bu_step : ∀ S, S < 11 → ∀ n, n < 5 → ∀ v, v < 10 → 4 ≤ S ∧ v < S → nI (bu S n v) ||| (1 <<< (nI ((v + n) % S) &&& 31)) = nI (bu S (n + 1) v) ∧ bu S n v < 1024 := by decide +kernel
set_option maxHeartbeats 4000000 in
set_option maxRecDepth 100000 in
theorem bu_nb : ∀ S, S < 11 → ∀ n, n < 5 → ∀ v, v < 10 → 4 ≤ S ∧ v < S → nb (bu S n v) = n ∧ bu S n v < 2 ^ S := by decide +kernel
