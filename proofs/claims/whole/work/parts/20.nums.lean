/-! numbers: small naturals as ints -/
theorem ltL {l : Nat} (K : Int32) (k : Nat) (hK : K = nI k) (h : l < k) (hk : k < 2 ^ 31) : nI l < K := by rw [hK]; exact nI_lt h hk
theorem nltL {l : Nat} (K : Int32) (k : Nat) (hK : K = nI k) (h : k ≤ l) (hl : l < 2 ^ 31) : ¬ nI l < K := by rw [hK]; exact nI_nlt h hl
theorem leL {l : Nat} (K : Int32) (k : Nat) (hK : K = nI k) (h : k ≤ l) (hl : l < 2 ^ 31) : K ≤ nI l := by rw [hK]; exact nI_le h hl
theorem nleL {l : Nat} (K : Int32) (k : Nat) (hK : K = nI k) (h : l < k) (hk : k < 2 ^ 31) : ¬ K ≤ nI l := by rw [hK]; exact nI_ge h hk
theorem inbL {l N : Nat} (h : l < N) (hN : N < 2 ^ 31) : inb (nI l) N := by
  unfold inb
  rw [nI_toInt (by omega)]
  omega
theorem clL {l : Nat} (h : l < 2 ^ 31) : (nI l).toNatClampNeg = l := nI_clamp h
theorem nI_inj {a b : Nat} (ha : a < 2 ^ 31) (hb : b < 2 ^ 31) (h : nI a = nI b) : a = b := (nI_eq ha hb).mp h
theorem nI_nm1 {a : Nat} (ha : a < 2 ^ 31) : ¬ nI a = -1 := by
  intro h
  have := congrArg Int32.toInt h
  rw [nI_toInt ha, show (-1 : Int32).toInt = -1 from by decide] at this
  omega
theorem neL {l : Nat} (K : Int32) (k : Nat) (hK : K = nI k) (h : l ≠ k) (hl : l < 2 ^ 31) (hk : k < 2 ^ 31) : ¬ nI l = K := by rw [hK]; exact fun z => h (nI_inj hl hk z)
theorem eqL {l : Nat} (K : Int32) (k : Nat) (hK : K = nI k) (h : l = k) : nI l = K := by rw [hK, h]
theorem nI_sub {a b : Nat} (h : b ≤ a) : nI a - nI b = nI (a - b) := by
  have e : nI a = nI (a - b) + nI b := by rw [nI_add]; congr 1; omega
  rw [e, Int32.add_sub_cancel]
theorem nI_mul (a b : Nat) : nI a * nI b = nI (a * b) := (Int32.ofNat_mul a b).symm
theorem nI_div {a b : Nat} (ha : a < 2 ^ 31) (hb : b < 2 ^ 31) : nI a / nI b = nI (a / b) := by
  apply Int32.toInt_inj.mp
  have h1 : a / b < 2 ^ 31 := Nat.lt_of_le_of_lt (Nat.div_le_self a b) ha
  rw [Int32.toInt_div, nI_toInt ha, nI_toInt hb, nI_toInt h1]
  rw [show ((a : Int).tdiv (b : Int)) = ((a / b : Nat) : Int) from (Int.ofNat_tdiv a b).symm]
  generalize a / b = q at h1
  exact Int.bmod_eq_of_le (by omega) (by omega)
theorem nI_rem {a b : Nat} (ha : a < 2 ^ 31) (hb : b < 2 ^ 31) : remI (nI a) (nI b) = nI (a % b) := by
  unfold remI
  rw [nI_div ha hb, nI_mul, nI_sub (Nat.div_mul_le_self a b)]
  congr 1
  have := Nat.div_add_mod a b
  rw [Nat.mul_comm] at this
  omega
/-- an int is a natural in [lo, hi] -/
def bd (x : Int32) (lo hi : Nat) : Prop := ∃ n, lo ≤ n ∧ n ≤ hi ∧ x = nI n
theorem i_lt (a b : Int32) : a < b ↔ a.toInt < b.toInt := Int32.lt_iff_toInt_lt
theorem i_le (a b : Int32) : a ≤ b ↔ a.toInt ≤ b.toInt := Int32.le_iff_toInt_le
theorem i_eq (a b : Int32) : a = b ↔ a.toInt = b.toInt := Int32.toInt_inj.symm
theorem of_toInt {p : Int32} {n : Nat} (h : p.toInt = n) : p = nI n := by
  apply Int32.toInt_inj.mp
  have := p.toInt_lt
  rw [nI_toInt (by omega), h]
/-- an int between two literals is a natural -/
theorem nat_of {p : Int32} {hi : Nat} (h0 : 0 ≤ p) (h1 : p.toInt ≤ hi) : ∃ n, n ≤ hi ∧ p = nI n := by
  rw [i_le] at h0
  have : (0 : Int32).toInt = 0 := by decide
  exact ⟨p.toInt.toNat, by omega, of_toInt (by omega)⟩
theorem within_in {p a b : Int32} (h1 : a ≤ p) (h2 : p ≤ b) : f_X12_within p a b = some 1 := by simp [f_X12_within, h1, h2]
theorem within_out {p a b : Int32} (h : ¬ (a ≤ p ∧ p ≤ b)) : f_X12_within p a b = some 0 := by
  unfold f_X12_within
  by_cases h1 : a ≤ p
  · rw [if_pos h1, if_neg (fun h2 => h ⟨h1, h2⟩)]
  · rw [if_neg h1]
theorem within_eq (p a b : Int32) : f_X12_within p a b = some (if a ≤ p ∧ p ≤ b then 1 else 0) := by
  by_cases h : a ≤ p ∧ p ≤ b
  · rw [if_pos h]; exact within_in h.1 h.2
  · rw [if_neg h]; exact within_out h
/-- how many of the bits below n are set -/
def popc (x : Nat) : Nat → Nat
  | 0 => 0
  | n + 1 => popc x n + (if x.testBit n then 1 else 0)
