/-! drawn numbers -/
def nL (n : Nat) : Int64 := Int64.ofNat n
theorem nL_toInt {n : Nat} (h : n < 2 ^ 63) : (nL n).toInt = n := Int64.toInt_ofNat_of_lt h
theorem nL_mul (a b : Nat) : nL a * nL b = nL (a * b) := (Int64.ofNat_mul a b).symm
theorem nL_add (a b : Nat) : nL a + nL b = nL (a + b) := (Int64.ofNat_add a b).symm
theorem nL_sub {a b : Nat} (h : b ≤ a) : nL a - nL b = nL (a - b) := by
  have e : nL a = nL (a - b) + nL b := by rw [nL_add]; congr 1; omega
  rw [e, Int64.add_sub_cancel]
theorem nL_and (a b : Nat) : nL a &&& nL b = nL (a &&& b) := by
  apply Int64.toBitVec_inj.mp
  unfold nL
  rw [Int64.toBitVec_and, Int64.toBitVec_ofNat', Int64.toBitVec_ofNat', Int64.toBitVec_ofNat', BitVec.ofNat_and]
theorem nL_div {a b : Nat} (ha : a < 2 ^ 63) (hb : b < 2 ^ 63) : nL a / nL b = nL (a / b) := by
  apply Int64.toInt_inj.mp
  have h1 : a / b < 2 ^ 63 := Nat.lt_of_le_of_lt (Nat.div_le_self a b) ha
  rw [Int64.toInt_div, nL_toInt ha, nL_toInt hb, nL_toInt h1]
  rw [show ((a : Int).tdiv (b : Int)) = ((a / b : Nat) : Int) from (Int.ofNat_tdiv a b).symm]
  generalize a / b = q at h1
  exact Int.bmod_eq_of_le (by omega) (by omega)
theorem nL_rem {a b : Nat} (ha : a < 2 ^ 63) (hb : b < 2 ^ 63) : remL (nL a) (nL b) = nL (a % b) := by
  unfold remL
  rw [nL_div ha hb, nL_mul, nL_sub (Nat.div_mul_le_self a b)]
  congr 1
  have := Nat.div_add_mod a b
  rw [Nat.mul_comm] at this
  omega
theorem nL_of {a : Nat} (h : a < 2 ^ 31) : Int32.toInt64 (nI a) = nL a := by
  apply Int64.toInt_inj.mp
  rw [Int32.toInt_toInt64, nI_toInt h, nL_toInt (by omega)]
theorem nI_ofL {a : Nat} (h : a < 2 ^ 31) : Int64.toInt32 (nL a) = nI a := by
  apply Int32.toInt_inj.mp
  rw [Int64.toInt_toInt32, nL_toInt (by omega), nI_toInt h]
  exact Int.bmod_eq_of_le (by omega) (by omega)
theorem sL_eq {σ : St} {j : Nat} {v : Int64} : (sL σ j v).2.2 j = v := if_pos rfl
def sd (s : Nat) : Nat := (1103515245 * s + 12345) % 2147483648
theorem sd_lt (s : Nat) : sd s < 2 ^ 31 := Nat.mod_lt _ (by decide)
theorem drawX {σ : St} {s q : Nat} (hs : s < 2 ^ 31) (hq : 0 < q) (hq2 : q < 100) (e : σ.1 8 0 5 = nI s) : f_X9_draw σ (nI q) = some (si σ 8 0 5 (nI (sd s)), nI (sd s / 65536 % q)) := by
  have hv : Int64.toInt32 (((1103515245 * (Int32.toInt64 (σ.1 8 0 5))) + 12345) &&& 2147483647) = nI (sd s) := by
    rw [e, nL_of hs, show (1103515245 : Int64) = nL 1103515245 from rfl, show (12345 : Int64) = nL 12345 from rfl, show (2147483647 : Int64) = nL 2147483647 from rfl, nL_mul, nL_add, nL_and]
    rw [show (2147483647 : Nat) = 2 ^ 31 - 1 from rfl, Nat.and_two_pow_sub_one_eq_mod]
    exact nI_ofL (sd_lt s)
  have h2 := sd_lt s
  have h3 : sd s / 65536 < 2 ^ 31 := Nat.lt_of_le_of_lt (Nat.div_le_self _ _) h2
  have n1 : ¬ nI q < 1 := nltL 1 1 rfl hq (by omega)
  have n0 : ¬ nI q = 0 := neL 0 0 rfl (by omega) (by omega) (by decide)
  simp only [f_X9_draw, hv, bnd, if_neg n1, chk, if_pos n0, si_eq]
  rw [show (65536 : Int32) = nI 65536 from rfl, nI_div h2 (by decide), nI_rem h3 (by omega)]
theorem drawM {μ : St} {s q : Nat} (hs : s < 2 ^ 31) (hq : 0 < q) (hq2 : q < 100) (e : μ.2.2 51 = nL s) : f_X12_drawOf μ (nI q) = some (sL μ 51 (nL (sd s)), nI (sd s / 65536 % q)) := by
  have hv : remL ((1103515245 * (μ.2.2 51)) + 12345) 2147483648 = nL (sd s) := by
    rw [e, show (1103515245 : Int64) = nL 1103515245 from rfl, show (12345 : Int64) = nL 12345 from rfl, show (2147483648 : Int64) = nL 2147483648 from rfl, nL_mul, nL_add, nL_rem (by omega) (by decide)]
    rfl
  have h2 := sd_lt s
  have h3 : sd s / 65536 < 2 ^ 31 := Nat.lt_of_le_of_lt (Nat.div_le_self _ _) h2
  have h4 : sd s / 65536 % q < 100 := Nat.lt_trans (Nat.mod_lt _ hq) hq2
  have n0 : ¬ nL q = 0 := by
    intro z
    have := congrArg Int64.toInt z
    rw [nL_toInt (by omega), show (0 : Int64).toInt = 0 from by decide] at this
    omega
  have e2 : (sL μ 51 (nL (sd s))).2.2 51 = nL (sd s) := sL_eq
  have e3 : Int64.toInt32 (remL (nL (sd s) / 65536) (nL q)) = nI (sd s / 65536 % q) := by
    rw [show (65536 : Int64) = nL 65536 from rfl, nL_div (by omega) (by decide), nL_rem (by omega) (by omega), nI_ofL (by omega)]
  simp only [f_X12_drawOf, hv, bnd, nL_of (show q < 2 ^ 31 by omega), chk, if_pos n0, e2, e3]
theorem RelP.seed {W H S T k : Nat} {σ μ : St} (h : RelP W H S T k σ μ) (v : Int32) (w : Int64) : RelP W H S T k (si σ 8 0 5 v) (sL μ 51 w) := by
  refine h.cg ?_ (si_k (by decide)) ?_ (si_k (by decide)) ?_ (fun a _ _ => si_k (by omega)) (si_k (by decide)) (si_j (by decide)) (si_k (by decide)) rfl (si_k (by decide)) (si_k (by decide)) (fun _ _ => rfl) (fun _ _ _ => rfl) <;> rw [si_k (by decide)]
theorem draw_both {σ μ : St} {s q : Nat} (hs : s < 2 ^ 31) (hq : 0 < q) (hq2 : q < 100) (e : σ.1 8 0 5 = nI s) (e2 : μ.2.2 51 = nL s) : ∃ s' v, s' < 2 ^ 31 ∧ v < q ∧ f_X9_draw σ (nI q) = some (si σ 8 0 5 (nI s'), nI v) ∧ f_X12_drawOf μ (nI q) = some (sL μ 51 (nL s'), nI v) := ⟨sd s, sd s / 65536 % q, sd_lt s, Nat.mod_lt _ hq, drawX hs hq hq2 e, drawM hs hq hq2 e2⟩
