theorem shl_S : ∀ s, s < 11 → (1 : Int32) <<< (nI s &&& 31) = nI (2 ^ s) := by decide
theorem spread_loop {μ : St} {S fr n : Nat} (hS : 4 ≤ S ∧ S ≤ 10) (eS : μ.1 0 0 2 = nI S) (hfr : fr < 2 ^ S) (hn : n < 100) : ∀ m v fx fm o, v + m = 2 ^ S → 1 ≤ v → okS fr n S v o → m < fm → ∃ o', okS fr n S (2 ^ S) o' ∧ (fr < v → o' = o) ∧ f_X12_spreadStarts_L9 μ (nI fr) (nI n) fm (spM o) (sgM o) (nI v) = some (spM o') ∧ (v ≤ fr + 1 → fr + 1 - v < fx → f_X7_evenest_L10 (nI fr) (nI n) (nI S) fx (spX o) (sgX S o) (nI v) = some (spX o')) := by
  have p2 : 2 ^ S ≤ 1024 := Nat.pow_le_pow_right (n := 2) (by decide) hS.2
  have xend : ∀ v fx o, v = fr + 1 → 0 < fx → f_X7_evenest_L10 (nI fr) (nI n) (nI S) fx (spX o) (sgX S o) (nI v) = some (spX o) := by
    intro v fx o hv hf
    obtain ⟨fx, rfl⟩ : ∃ j, fx = j + 1 := ⟨fx - 1, by omega⟩
    show f_X7_evenest_L10b (nI fr) (nI n) (nI S) (f_X7_evenest_L10 (nI fr) (nI n) (nI S) fx) (spX o) (sgX S o) (nI v) = _
    unfold f_X7_evenest_L10b
    rw [if_neg (nI_ge (show fr < v by omega) (by omega))]
  intro m
  induction m with
  | zero =>
    intro v fx fm o h1 h2 ho h3
    obtain ⟨fm, rfl⟩ : ∃ j, fm = j + 1 := ⟨fm - 1, by omega⟩
    have e : v = 2 ^ S := by omega
    refine ⟨o, by rw [← e]; exact ho, fun _ => rfl, ?_, fun h4 h5 => xend v fx o (by omega) (by omega)⟩
    show f_X12_spreadStarts_L9b μ (nI fr) (nI n) (f_X12_spreadStarts_L9 μ (nI fr) (nI n) fm) (spM o) (sgM o) (nI v) = _
    unfold f_X12_spreadStarts_L9b
    rw [eS, shl_S S (by omega), if_neg (nI_nlt (by omega) (by omega))]
  | succ m ih =>
    intro v fx fm o h1 h2 ho h3
    obtain ⟨fm, rfl⟩ : ∃ j, fm = j + 1 := ⟨fm - 1, by omega⟩
    obtain ⟨o1, k1, k2, k3, k4⟩ := spread_step (μ := μ) (n := n) hS eS hfr hn h2 (show v < 2 ^ S by omega) ho
    obtain ⟨o', q1, q2, q3, q4⟩ := ih (v + 1) (fx - 1) fm o1 (by omega) (by omega) k1 (by omega)
    refine ⟨o', q1, fun z => (q2 (by omega)).trans (k2 z), (k4 _).trans q3, fun h4 h5 => ?_⟩
    by_cases q : v ≤ fr
    · obtain ⟨fx, rfl⟩ : ∃ j, fx = j + 1 := ⟨fx - 1, by omega⟩
      exact (k3 _ q).trans (q4 (by omega) (by omega))
    · rw [xend v fx o (by omega) (by omega), q2 (by omega), k2 (by omega)]
theorem spread_both {μ : St} {S fr n : Nat} (hS : 4 ≤ S ∧ S ≤ 10) (eS : μ.1 0 0 2 = nI S) (hfr : fr < 2 ^ S) (hn : n < 100) : ∃ o, okS fr n S (2 ^ S) o ∧ f_X7_evenest (nI fr) (nI n) (nI S) = some (spX o) ∧ f_X12_spreadStarts μ (nI fr) (nI n) = some (spM o) := by
  have p2 : 2 ^ S ≤ 1024 := Nat.pow_le_pow_right (n := 2) (by decide) hS.2
  have p1 : 1 ≤ 2 ^ S := Nat.one_le_two_pow
  obtain ⟨o, q1, -, q3, q4⟩ := spread_loop (μ := μ) (n := n) hS eS hfr hn (2 ^ S - 1) 1 FU FU none (by omega) (Nat.le_refl 1) (fun p hp => by cases hp) (FU_lt (by omega))
  refine ⟨o, q1, ?_, q3⟩
  have := q4 (by omega) (FU_lt (by omega))
  unfold f_X7_evenest
  rw [show nI S + 1 = nI (S + 1) from nI_1 S]
  exact this
