/-- the first run, on both sides -/
theorem burst_both {μ : St} {S n fr : Nat} (hS : 4 ≤ S ∧ S ≤ 10) (eS : μ.1 0 0 2 = nI S) (hn1 : 1 ≤ n) (hn : n ≤ 4) : (f_X7_firstRun (nI fr) (nI n) (nI S) = some 0 ∧ f_X12_burstStarts μ (nI fr) (nI n) = some (-1)) ∨ ∃ v, v < S ∧ f_X7_firstRun (nI fr) (nI n) (nI S) = some (nI (bu S n v)) ∧ f_X12_burstStarts μ (nI fr) (nI n) = some (nI (bu S n v)) ∧ nI (bu S n v) &&& nI fr = nI (bu S n v) := by
  have go : ∀ m v fx fm, v + m = S → m < fx → m < fm → (f_X7_firstRun_L2 (nI fr) (nI n) (nI S) fx (nI v) = some 0 ∧ f_X12_burstStarts_L2 μ (nI fr) (nI n) fm (nI v) = some (-1)) ∨ ∃ u, u < S ∧ f_X7_firstRun_L2 (nI fr) (nI n) (nI S) fx (nI v) = some (nI (bu S n u)) ∧ f_X12_burstStarts_L2 μ (nI fr) (nI n) fm (nI v) = some (nI (bu S n u)) ∧ nI (bu S n u) &&& nI fr = nI (bu S n u) := by
    intro m
    induction m with
    | zero =>
      intro v fx fm h1 h2 h3
      obtain ⟨fx, rfl⟩ : ∃ j, fx = j + 1 := ⟨fx - 1, by omega⟩
      obtain ⟨fm, rfl⟩ : ∃ j, fm = j + 1 := ⟨fm - 1, by omega⟩
      have e : v = S := by omega
      subst e
      left
      constructor
      · show f_X7_firstRun_L2b (nI fr) (nI n) (nI v) (f_X7_firstRun_L2 (nI fr) (nI n) (nI v) fx) (nI v) = _
        unfold f_X7_firstRun_L2b
        rw [if_neg (nI_nlt (Nat.le_refl _) (by omega))]
      · show f_X12_burstStarts_L2b μ (nI fr) (nI n) (f_X12_burstStarts_L2 μ (nI fr) (nI n) fm) (nI v) = _
        unfold f_X12_burstStarts_L2b
        rw [eS, if_neg (nI_nlt (Nat.le_refl _) (by omega))]
    | succ m ih =>
      intro v fx fm h1 h2 h3
      obtain ⟨fx, rfl⟩ : ∃ j, fx = j + 1 := ⟨fx - 1, by omega⟩
      obtain ⟨fm, rfl⟩ : ∃ j, fm = j + 1 := ⟨fm - 1, by omega⟩
      have hv : v < S := by omega
      have ex : f_X7_firstRun_L2 (nI fr) (nI n) (nI S) (fx + 1) (nI v) = if nI (bu S n v) &&& nI fr = nI (bu S n v) then some (nI (bu S n v)) else f_X7_firstRun_L2 (nI fr) (nI n) (nI S) fx (nI (v + 1)) := by
        show f_X7_firstRun_L2b (nI fr) (nI n) (nI S) (f_X7_firstRun_L2 (nI fr) (nI n) (nI S) fx) (nI v) = _
        unfold f_X7_firstRun_L2b
        rw [if_pos (nI_lt hv (by omega)), buX hS hn hv, Option.bind_some, nI_1]
      have em : f_X12_burstStarts_L2 μ (nI fr) (nI n) (fm + 1) (nI v) = if nI (bu S n v) &&& nI fr = nI (bu S n v) then some (nI (bu S n v)) else f_X12_burstStarts_L2 μ (nI fr) (nI n) fm (nI (v + 1)) := by
        show f_X12_burstStarts_L2b μ (nI fr) (nI n) (f_X12_burstStarts_L2 μ (nI fr) (nI n) fm) (nI v) = _
        unfold f_X12_burstStarts_L2b
        rw [eS, if_pos (nI_lt hv (by omega))]
        exact buM hS eS hn hv n 0 FU (by omega) (FU_lt (by omega))
      rw [ex, em]
      by_cases q : nI (bu S n v) &&& nI fr = nI (bu S n v)
      · rw [if_pos q, if_pos q]
        exact Or.inr ⟨v, hv, rfl, rfl, q⟩
      · rw [if_neg q, if_neg q]
        exact ih (v + 1) fx fm (by omega) (by omega) (by omega)
  exact go S 0 FU FU (by omega) (FU_lt (by omega)) (FU_lt (by omega))
