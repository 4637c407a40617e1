theorem buX {S n v : Nat} (hS : 4 ≤ S ∧ S ≤ 10) (hn : n ≤ 4) (hv : v < S) : f_X7_burstFrom (nI v) (nI n) (nI S) = some (nI (bu S n v)) := by
  have go : ∀ m t fu, t + m = n → m < fu → f_X7_burstFrom_L5 (nI v) (nI n) (nI S) fu (nI (bu S t v)) (nI (v + t)) = some (nI (bu S n v)) := by
    intro m
    induction m with
    | zero =>
      intro t fu h1 h2
      obtain ⟨fu, rfl⟩ : ∃ j, fu = j + 1 := ⟨fu - 1, by omega⟩
      have e : t = n := by omega
      subst e
      show f_X7_burstFrom_L5b (nI v) (nI t) (nI S) (f_X7_burstFrom_L5 (nI v) (nI t) (nI S) fu) (nI (bu S t v)) (nI (v + t)) = _
      unfold f_X7_burstFrom_L5b
      rw [nI_add, if_neg (nI_nlt (Nat.le_refl _) (by omega))]
    | succ m ih =>
      intro t fu h1 h2
      obtain ⟨fu, rfl⟩ : ∃ j, fu = j + 1 := ⟨fu - 1, by omega⟩
      show f_X7_burstFrom_L5b (nI v) (nI n) (nI S) (f_X7_burstFrom_L5 (nI v) (nI n) (nI S) fu) (nI (bu S t v)) (nI (v + t)) = _
      have st := (bu_step S (by omega) t (by omega) v (by omega) ⟨hS.1, hv⟩).1
      unfold f_X7_burstFrom_L5b
      rw [nI_add, if_pos (nI_lt (by omega) (by omega)), nI_1]
      by_cases q : v + t < S
      · rw [Nat.mod_eq_of_lt q] at st
        rw [if_pos (nI_lt q (by omega)), bnd_eq, st]
        exact ih (t + 1) fu (by omega) (by omega)
      · rw [Nat.mod_eq_sub_mod (by omega), Nat.mod_eq_of_lt (show v + t - S < S by omega)] at st
        rw [if_neg (nI_nlt (by omega) (by omega)), bnd_eq, nI_sub (show S ≤ v + t by omega), st]
        exact ih (t + 1) fu (by omega) (by omega)
  exact go n 0 FU (by omega) (FU_lt (by omega))
theorem buM {μ : St} {S n v fr : Nat} {K : Int32 → Option Int32} (hS : 4 ≤ S ∧ S ≤ 10) (eS : μ.1 0 0 2 = nI S) (hn : n ≤ 4) (hv : v < S) : ∀ m t fu, t + m = n → m < fu → f_X12_burstStarts_L16 K μ (nI fr) (nI n) (nI v) fu (nI (bu S t v)) (nI t) = if nI (bu S n v) &&& nI fr = nI (bu S n v) then some (nI (bu S n v)) else K (nI (v + 1)) := by
  have n0 : ¬ nI S = 0 := neL 0 0 rfl (by omega) (by omega) (by decide)
  intro m
  induction m with
  | zero =>
    intro t fu h1 h2
    obtain ⟨fu, rfl⟩ : ∃ j, fu = j + 1 := ⟨fu - 1, by omega⟩
    have e : t = n := by omega
    subst e
    show f_X12_burstStarts_L16b K μ (nI fr) (nI t) (nI v) (f_X12_burstStarts_L16 K μ (nI fr) (nI t) (nI v) fu) (nI (bu S t v)) (nI t) = _
    unfold f_X12_burstStarts_L16b
    rw [if_neg (nI_nlt (Nat.le_refl _) (by omega)), nI_1]
  | succ m ih =>
    intro t fu h1 h2
    obtain ⟨fu, rfl⟩ : ∃ j, fu = j + 1 := ⟨fu - 1, by omega⟩
    show f_X12_burstStarts_L16b K μ (nI fr) (nI n) (nI v) (f_X12_burstStarts_L16 K μ (nI fr) (nI n) (nI v) fu) (nI (bu S t v)) (nI t) = _
    have st := (bu_step S (by omega) t (by omega) v (by omega) ⟨hS.1, hv⟩).1
    unfold f_X12_burstStarts_L16b chk
    rw [if_pos (nI_lt (by omega) (by omega)), eS, if_pos n0, bnd_eq, nI_add, nI_rem (by omega) (by omega), st, nI_1]
    exact ih (t + 1) fu (by omega) (by omega)
