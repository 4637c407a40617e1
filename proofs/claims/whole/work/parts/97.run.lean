/-! run -/
theorem ok_run_Rel : ok_run Rel := by
  intro k σ μ hk ⟨W, H, S, T, hR0⟩ p
  have hR := hR0.mono
  have n10 : ¬ (1 : Int32) = 0 := by decide
  obtain ⟨t1, t2⟩ := isThere_eq hR
  by_cases hp : 1 ≤ p ∧ p ≤ 40
  · have wi := within_in hp.1 hp.2
    have np : ¬ (40 : Int32) < p := Int32.not_lt.mpr hp.2
    by_cases hS : 0 < S
    · rw [if_pos hS] at t1 t2
      obtain ⟨c, c1, c40, rfl⟩ := rng (lo := 1) (hi := 40) 1 40 (by decide) (by decide) hp.1 hp.2
      have go : ∀ m t σ1 μ1 v fx fm, t + m = c → m < fx → m < fm → RelP W H S (T + t) (k + 1) σ1 μ1 → μ1.1 0 0 50 = v → ∃ σ2 μ2 r, f_X11_run_L31 (nI c) fx σ1 v (nI t) = some (σ2, r) ∧ f_X12_run_L30 (nI c) fm μ1 (nI t) = some (μ2, r) ∧ RelP W H S (T + c) (k + 1) σ2 μ2 := by
        intro m
        induction m with
        | zero =>
          intro t σ1 μ1 v fx fm h1 h2 h3 hr hv
          obtain ⟨fx, rfl⟩ : ∃ j, fx = j + 1 := ⟨fx - 1, by omega⟩
          obtain ⟨fm, rfl⟩ : ∃ j, fm = j + 1 := ⟨fm - 1, by omega⟩
          have e : t = c := by omega
          subst e
          refine ⟨σ1, μ1, v, ?_, ?_, hr⟩
          · show f_X11_run_L31b (nI t) (f_X11_run_L31 (nI t) fx) σ1 v (nI t) = _
            unfold f_X11_run_L31b
            rw [if_neg (nI_nlt (Nat.le_refl _) (by omega))]
          · show f_X12_run_L30b (nI t) (f_X12_run_L30 (nI t) fm) μ1 (nI t) = _
            unfold f_X12_run_L30b
            rw [if_neg (nI_nlt (Nat.le_refl _) (by omega)), hv]
        | succ m ih =>
          intro t σ1 μ1 v fx fm h1 h2 h3 hr hv
          obtain ⟨fx, rfl⟩ : ∃ j, fx = j + 1 := ⟨fx - 1, by omega⟩
          obtain ⟨fm, rfl⟩ : ∃ j, fm = j + 1 := ⟨fm - 1, by omega⟩
          have hT0 : T ≤ 40 * k := hR0.2.1
          obtain ⟨σ2, μ2, r, g1, g2, g3, g4⟩ := cycle_both hr hS (by omega) (by omega)
          obtain ⟨σ3, μ3, r', k1, k2, k3⟩ := ih (t + 1) σ2 μ2 (v + r) fx fm (by omega) (by omega) (by omega) g4 (by rw [g3, hv])
          refine ⟨σ3, μ3, r', Eq.trans ?_ k1, Eq.trans ?_ k2, k3⟩
          · show f_X11_run_L31b (nI c) (f_X11_run_L31 (nI c) fx) σ1 v (nI t) = _
            generalize f_X11_run_L31 (nI c) fx = K
            unfold f_X11_run_L31b
            rw [if_pos (nI_lt (by omega) (by omega)), g1, Option.bind_some, nI_1]
          · show f_X12_run_L30b (nI c) (f_X12_run_L30 (nI c) fm) μ1 (nI t) = _
            generalize f_X12_run_L30 (nI c) fm = K
            unfold f_X12_run_L30b
            rw [if_pos (nI_lt (by omega) (by omega)), g2, Option.bind_some, nI_1]
      have h50 : RelP W H S (T + 0) (k + 1) σ (si μ 0 0 50 0) := hR.cg rfl rfl rfl rfl rfl MA.rf rfl rfl rfl rfl rfl rfl (fun j hj => si_j (by omega)) (fun a a1 a2 => si_k (by omega))
      obtain ⟨σ2, μ2, r, k1, k2, k3⟩ := go c 0 σ (si μ 0 0 50 0) 0 FU FU (by omega) (FU_lt (by omega)) (FU_lt (by omega)) h50 si_eq
      refine ⟨σ2, μ2, r, ?_, ?_, W, H, S, T + c, k3⟩
      · unfold f_X11_run
        rw [if_pos hp.1, if_neg np, t1, Option.bind_some, if_neg n10]
        exact k1
      · unfold f_X12_run
        rw [wi, Option.bind_some, if_neg n10, t2, Option.bind_some, if_neg n10, bnd_eq]
        exact k2
    · rw [if_neg hS] at t1 t2
      refine ⟨σ, μ, -103, ?_, ?_, W, H, S, T, hR⟩
      · unfold f_X11_run
        rw [if_pos hp.1, if_neg np, t1, Option.bind_some, if_pos rfl]
      · unfold f_X12_run
        rw [wi, Option.bind_some, if_neg n10, t2, Option.bind_some, if_pos rfl]
  · refine ⟨σ, μ, -102, ?_, ?_, W, H, S, T, hR⟩
    · unfold f_X11_run
      by_cases q : 1 ≤ p
      · rw [if_pos q, if_pos (Int32.not_le.mp (fun z => hp ⟨q, z⟩))]
      · rw [if_neg q]
    · unfold f_X12_run
      rw [within_out hp, Option.bind_some, if_pos rfl]
