theorem stormX {σ σ4 σ7 σ9 σ11 : St} {v1 v3 v4 q r3 r6 r8 z b : Int32} {K : St → Int32 → Option (St × Int32)} (l1 : v4 < v1) (l2 : σ.1 8 0 0 < 12) (h1 : f_X4_routers σ 1 = some q) (h2 : f_X9_draw σ q = some (σ4, r3)) (h3 : f_X4_routers σ4 1 = some q) (h4 : f_X9_draw σ4 q = some (σ7, r6)) (h5 : f_X9_draw σ7 2 = some (σ9, r8)) (hz : z = if r8 = 1 then 1 else 0) (h6 : f_X9_add σ9 r3 r6 z = some (σ11, b)) : f_X9_addDrawn_L13b v1 v3 K σ v4 = K σ11 (v4 + 1) := by
  unfold f_X9_addDrawn_L13b
  rw [if_pos l1, if_pos l2, h1, Option.bind_some, h2, Option.bind_some]
  dsimp only
  rw [h3, Option.bind_some, h4, Option.bind_some]
  dsimp only
  rw [h5, Option.bind_some]
  dsimp only
  by_cases y : r8 = 1
  · rw [if_pos y] at hz ⊢
    rw [hz] at h6
    rw [h6, Option.bind_some]
  · rw [if_neg y] at hz ⊢
    rw [hz] at h6
    rw [h6, Option.bind_some]
theorem stormM {σ σ4 σ7 σ9 σ11 : St} {v1 v4 q r3 r6 r8 z : Int32} {K : St → Int32 → Option (St × Int32)} (l1 : v4 < v1) (l2 : σ.1 0 0 30 < 12) (h1 : f_X12_routers σ = some q) (h2 : f_X12_drawOf σ q = some (σ4, r3)) (h3 : f_X12_routers σ4 = some q) (h4 : f_X12_drawOf σ4 q = some (σ7, r6)) (h5 : f_X12_drawOf σ7 2 = some (σ9, r8)) (hz : z = if r8 = 1 then 1 else 0) (h6 : f_X12_comes σ9 r3 r6 z = some σ11) : f_X12_storm_L35b v1 K σ v4 = K σ11 (v4 + 1) := by
  unfold f_X12_storm_L35b
  rw [if_pos l1, if_pos l2, h1, Option.bind_some, h2, Option.bind_some]
  dsimp only
  rw [h3, Option.bind_some, h4, Option.bind_some]
  dsimp only
  rw [h5, Option.bind_some]
  dsimp only
  by_cases y : r8 = 1
  · rw [if_pos y] at hz ⊢
    rw [hz] at h6
    rw [h6, Option.bind_some]
  · rw [if_neg y] at hz ⊢
    rw [hz] at h6
    rw [h6, Option.bind_some]
theorem storm_loop {W H S T k P n0 : Nat} (hP : P ≤ 12) : ∀ m t fu s (σ μ : St), t + m = P → m < fu → RelP W H S T k σ μ → 0 < S → σ.1 8 0 0 = nI (n0 + t) → n0 + t ≤ 12 → s < 2 ^ 31 → σ.1 8 0 5 = nI s → μ.2.2 51 = nL s →
    ∃ σ2 μ2 r, f_X9_addDrawn_L13 (nI P) (nI n0) fu σ (nI t) = some (σ2, r) ∧ f_X12_storm_L35 (nI P) fu μ (nI t) = some (μ2, r) ∧ RelP W H S T k σ2 μ2 := by
  intro m
  induction m with
  | zero =>
    intro t fu s σ μ h1 h2 hR hS en hn hs e1 e2
    obtain ⟨fu, rfl⟩ : ∃ j, fu = j + 1 := ⟨fu - 1, by omega⟩
    refine ⟨σ, μ, nI t, ?_, ?_, hR⟩
    · show f_X9_addDrawn_L13b (nI P) (nI n0) (f_X9_addDrawn_L13 (nI P) (nI n0) fu) σ (nI t) = _
      simp only [f_X9_addDrawn_L13b, if_neg (nI_nlt (show P ≤ t by omega) (show t < 2 ^ 31 by omega)), en, nI_sub (show n0 ≤ n0 + t by omega), Nat.add_sub_cancel_left]
    · show f_X12_storm_L35b (nI P) (f_X12_storm_L35 (nI P) fu) μ (nI t) = _
      simp only [f_X12_storm_L35b, if_neg (nI_nlt (show P ≤ t by omega) (show t < 2 ^ 31 by omega))]
  | succ m ih =>
    intro t fu s σ μ h1 h2 hR hS en hn hs e1 e2
    obtain ⟨fu, rfl⟩ : ∃ j, fu = j + 1 := ⟨fu - 1, by omega⟩
    obtain ⟨n', hn', en', em, -⟩ := hR.2.2.2.2.2.2.2.1
    have : n' = n0 + t := nI_inj (by omega) (by omega) (en'.symm.trans en)
    subst this
    have hlt := nI_lt (show t < P by omega) (show P < 2 ^ 31 by omega)
    by_cases q : n0 + t = 12
    · have q2 : ¬ nI (n0 + t) < 12 := nltL 12 12 rfl (by omega) (by omega)
      refine ⟨σ, μ, nI t, ?_, ?_, hR⟩
      · show f_X9_addDrawn_L13b (nI P) (nI n0) (f_X9_addDrawn_L13 (nI P) (nI n0) fu) σ (nI t) = _
        simp only [f_X9_addDrawn_L13b, if_pos hlt, en, if_neg q2, nI_sub (show n0 ≤ n0 + t by omega), Nat.add_sub_cancel_left]
      · show f_X12_storm_L35b (nI P) (f_X12_storm_L35 (nI P) fu) μ (nI t) = _
        simp only [f_X12_storm_L35b, if_pos hlt, em, if_neg q2]
    · have q2 : nI (n0 + t) < 12 := ltL 12 12 rfl (by omega) (by decide)
      have hWH : 0 < W * H := by
        have hc := chip_iff hR.1
        exact Nat.mul_pos (hc.1.mpr hS) (hc.2.mpr hS)
      have h9 := hR.1.WH.2.2
      obtain ⟨s1, v1, ls1, lv1, dx1, dm1⟩ := draw_both hs hWH (show W * H < 100 by omega) e1 e2
      have R1 := hR.seed (nI s1) (nL s1)
      obtain ⟨s2, v2, ls2, lv2, dx2, dm2⟩ := draw_both ls1 hWH (show W * H < 100 by omega) (si_eq (σ := σ) (k := 8) (i := 0) (j := 5)) (sL_eq (σ := μ) (j := 51))
      have R2 := R1.seed (nI s2) (nL s2)
      obtain ⟨s3, v3, ls3, lv3, dx3, dm3⟩ := draw_both ls2 (show 0 < 2 by decide) (show 2 < 100 by decide) (si_eq (σ := si σ 8 0 5 (nI s1)) (k := 8) (i := 0) (j := 5)) (sL_eq (σ := sL μ 51 (nL s1)) (j := 51))
      have R3 := R2.seed (nI s3) (nL s3)
      have ex3 : (si (si (si σ 8 0 5 (nI s1)) 8 0 5 (nI s2)) 8 0 5 (nI s3)).1 8 0 0 = nI (n0 + t) := by rw [si_j (by decide), si_j (by decide), si_j (by decide)]; exact en
      have rx0 := routersX_eq hR.2.2.2.1
      have rm0 := routers_eq hR.2.2.2.1
      have rx1 := routersX_eq R1.2.2.2.1
      have rm1 := routers_eq R1.2.2.2.1
      have n2 : nI 2 = 2 := rfl
      rw [n2] at dx3 dm3
      have fin : ∀ z : Int32, isZ z → ∃ σ' μ' σ2 μ2 r, f_X9_add (si (si (si σ 8 0 5 (nI s1)) 8 0 5 (nI s2)) 8 0 5 (nI s3)) (nI v1) (nI v2) z = some (σ', 1) ∧ f_X12_comes (sL (sL (sL μ 51 (nL s1)) 51 (nL s2)) 51 (nL s3)) (nI v1) (nI v2) z = some μ' ∧ f_X9_addDrawn_L13 (nI P) (nI n0) fu σ' (nI (t + 1)) = some (σ2, r) ∧ f_X12_storm_L35 (nI P) fu μ' (nI (t + 1)) = some (μ2, r) ∧ RelP W H S T k σ2 μ2 := by
        intro z hz
        obtain ⟨σ', μ', a1, a2, a3, a4, a5, a6, a6b, a7, a8, -⟩ := R3.comes lv1 lv2 hz (show n0 + t < 12 by omega) ex3
        obtain ⟨σ2, μ2, r, b1, b2, b3⟩ := ih (t + 1) fu s3 σ' μ' (by omega) (by omega) a3 hS a4 (by omega) ls3 ((a6b 5 (by decide)).trans si_eq) (by rw [a8]; exact sL_eq)
        exact ⟨σ', μ', σ2, μ2, r, a1, a2, b1, b2, b3⟩
      have hz : isZ (if nI v3 = 1 then 1 else 0) := by
        by_cases y : nI v3 = 1
        · rw [if_pos y]; exact Or.inr rfl
        · rw [if_neg y]; exact Or.inl rfl
      obtain ⟨σ', μ', σ2, μ2, r, a1, a2, b1, b2, b3⟩ := fin _ hz
      exact ⟨σ2, μ2, r, (stormX hlt (by rw [en]; exact q2) rx0 dx1 rx1 dx2 dx3 rfl a1).trans ((congrArg _ (nI_1 t)).trans b1), (stormM hlt (by rw [em]; exact q2) rm0 dm1 rm1 dm2 dm3 rfl a2).trans ((congrArg _ (nI_1 t)).trans b2), b3⟩
theorem ok_storm_Rel : ok_storm Rel := by
  intro k σ μ hk ⟨W, H, S, T, hR0⟩ p1 p2
  have hR := hR0.mono
  have n10 : ¬ (1 : Int32) = 0 := by decide
  obtain ⟨t1, t2⟩ := isThere_eq hR
  by_cases hS : 0 < S
  · rw [if_pos hS] at t1 t2
    by_cases h1 : 1 ≤ p1 ∧ p1 ≤ 12
    · by_cases h2 : p2 < 0
      · refine ⟨σ, μ, -102, ?_, ?_, W, H, S, T, hR⟩
        · simp only [f_X11_storm, t1, Option.bind_some, if_neg n10, if_pos h1.1, if_pos h1.2, if_pos h2]
        · simp only [f_X12_storm, t2, Option.bind_some, if_neg n10, within_in h1.1 h1.2, if_pos h2]
      · have l1 := h1.1
        have l2 := h1.2
        rw [i_le, show (1 : Int32).toInt = 1 from by decide] at l1
        rw [i_le, show (12 : Int32).toInt = 12 from by decide] at l2
        obtain ⟨P, hP, rfl⟩ := nat_of (p := p1) (hi := 12) (by rw [i_le, show (0 : Int32).toInt = 0 from by decide]; omega) (by omega)
        obtain ⟨s, hs, rfl⟩ : ∃ s, s < 2 ^ 31 ∧ p2 = nI s := by
          rw [i_lt, show (0 : Int32).toInt = 0 from by decide] at h2
          have := p2.toInt_lt
          exact ⟨p2.toInt.toNat, by omega, of_toInt (by omega)⟩
        obtain ⟨n, hn, en, em, -⟩ := hR.2.2.2.2.2.2.2.1
        have en2 : (si σ 8 0 5 (nI s)).1 8 0 0 = nI n := by rw [si_j (by decide)]; exact en
        obtain ⟨σ2, μ2, r, b1, b2, b3⟩ := storm_loop (n0 := n) hP P 0 FU s (si σ 8 0 5 (nI s)) (sL μ 51 (nL s)) (by omega) (FU_lt (by omega)) (hR.seed _ _) hS (by rw [Nat.add_zero]; exact en2) (by omega) hs si_eq sL_eq
        refine ⟨σ2, μ2, r, ?_, ?_, W, H, S, T, b3⟩
        · simp only [f_X11_storm, t1, Option.bind_some, if_neg n10, if_pos h1.1, if_pos h1.2, if_neg h2, f_X9_addDrawn, bnd, en2]
          have b1' : f_X9_addDrawn_L13 (nI P) (nI n) FU (si σ 8 0 5 (nI s)) 0 = some (σ2, r) := b1
          rw [b1']
          rfl
        · simp only [f_X12_storm, t2, Option.bind_some, if_neg n10, within_in h1.1 h1.2, if_neg h2, bnd, nL_of hs]
          exact b2
    · refine ⟨σ, μ, -102, ?_, ?_, W, H, S, T, hR⟩
      · simp only [f_X11_storm, t1, Option.bind_some, if_neg n10]
        by_cases z : 1 ≤ p1
        · rw [if_pos z, if_neg (fun y => h1 ⟨z, y⟩)]
        · rw [if_neg z]
      · simp only [f_X12_storm, t2, Option.bind_some, if_neg n10, within_out h1]; rfl
  · rw [if_neg hS] at t1 t2
    refine ⟨σ, μ, -103, ?_, ?_, W, H, S, T, hR⟩
    · simp only [f_X11_storm, t1, Option.bind_some]; rfl
    · simp only [f_X12_storm, t2, Option.bind_some]; rfl
