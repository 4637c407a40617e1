theorem setX (σ : St) : f_X1_set σ = (f_X4_set σ 1 (σ.1 5 0 1) (σ.1 5 0 2)).bind fun σ2 => f_X1_set_L30 FU (si (si σ2 1 0 1 (σ2.1 5 0 3)) 1 0 2 0) (nI 0) := by
  unfold f_X1_set
  congr 1
theorem chipX_set {W H S : Nat} {s μ : St} (hG : GR W H s μ) (eS : s.1 5 0 3 = nI S) : ∃ σ2, f_X1_set s = some σ2 ∧ σ2.2 = s.2 ∧ (∀ a, a ≠ 1 → a ≠ 4 → a ≠ 11 → a ≠ 14 → a ≠ 15 → a ≠ 16 → σ2.1 a = s.1 a) ∧ σ2.1 4 1 0 = nI W ∧ σ2.1 4 1 1 = nI H ∧ (∀ l, l < 54 → σ2.1 11 1 l = endV W H l) ∧ σ2.1 1 0 1 = nI S ∧ σ2.1 1 0 2 = 0 ∧ (∀ l, l < 54 → σ2.1 14 0 l = μ.1 44 0 l ∧ σ2.1 15 0 l = 0) ∧ ∀ j, j < 540 → σ2.1 16 0 j = -1 := by
  obtain ⟨hW, hH, a1, a2, a3, a4, a5, a6, a7⟩ := hG
  obtain ⟨t, ht, ⟨k1, k2, k3⟩, k4, k5, k6⟩ := gset_eq (σ := s) (i := 1) hW hH
  have k20 := (k3 0 (by decide)).2
  obtain ⟨u, hu, ⟨q1, q2, q3⟩, q4⟩ := set_brk (W := W) (H := H) (σ := si (si t 1 0 1 (t.1 5 0 3)) 1 0 2 0) (μ := μ) (fun l hl => by
    rw [si_k (show 11 ≠ 1 by decide), si_k (show 11 ≠ 1 by decide), si_k (show 13 ≠ 1 by decide), si_k (show 13 ≠ 1 by decide), k20, k2 13 (by decide) (by decide)]
    exact a7 l hl) FU (FU_lt (by omega))
  have e5 : t.1 5 0 3 = nI S := by rw [k2 5 (by decide) (by decide)]; exact eS
  have qq : ∀ a, a ≠ 1 → a ≠ 14 → a ≠ 15 → a ≠ 16 → u.1 a = t.1 a := fun a b1 b2 b3 b4 => by rw [q2 a b2 b3 b4, si_k b1, si_k b1]
  refine ⟨u, ?_, q1.trans k1, fun a b1 b2 b3 b4 b5 b6 => (qq a b1 b4 b5 b6).trans (k2 a b2 b3), ?_, ?_, fun l hl => ?_, ?_, ?_, q3, q4⟩
  · rw [setX, a1, a2, ht, Option.bind_some]
    exact hu
  · rw [qq 4 (by decide) (by decide) (by decide) (by decide)]; exact k4
  · rw [qq 4 (by decide) (by decide) (by decide) (by decide)]; exact k5
  · rw [qq 11 (by decide) (by decide) (by decide) (by decide)]; exact k6 l hl
  · rw [q2 1 (by decide) (by decide) (by decide), si_j (by decide), si_eq]; exact e5
  · rw [q2 1 (by decide) (by decide) (by decide), si_eq]
theorem chipM_eq {μ2 : St} {r : Int32} {μ : St} (h : f_X12_read μ = some (μ2, r)) (h1 : μ2.1 0 0 7 ≤ r) (h2 : μ2.1 0 0 39 = 6) : f_X12_chip μ = f_X12_chip_L64 FU (si (si (si (si (si (si μ2 0 0 0 (μ2.1 0 0 40)) 0 0 1 (μ2.1 0 0 41)) 0 0 2 (μ2.1 0 0 42)) 0 0 3 0) 0 0 25 0) 0 0 30 0) (nI 0) := by
  unfold f_X12_chip
  rw [h, Option.bind_some]
  dsimp only
  rw [if_pos h1, if_pos h2, bnd_eq, bnd_eq, bnd_eq, bnd_eq, bnd_eq, bnd_eq, si_j (show 41 ≠ 0 by decide), si_j (show 42 ≠ 1 by decide), si_j (show 42 ≠ 0 by decide)]
  rfl
theorem ok_chip_Rel : ok_chip Rel := by
  intro k σ μ hk ⟨W0, H0, S0, T0, hR0⟩
  have hR := hR0.mono
  obtain ⟨L, hL, eL, mL, σ2, μ2, r, a1, a2, kx, km, hr, f, hf, hfi, hft⟩ := read_both hR
  have hR2 := KX.rel hR kx km
  have m7 : μ2.1 0 0 7 = nI L := (km.2.2 7 (by decide)).trans mL
  cases f
  · refine ⟨σ2, μ2, -103, ?_, ?_, W0, H0, S0, T0, hR2⟩
    · unfold f_X11_chip
      rw [a1, Option.bind_some]
      dsimp only
      rw [hf, if_pos (show bz false = 0 from rfl)]
    · unfold f_X12_chip
      rw [a2, Option.bind_some]
      dsimp only
      by_cases q : μ2.1 0 0 7 ≤ nI r
      · rw [if_pos q]
        have q2 : r = L := by
          rw [m7] at q
          have := (nI_leI (show L < 2 ^ 31 by omega) (show r < 2 ^ 31 by omega)).mp q
          omega
        rw [if_neg (fun z => absurd (hfi.mpr ⟨q2, z⟩) (by decide))]
      · rw [if_neg q]
  · obtain ⟨e1, e2⟩ := hfi.mp rfl
    subst e1
    obtain ⟨g, s, ⟨hg, hd⟩, es⟩ := hft rfl
    have g6 : ∃ W H S, GR W H s μ2 ∧ 4 ≤ S ∧ S ≤ 10 ∧ s.1 5 0 3 = nI S ∧ μ2.1 0 0 42 = nI S := by
      rw [e2] at hg
      have hgl : g < 9 := by
        rcases hd with ⟨a, -⟩ | ⟨a, -⟩ | ⟨a, -⟩ | ⟨a, -⟩ | ⟨a, -⟩ | ⟨W, H, S, q, hG, h4, h10, x1, x2, g6, g8, -⟩ <;> omega
      have g6 : (6 : Nat) = g := nI_inj (by omega) (by omega) hg
      rcases hd with ⟨a, -⟩ | ⟨a, -⟩ | ⟨a, -⟩ | ⟨a, -⟩ | ⟨a, -⟩ | ⟨W, H, S, q, hG, h4, h10, x1, x2, -⟩
      · omega
      · omega
      · omega
      · omega
      · omega
      · exact ⟨W, H, S, hG, h4, h10, x1, x2⟩
    obtain ⟨W, H, S, hG, h4, h10, x1, x2⟩ := g6
    have hGs : GR W H σ2 μ2 := by
      rw [es]
      exact hG.cg (si_j (by decide)) (si_j (by decide)) (si_k' (by decide)) (si_k' (by decide)) (si_k' (by decide)) rfl rfl rfl
    have x1' : σ2.1 5 0 3 = nI S := by rw [es, si_j (by decide)]; exact x1
    obtain ⟨u, u1, u2, u3, u4, u5, u6, u7, u8, u9, u10⟩ := chipX_set hGs x1'
    obtain ⟨v, v1, v2, v3, v4, v5⟩ := clr_c (σ := u) FU (FU_lt (by omega))
    obtain ⟨m, m1, m2, m3, m4, m5⟩ := mc_64 (μ := si (si (si (si (si (si μ2 0 0 0 (μ2.1 0 0 40)) 0 0 1 (μ2.1 0 0 41)) 0 0 2 (μ2.1 0 0 42)) 0 0 3 0) 0 0 25 0) 0 0 30 0) (W := W) (H := H) (fun l hl => by
      rw [si_k (show 44 ≠ 0 by decide), si_k (show 44 ≠ 0 by decide), si_k (show 44 ≠ 0 by decide), si_k (show 44 ≠ 0 by decide), si_k (show 44 ≠ 0 by decide), si_k (show 44 ≠ 0 by decide)]
      exact (hGs.2.2.2.2.2.2.2.2 l hl).2.1) FU (FU_lt (by omega)) (by
      rw [si_j (by decide), si_j (by decide), si_j (by decide), si_j (by decide), si_j (by decide), si_eq]
      exact hGs.2.2.2.2.2.2.1) (by
      rw [si_j (by decide), si_j (by decide), si_j (by decide), si_j (by decide), si_eq]
      exact hGs.2.2.2.2.2.2.2.1)
    have hm := chipM_eq a2 (by rw [m7]; exact nI_le (Nat.le_refl r) (by omega)) e2
    have w10 : v.1 10 0 6 = μ2.1 0 0 4 := by
      rw [v3 10 (by decide), u3 10 (by decide) (by decide) (by decide) (by decide) (by decide) (by decide)]
      exact hR2.2.2.2.2.2.2.2.2.2.1
    have n4 : (si (si (si (si (si (si μ2 0 0 0 (μ2.1 0 0 40)) 0 0 1 (μ2.1 0 0 41)) 0 0 2 (μ2.1 0 0 42)) 0 0 3 0) 0 0 25 0) 0 0 30 0).1 0 0 4 = μ2.1 0 0 4 := by
      rw [si_j (by decide), si_j (by decide), si_j (by decide), si_j (by decide), si_j (by decide), si_j (by decide)]
    rw [n4] at m1
    have uu : ∀ a, a ≠ 1 → a ≠ 2 → a ≠ 4 → a ≠ 11 → a ≠ 14 → a ≠ 15 → a ≠ 16 → v.1 a = σ2.1 a := fun a b1 b2 b3 b4 b5 b6 b7 => (v3 a b2).trans (u3 a b1 b3 b4 b5 b6 b7)
    have hfin : RelP W H S 0 (k + 1) (si (si (si (si (si (si (si (si (si v 8 0 0 0) 0 0 0 0) 0 0 1 0) 0 0 2 0) 0 1 0 0) 0 1 1 0) 0 1 2 0) 5 0 0 0) 10 0 6 (μ2.1 0 0 4 + 1)) (si (si m 0 0 4 (μ2.1 0 0 4 + 1)) 0 0 7 0) := by
      have xF : ∀ a, a ≠ 0 → a ≠ 5 → a ≠ 8 → a ≠ 10 → (si (si (si (si (si (si (si (si (si v 8 0 0 0) 0 0 0 0) 0 0 1 0) 0 0 2 0) 0 1 0 0) 0 1 1 0) 0 1 2 0) 5 0 0 0) 10 0 6 (μ2.1 0 0 4 + 1)).1 a = v.1 a := fun a b1 b2 b3 b4 => by
        rw [si_k b4, si_k b2, si_k b1, si_k b1, si_k b1, si_k b1, si_k b1, si_k b1, si_k b3]
      have mF : ∀ a, a ≠ 0 → (si (si m 0 0 4 (μ2.1 0 0 4 + 1)) 0 0 7 0).1 a = m.1 a := fun a b1 => by rw [si_k b1, si_k b1]
      have m0F : ∀ j, j ≠ 4 → j ≠ 7 → (si (si m 0 0 4 (μ2.1 0 0 4 + 1)) 0 0 7 0).1 0 0 j = (si (si (si (si (si (si μ2 0 0 0 (μ2.1 0 0 40)) 0 0 1 (μ2.1 0 0 41)) 0 0 2 (μ2.1 0 0 42)) 0 0 3 0) 0 0 25 0) 0 0 30 0).1 0 0 j := fun j b1 b2 => by
        rw [si_j b2, si_j b1]; exact m2.2 j
      have nolive : ∀ c, c < 8 → ¬ live (si (si m 0 0 4 (μ2.1 0 0 4 + 1)) 0 0 7 0) c := fun c hc z => by
        unfold live at z
        rw [mF 9 (by decide), m4 c hc] at z
        exact absurd z (by decide)
      have e44 : ∀ l, (si (si (si (si (si (si μ2 0 0 0 (μ2.1 0 0 40)) 0 0 1 (μ2.1 0 0 41)) 0 0 2 (μ2.1 0 0 42)) 0 0 3 0) 0 0 25 0) 0 0 30 0).1 44 0 l = μ2.1 44 0 l := fun l => by
        rw [si_k (show 44 ≠ 0 by decide), si_k (show 44 ≠ 0 by decide), si_k (show 44 ≠ 0 by decide), si_k (show 44 ≠ 0 by decide), si_k (show 44 ≠ 0 by decide), si_k (show 44 ≠ 0 by decide)]
      refine ⟨Or.inr ⟨hGs.1, hGs.2.1, h4, h10⟩, by omega, ⟨⟨0, by omega, by omega, ?_⟩, ?_, ?_⟩, ⟨?_, ?_, ?_, ?_, ?_, ?_, ?_, ?_, ?_, ?_, ?_⟩, ?_, ?_, ?_, ?_, ?_, ?_⟩
      · rw [si_k (by decide), si_eq]; rfl
      · rw [si_eq, si_k (show 5 ≠ 10 by decide), si_eq]
      · intro j hj
        rw [si_k (show 5 ≠ 10 by decide), si_eq] at hj
        exact absurd hj (Nat.not_lt_zero j)
      · rw [xF 4 (by decide) (by decide) (by decide) (by decide), v3 4 (by decide)]; exact u4
      · rw [xF 4 (by decide) (by decide) (by decide) (by decide), v3 4 (by decide)]; exact u5
      · rw [xF 1 (by decide) (by decide) (by decide) (by decide), v3 1 (by decide)]; exact u7
      · rw [xF 1 (by decide) (by decide) (by decide) (by decide), v3 1 (by decide)]; exact u8
      · rw [m0F 0 (by decide) (by decide), si_j (by decide), si_j (by decide), si_j (by decide), si_j (by decide), si_j (by decide), si_eq]; exact hGs.2.2.2.2.2.2.1
      · rw [m0F 1 (by decide) (by decide), si_j (by decide), si_j (by decide), si_j (by decide), si_j (by decide), si_eq]; exact hGs.2.2.2.2.2.2.2.1
      · rw [m0F 2 (by decide) (by decide), si_j (by decide), si_j (by decide), si_j (by decide), si_eq]; exact x2
      · rw [m0F 3 (by decide) (by decide), si_j (by decide), si_j (by decide), si_eq]; rfl
      · intro l hl
        rw [xF 11 (by decide) (by decide) (by decide) (by decide), v3 11 (by decide)]; exact u6 l hl
      · intro l hl
        rw [xF 14 (by decide) (by decide) (by decide) (by decide), v3 14 (by decide), mF 5 (by decide), (m3 l hl).1, e44, (u9 l hl).1]
        exact ⟨rfl, (hGs.2.2.2.2.2.2.2.2 l hl).2.1⟩
      · intro l hl
        rw [xF 15 (by decide) (by decide) (by decide) (by decide), v3 15 (by decide), mF 6 (by decide), (m3 l hl).2, (u9 l hl).2]
        exact ⟨rfl, ⟨0, by omega, by omega, rfl⟩, fun _ => rfl⟩
      · intro c hc
        refine ⟨?_, ?_, ?_, fun z => absurd z (nolive c hc)⟩
        · rw [xF 2 (by decide) (by decide) (by decide) (by decide), v4 c 0 (by decide), u3 2 (by decide) (by decide) (by decide) (by decide) (by decide) (by decide)]
          exact (hR2.2.2.2.2.1 c hc).1
        · rw [mF 9 (by decide), m4 c hc]; exact Or.inl rfl
        · rw [xF 2 (by decide) (by decide) (by decide) (by decide), v5 c hc, mF 9 (by decide), m4 c hc]
      · intro hS l hl s' hs'
        left
        refine ⟨?_, fun _ c hc z => absurd z (nolive c hc)⟩
        rw [xF 16 (by decide) (by decide) (by decide) (by decide), v3 16 (by decide)]
        exact u10 _ (by omega)
      · refine ⟨0, by omega, ?_, fun j hj => absurd hj (Nat.not_lt_zero j), fun j _ hj => absurd hj (Nat.not_lt_zero j), fun c p hc _ z => absurd z (nolive c hc)⟩
        rw [m0F 25 (by decide) (by decide), si_j (by decide), si_eq]; rfl
      · obtain ⟨n, hn, -, -, -, r2, r3, -⟩ := hR2.2.2.2.2.2.2.2.1
        have el : (si (si (si (si (si (si (si (si (si v 8 0 0 0) 0 0 0 0) 0 0 1 0) 0 0 2 0) 0 1 0 0) 0 1 1 0) 0 1 2 0) 5 0 0 0) 10 0 6 (μ2.1 0 0 4 + 1)).2.1 = σ2.2.1 := by
          show v.2.1 = σ2.2.1
          rw [v2, u2]
        refine ⟨0, by omega, ?_, ?_, fun z => absurd z (Nat.lt_irrefl 0), by rw [el]; exact r2, by rw [el]; exact r3, fun j hj => absurd hj (Nat.not_lt_zero j)⟩
        · rw [si_k (by decide), si_k (by decide), si_k (by decide), si_k (by decide), si_k (by decide), si_k (by decide), si_k (by decide), si_k (by decide), si_eq]; rfl
        · rw [m0F 30 (by decide) (by decide), si_eq]; rfl
      · unfold RAr
        rw [mF 36 (by decide), mF 37 (by decide), mF 38 (by decide), (m5 0 (by decide)).1, (m5 0 (by decide)).2.1, (m5 0 (by decide)).2.2, (m5 1 (by decide)).1, (m5 1 (by decide)).2.1, (m5 1 (by decide)).2.2]
        refine ⟨⟨?_, ?_, ?_⟩, ?_, ?_, ?_⟩ <;> simp (decide := true) only [si_k, si_i, si_j, si_eq]
      · refine ⟨by rw [si_eq, si_j (by decide), si_eq], fun j hj => ?_⟩
        rw [xF 20 (by decide) (by decide) (by decide) (by decide), uu 20 (by decide) (by decide) (by decide) (by decide) (by decide) (by decide) (by decide)]
        exact hR2.2.2.2.2.2.2.2.2.2.2 j hj
    refine ⟨_, _, nI (W * H), ?_, hm.trans m1, W, H, S, 0, hfin⟩
    have cl3 : f_X3_clear u = some v := v1
    unfold f_X11_chip
    rw [a1, Option.bind_some]
    dsimp only
    rw [hf, if_neg (by decide), u1, Option.bind_some, cl3, Option.bind_some]
    simp only [f_X9_clear, f_X0_clear, bnd, Option.bind_some, f_X4_routers]
    have e10 : (si (si (si (si (si (si (si (si v 8 0 0 0) 0 0 0 0) 0 0 1 0) 0 0 2 0) 0 1 0 0) 0 1 1 0) 0 1 2 0) 5 0 0 0).1 10 0 6 = μ2.1 0 0 4 := by
      rw [si_k (by decide), si_k (by decide), si_k (by decide), si_k (by decide), si_k (by decide), si_k (by decide), si_k (by decide), si_k (by decide)]
      exact w10
    rw [e10, hfin.2.2.2.1.1, hfin.2.2.2.1.2.1, nI_mul]
