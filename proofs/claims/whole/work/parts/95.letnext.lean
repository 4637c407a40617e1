/-! the letters behind a cycle -/
theorem lets_next {W H S T k nL : Nat} {σ1 μ1 σf μf : St} (h : RelM 8 W H S T k σ1 μ1) (hk : k ≤ 513) (hnL : nL ≤ 72) (en : μ1.1 0 0 25 = nI nL) (m9 : MA μf μ1 9 17) (m23 : μf.1 23 = μ1.1 23) (e25 : μf.1 0 0 25 = nI (stay (arN T μ1) nL).length) (eL : ∀ i, i < (stay (arN T μ1) nL).length → ∀ a, 26 ≤ a → a ≤ 29 → μf.1 a 0 i = μ1.1 a 0 ((stay (arN T μ1) nL).getD i 0))
    (x18 : ∀ c, c < 8 → live μ1 c → σf.1 18 c 0 = -1 ∧ (∀ p, 1 ≤ p → p < hpN μ1 c + 2 → σf.1 18 c p = σ1.1 18 c (p - 1)) ∧ (∀ p, hpN μ1 c + 2 ≤ p → σf.1 18 c p = σ1.1 18 c p)) : RLt S (T + 1) σf μf := by
  have n64 := let_le h hk hnL en
  have hT : T ≤ 40 * k := h.2.1
  have sle := stay_le (arN T μ1) nL
  refine ⟨(stay (arN T μ1) nL).length, by omega, e25, fun i hi => ?_, fun i j hi hj e1 e2 => ?_, fun c p hc hp hl hv => ?_⟩
  · obtain ⟨j1, j2⟩ := stay_get hi
    have L26 := eL i hi 26 (by omega) (by omega)
    have L27 := eL i hi 27 (by omega) (by omega)
    have L28 := eL i hi 28 (by omega) (by omega)
    have L29 := eL i hi 29 (by omega) (by omega)
    generalize (stay (arN T μ1) nL).getD i 0 = j at *
    obtain ⟨f1, f2, f3, f4, f5, f6, f7, f8, f9, f10, f11, f12, f13, f14, f15, f16, f17⟩ := let_facts h hk (Nat.le_refl 8) (by omega) en j1
    have np : plN T μ1 j ≠ hpN μ1 (foN μ1 j) + 1 := fun z => by unfold arN at j2; rw [decide_eq_true z] at j2; cases j2
    have v18 := (x18 _ f1 f2).2.1 (plN T μ1 j + 1) (by omega) (by omega)
    rw [Nat.add_sub_cancel, f13] at v18
    refine ⟨foN μ1 j, plN T μ1 j + 1, nI (2 * tlN μ1 j + ldN μ1 j), f1, by rw [live.cg m9]; exact f2, by omega, by rw [hpN.cg m9]; omega, ⟨L26.trans f6, by omega, ?_, ?_⟩, v18, ?_, ?_, ?_, ?_⟩
    · rw [L27, f7]
      congr 1
      omega
    · rw [L28, L29, f8, f10, show (2 : Int32) = nI 2 from rfl, nI_mul, nI_add]
    · rw [L28, f8]
      have : ldN μ1 j = 0 ∨ ldN μ1 j = 1 := by omega
      rcases this with z | z
      · left; rw [z]; rfl
      · right; rw [z]; rfl
    · rw [L29, f10]
      exact ⟨tlN μ1 j, by omega, f11, rfl⟩
    · rw [L29, f10, m23]
      rcases f12 with z | z
      · left; rw [z]; rfl
      · exact Or.inr z
    · rw [stN.cg m9, show T + 1 - (plN T μ1 j + 1) = T - plN T μ1 j by omega]
      exact f17
  · rw [eL i hi 26 (by omega) (by omega), eL j hj 26 (by omega) (by omega)] at e1
    rw [eL i hi 27 (by omega) (by omega), eL j hj 27 (by omega) (by omega)] at e2
    obtain ⟨n', hn', en', -, h2, -⟩ := h.2.2.2.2.2.2.1
    have : n' = nL := nI_inj (by omega) (by omega) (en'.symm.trans en)
    subst this
    exact stay_inj hi hj (h2 _ _ (stay_get hi).1 (stay_get hj).1 e1 e2)
  · rw [live.cg m9] at hl
    obtain ⟨y1, y2, y3⟩ := x18 c hc hl
    obtain ⟨q, o, -⟩ := h.of_live hc hl
    have p0 : p ≠ 0 := fun z => hv (by rw [z]; exact y1)
    have p2 : p < hpN μ1 c + 2 := by
      rcases Nat.lt_or_ge p (hpN μ1 c + 2) with z | z
      · exact z
      · exact absurd ((y3 p z).trans (q.2.2.2.2.2.2.2.2.2.2.2.2.2.2.2 p hp z)) hv
    have e18 := y2 p (by omega) p2
    rw [e18] at hv ⊢
    obtain ⟨n', hn', en', -, -, h3⟩ := h.2.2.2.2.2.2.1
    have : n' = nL := nI_inj (by omega) (by omega) (en'.symm.trans en)
    subst this
    obtain ⟨j, hj, l1, l2, l3, l4⟩ := h3 c (p - 1) hc (by omega) hl hv
    have z1 : foN μ1 j = c := by unfold foN nN; rw [l1, clL (by omega)]
    have z2 : plN T μ1 j = p - 1 := by unfold plN nN; rw [l3, clL (by omega)]; omega
    obtain ⟨i, hi, ei⟩ := stay_at (ar := arN T μ1) hj (by unfold arN; rw [z1, z2]; exact decide_eq_false (by omega))
    refine ⟨i, hi, ?_, by omega, ?_, ?_⟩
    · rw [eL i hi 26 (by omega) (by omega), ei]; exact l1
    · rw [eL i hi 27 (by omega) (by omega), ei, l3]
      congr 1
      omega
    · rw [eL i hi 28 (by omega) (by omega), eL i hi 29 (by omega) (by omega), ei]; exact l4
