theorem bd_at {W H S : Nat} (h : okWHS W H S) {x : Int32} {n : Nat} (hn : 0 < W * H) (hb : bd x 0 (W * H - 1)) : ∃ a, a < W * H ∧ a < 9 ∧ x = nI a := by
  obtain ⟨a, -, h2, e⟩ := hb
  have h9 := h.WH.2.2
  exact ⟨a, by omega, by omega, e⟩
/-- the next link of a stray, on both sides -/
theorem RelP.next {W H S T k : Nat} {σ μ : St} (h : RelP W H S T k σ μ) {n j : Nat} (en : σ.1 8 0 0 = nI n) (hn : n ≤ 12) (hj : j < n) : ∃ l, f_X8_linkAhead σ (σ.2.1 j) = some (nI l) ∧ f_X12_nextLink μ (nI j) = some (nI l) ∧ l = nxl W (nN (μ.1 31 0 j)) (nN (μ.1 32 0 j)) (μ.1 34 0 j) := by
  obtain ⟨n', hn', en', em, r1, r2, r3, r4⟩ := h.2.2.2.2.2.2.2.1
  have : n' = n := nI_inj (by omega) (by omega) (en'.symm.trans en)
  subst this
  obtain ⟨a1, a2, a3, a4, a5, a6, a7, a8, a9, a10⟩ := r4 j hj
  have hWH := r1 (by omega)
  have hw := h.1.WH
  have hW : 0 < W := Nat.pos_of_mul_pos_right hWH
  obtain ⟨f, hf, hf9, ef⟩ := bd_at (n := 0) h.1 hWH a8
  obtain ⟨d, hd, hd9, ed⟩ := bd_at (n := 0) h.1 hWH a9
  have e5 : μ.1 34 0 j = -1 ∨ ∃ x, x < 9 ∧ μ.1 34 0 j = nI x := by
    rcases a10 with z | z
    · exact Or.inl z
    · obtain ⟨x, hx, hx9, ex⟩ := bd_at (n := 0) h.1 hWH z
      exact Or.inr ⟨x, hx9, ex⟩
  refine ⟨_, ?_, nextMn (by omega) hW (by omega) h.2.2.2.1.2.2.2.2.1 hf9 hd9 ef ed e5, ?_⟩
  · have := nextXn (i := σ.2.1 j) hW (by omega) h.2.2.2.1.1 hf9 hd9 (a4.trans ef) (a5.trans ed) (by rw [a6]; exact e5)
    rw [a6] at this
    exact this
  · unfold nN
    rw [ef, ed, clL (by omega), clL (by omega)]
theorem stray_tell {W H S T k : Nat} {σ μ : St} (h : RelP W H S T k σ μ) {n j : Nat} (en : σ.1 8 0 0 = nI n) (hn : n ≤ 12) (hj : j < n) (p : Int32) : ∃ r, f_X8_tell σ (σ.2.1 j) p = some r ∧ f_X12_strayNow μ (nI j) p = some r := by
  obtain ⟨l, l1, l2, -⟩ := h.next en hn hj
  obtain ⟨n', hn', en', em, r1, r2, r3, r4⟩ := h.2.2.2.2.2.2.2.1
  have : n' = n := nI_inj (by omega) (by omega) (en'.symm.trans en)
  subst this
  obtain ⟨a1, a2, a3, a4, a5, a6, a7, a8, a9, a10⟩ := r4 j hj
  have i1 : inb (nI j) 12 := inbL (by omega) (by decide)
  have c1 : Int32.toNatClampNeg (nI j) = j := clL (by omega)
  have t1 : σ.1 1 0 2 = nI T := h.2.2.2.1.2.2.2.1
  have t2 : μ.1 0 0 3 = nI T := h.2.2.2.1.2.2.2.2.2.2.2.1
  simp only [f_X8_tell, f_X12_strayNow, f_X8_age, l1, l2, Option.bind_some, chk, if_pos i1, c1, a1, a5, a6, a7, t1, t2]
  by_cases q0 : p = 0
  · exact ⟨_, by rw [if_pos q0], by rw [if_pos q0]⟩
  · by_cases q1 : p = 1
    · by_cases z : μ.1 33 0 j = 0
      · exact ⟨0, by rw [if_neg q0, if_pos q1, if_pos z], by rw [if_neg q0, if_pos q1, if_pos z]⟩
      · exact ⟨1, by rw [if_neg q0, if_pos q1, if_neg z], by rw [if_neg q0, if_pos q1, if_neg z]⟩
    · by_cases q2 : p = 2
      · exact ⟨_, by rw [if_neg q0, if_neg q1, if_pos q2], by rw [if_neg q0, if_neg q1, if_pos q2]⟩
      · by_cases q3 : p = 3
        · exact ⟨_, by rw [if_neg q0, if_neg q1, if_neg q2, if_pos q3], by rw [if_neg q0, if_neg q1, if_neg q2, if_pos q3]⟩
        · exact ⟨_, by rw [if_neg q0, if_neg q1, if_neg q2, if_neg q3], by rw [if_neg q0, if_neg q1, if_neg q2, if_neg q3]⟩
theorem straying_eq {W H S T k : Nat} {σ μ : St} (h : RelP W H S T k σ μ) (p1 p2 : Int32) : ∃ r, f_X11_straying σ p1 p2 = some r ∧ f_X12_straying μ p1 p2 = some r := by
  have n10 : ¬ (1 : Int32) = 0 := by decide
  obtain ⟨n, hn, en, em, r1, r2, r3, r4⟩ := h.2.2.2.2.2.2.2.1
  by_cases q : 0 ≤ p1 ∧ p1 < nI n
  · have q1 := q.2
    rw [i_lt, nI_toInt (show n < 2 ^ 31 by omega)] at q1
    obtain ⟨j, hj, rfl⟩ := nat_of (hi := 12) q.1 (by omega)
    rw [nI_toInt (show j < 2 ^ 31 by omega)] at q1
    have hj2 : j < n := by omega
    have i1 : inb (nI j) 12 := inbL (by omega) (by decide)
    have c1 : Int32.toNatClampNeg (nI j) = j := clL (by omega)
    have hx : f_X9_find σ (nI j) = some (some (σ.2.1 j)) := by
      simp only [f_X9_find, if_pos q.1, en, if_pos q.2, if_neg (nleL 12 12 rfl (show j < 12 by omega) (by decide)), chk, if_pos i1, c1, if_pos (r2 j (by omega))]
    have hle : nI j ≤ nI n - 1 := by
      rw [show (1 : Int32) = nI 1 from rfl, nI_sub (by omega)]
      exact nI_le (by omega) (by omega)
    by_cases z : 0 ≤ p2 ∧ p2 ≤ 4
    · obtain ⟨r, b1, b2⟩ := stray_tell h en hn hj2 p2
      refine ⟨r, ?_, ?_⟩
      · have : ¬ 4 < p2 := by
          have := z.2
          rw [i_le] at this
          rw [i_lt]
          omega
        simp only [f_X11_straying, hx, Option.bind_some, onR_s (r2 j (by omega)), if_pos z.1, if_neg this, b1]
      · simp only [f_X12_straying, em, within_in q.1 hle, Option.bind_some, if_neg n10, within_in z.1 z.2, b2]
    · refine ⟨-102, ?_, ?_⟩
      · simp only [f_X11_straying, hx, Option.bind_some, onR_s (r2 j (by omega))]
        by_cases z0 : 0 ≤ p2
        · have : 4 < p2 := by
            have : ¬ p2 ≤ 4 := fun y => z ⟨z0, y⟩
            rw [i_le] at this
            rw [i_lt]
            omega
          rw [if_pos z0, if_pos this]
        · rw [if_neg z0]
      · simp only [f_X12_straying, em, within_in q.1 hle, Option.bind_some, if_neg n10, within_out z]
        rfl
  · refine ⟨-101, ?_, ?_⟩
    · have : f_X9_find σ p1 = some none := by
        unfold f_X9_find
        by_cases z0 : 0 ≤ p1
        · rw [if_pos z0, en, if_neg (fun y => q ⟨z0, y⟩)]
        · rw [if_neg z0]
      simp only [f_X11_straying, this, Option.bind_some, onR_n]
    · have : ¬ (0 ≤ p1 ∧ p1 ≤ nI n - 1) := by
        rintro ⟨z0, z⟩
        apply q
        refine ⟨z0, ?_⟩
        by_cases y : n = 0
        · rw [y] at z
          rw [i_le] at z z0
          have e1 : (nI 0 - 1).toInt = -1 := by decide
          have e2 : (0 : Int32).toInt = 0 := by decide
          omega
        · rw [show (1 : Int32) = nI 1 from rfl, nI_sub (by omega), i_le, nI_toInt (by omega)] at z
          rw [i_lt, nI_toInt (by omega)]
          omega
      simp only [f_X12_straying, em, within_out this, Option.bind_some]
      rfl
theorem ok_straying_Rel : ok_straying Rel := by
  intro k σ μ hk ⟨W, H, S, T, hR0⟩ p1 p2
  obtain ⟨r, h1, h2⟩ := straying_eq hR0.mono p1 p2
  exact ⟨r, h1, h2, W, H, S, T, hR0.mono⟩
