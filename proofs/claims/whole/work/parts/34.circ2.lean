/-! circuit, route, start, count, fastest -/
theorem RelP.starts {W H S T k : Nat} {σ μ : St} (h : RelP W H S T k σ μ) {c : Nat} (hc : c < 8) (hl : live μ c) : ∃ st, 1 ≤ st ∧ st < 2 ^ S ∧ st < 1024 ∧ μ.1 17 0 c = nI st ∧ σ.1 2 c 15 = nI st ∧ stN μ c = st ∧ 4 ≤ S ∧ S ≤ 10 := by
  obtain ⟨q, o, hS⟩ := h.of_live hc hl
  obtain ⟨st, h1, h2, e⟩ := o.2.2.2.2.1
  have h10 := h.1.S10
  have hlt := st_lt h10 h2
  have hp : 0 < 2 ^ S := Nat.two_pow_pos S
  refine ⟨st, h1, by omega, hlt, e, q.2.2.2.2.2.2.1.trans e, by unfold stN nN; rw [e, clL (by omega)], ?_, h10⟩
  rcases h.1 with ⟨-, -, z⟩ | ⟨-, -, z, -⟩ <;> omega
theorem RelP.hops {W H S T k : Nat} {σ μ : St} (h : RelP W H S T k σ μ) {c : Nat} (hc : c < 8) (hl : live μ c) : ∃ hp, 1 ≤ hp ∧ hp ≤ 6 ∧ μ.1 15 0 c = nI hp ∧ σ.1 2 c 6 = nI hp ∧ hpN μ c = hp := by
  obtain ⟨q, o, hS⟩ := h.of_live hc hl
  obtain ⟨hp, h1, h2, e⟩ := o.2.2.2.1
  exact ⟨hp, h1, h2, e, q.2.2.2.2.2.1.trans e, by unfold hpN nN; rw [e, clL (by omega)]⟩
theorem gap_both {W H S T k : Nat} {σ μ : St} (h : RelP W H S T k σ μ) {c : Nat} (hc : c < 8) (hl : live μ c) : ∃ r, f_X7_gapOf (σ.1 2 c 15) (σ.1 1 0 1) = some r ∧ f_X12_gapOf μ (μ.1 17 0 c) = some r := by
  obtain ⟨st, h1, h2, h3, e1, e2, -, h4, h5⟩ := h.starts hc hl
  refine ⟨nI (gapXn st S), ?_, ?_⟩
  · rw [e2, h.2.2.2.1.2.2.1, gapX_eq h3 h5]
  · rw [e1, gapM_eq h.2.2.2.1.2.2.2.2.2.2.1 h3 ⟨by omega, h5⟩, (gap_eq S (by omega) st h3 ⟨h4, h2, by omega⟩).1]
theorem circ_tell {W H S T k : Nat} {σ μ : St} (h : RelP W H S T k σ μ) (hk : k ≤ 513) {c : Nat} (hc : c < 8) (hl : live μ c) {j : Nat} (hj : j < 15) : ∃ r, f_X11_circuit σ (nI c) (nI j) = some r ∧ f_X12_circuitNow μ (nI c) (nI j) = some r := by
  obtain ⟨q, o, hS⟩ := h.of_live hc hl
  obtain ⟨g, g1, g2⟩ := gap_both h hc hl
  obtain ⟨n, hn, en, -⟩ := h.2.2.2.2.2.2.1
  have hu := h.und hk hc hl hn en
  have hi : inb (nI c) 8 := inbL hc (by decide)
  have hcl : Int32.toNatClampNeg (nI c) = c := clL (by omega)
  have hx : f_X3_find σ (nI c) = some (some c) := by
    rcases h.circ (nI c) with ⟨a, b⟩ | ⟨d, hd, e, -, a, -⟩
    · exfalso
      have : f_X12_isCircuit μ (nI c) = some 1 := by
        simp only [f_X12_isCircuit, within_in (nI_pos' (show c < 2 ^ 31 by omega)) (show nI c ≤ 7 from nI_le (show c ≤ 7 by omega) (by decide)), Option.bind_some, chk, if_pos hi, hcl]
        rw [if_neg (by decide), if_neg]
        have : μ.1 9 0 c = 1 := hl
        rw [this]; decide
      rw [b] at this
      exact absurd (Option.some.inj this) (by decide)
    · rw [a, nI_inj (by omega) (by omega) e]
  obtain ⟨q1, q2, q3, q4, q5, q6, q7, q8, q9, q10, q11, q12, q13, q14, -⟩ := q
  have c0 : 0 ≤ nI j := nI_pos' (by omega)
  have c1 : ¬ (14 : Int32) < nI j := Int32.not_lt.mpr (show nI j ≤ nI 14 from nI_le (by omega) (by decide))
  have X : f_X11_circuit σ (nI c) (nI j) = if nI j < 8 then f_X2_tellMade σ c (nI j) (σ.1 1 0 1) else f_X2_tellMoving σ c (nI j) := by
    simp only [f_X11_circuit, hx, Option.bind_some, onR_s hc, if_pos c0, if_neg c1]
    have : ∀ o : Option Int32, (o.bind fun r => some r) = o := fun o => by cases o <;> rfl
    rw [this, this]
  rw [X]
  rcases (show j = 0 ∨ j = 1 ∨ j = 2 ∨ j = 3 ∨ j = 4 ∨ j = 5 ∨ j = 6 ∨ j = 7 ∨ j = 8 ∨ j = 9 ∨ j = 10 ∨ j = 11 ∨ j = 12 ∨ j = 13 ∨ j = 14 by omega) with rfl | rfl | rfl | rfl | rfl | rfl | rfl | rfl | rfl | rfl | rfl | rfl | rfl | rfl | rfl
  · exact ⟨μ.1 10 0 c, by rw [if_pos (by decide), ← q1]; rfl, by simp only [f_X12_circuitNow, chk, if_pos hi, hcl]; rfl⟩
  · exact ⟨μ.1 11 0 c, by rw [if_pos (by decide), ← q2]; rfl, by simp only [f_X12_circuitNow, chk, if_pos hi, hcl]; rfl⟩
  · exact ⟨μ.1 12 0 c, by rw [if_pos (by decide), ← q3]; rfl, by simp only [f_X12_circuitNow, chk, if_pos hi, hcl]; rfl⟩
  · exact ⟨μ.1 13 0 c, by rw [if_pos (by decide), ← q4]; rfl, by simp only [f_X12_circuitNow, chk, if_pos hi, hcl]; rfl⟩
  · exact ⟨μ.1 14 0 c, by rw [if_pos (by decide), ← q5]; rfl, by simp only [f_X12_circuitNow, chk, if_pos hi, hcl]; rfl⟩
  · exact ⟨μ.1 15 0 c, by rw [if_pos (by decide), ← q6]; rfl, by simp only [f_X12_circuitNow, chk, if_pos hi, hcl]; rfl⟩
  · refine ⟨g, ?_, ?_⟩
    · rw [if_pos (by decide)]
      simp only [f_X2_tellMade, g1, Option.bind_some]
      rfl
    · simp only [f_X12_circuitNow, chk, if_pos hi, hcl, g2, Option.bind_some]
      rfl
  · exact ⟨μ.1 23 0 c, by rw [if_pos (by decide), ← q13]; rfl, by simp only [f_X12_circuitNow, f_X12_circuitMore, chk, if_pos hi, hcl]; rfl⟩
  · exact ⟨μ.1 18 0 c, by rw [if_neg (by decide), ← q8]; rfl, by simp only [f_X12_circuitNow, f_X12_circuitMore, chk, if_pos hi, hcl]; rfl⟩
  · exact ⟨μ.1 19 0 c, by rw [if_neg (by decide), ← q9]; rfl, by simp only [f_X12_circuitNow, f_X12_circuitMore, chk, if_pos hi, hcl]; rfl⟩
  · exact ⟨μ.1 20 0 c, by rw [if_neg (by decide), ← q10]; rfl, by simp only [f_X12_circuitNow, f_X12_circuitMore, chk, if_pos hi, hcl]; rfl⟩
  · exact ⟨μ.1 21 0 c, by rw [if_neg (by decide), ← q11]; rfl, by simp only [f_X12_circuitNow, f_X12_circuitMore, chk, if_pos hi, hcl]; rfl⟩
  · exact ⟨μ.1 22 0 c, by rw [if_neg (by decide), ← q12]; rfl, by simp only [f_X12_circuitNow, f_X12_circuitMore, chk, if_pos hi, hcl]; rfl⟩
  · refine ⟨nI (cntI (fun j => decide (μ.1 26 0 j = nI c)) n), ?_, ?_⟩
    · rw [if_neg (by decide)]
      simp only [f_X2_tellMoving, undX, hu, Option.bind_some]
      rfl
    · simp only [f_X12_circuitNow, f_X12_circuitMore, undM hn en, Option.bind_some]
      rfl
  · exact ⟨μ.1 24 0 c, by rw [if_neg (by decide), ← q14]; rfl, by simp only [f_X12_circuitNow, f_X12_circuitMore, chk, if_pos hi, hcl]; rfl⟩
theorem ok_circuit_Rel : ok_circuit Rel := by
  intro k σ μ hk ⟨W, H, S, T, hR0⟩ p1 p2
  have hR := hR0.mono
  rcases hR.circ p1 with ⟨hx, hm⟩ | ⟨c, hc, rfl, hl, hx, hm⟩
  · refine ⟨-101, ?_, ?_, W, H, S, T, hR⟩
    · simp only [f_X11_circuit, hx, Option.bind_some, onR_n]
    · simp only [f_X12_circuit, hm, Option.bind_some]; rfl
  · by_cases h1 : 0 ≤ p2 ∧ p2 ≤ 14
    · have h2 := h1.2
      rw [i_le, show (14 : Int32).toInt = 14 from by decide] at h2
      obtain ⟨j, hj, rfl⟩ := nat_of (hi := 14) h1.1 h2
      obtain ⟨r, r1, r2⟩ := circ_tell hR (by omega) hc hl (show j < 15 by omega)
      refine ⟨r, r1, ?_, W, H, S, T, hR⟩
      simp only [f_X12_circuit, hm, Option.bind_some, show ¬ (1 : Int32) = 0 from by decide, if_false, within_in h1.1 h1.2, r2]
    · refine ⟨-102, ?_, ?_, W, H, S, T, hR⟩
      · simp only [f_X11_circuit, hx, Option.bind_some, onR_s hc]
        by_cases h2 : 0 ≤ p2
        · rw [if_pos h2, if_pos (Int32.not_le.mp (fun z => h1 ⟨h2, z⟩))]
        · rw [if_neg h2]
      · simp only [f_X12_circuit, hm, Option.bind_some, show ¬ (1 : Int32) = 0 from by decide, if_false, within_out h1]; rfl
theorem places_eq {σ : St} {c hp : Nat} (e : σ.1 2 c 6 = nI hp) (h : hp ≤ 6) : f_X2_places σ c = some (nI (hp + 2)) := by
  have e2 : nI hp + 2 = nI (hp + 2) := nI_add hp 2
  unfold f_X2_places
  rw [e, e2, if_neg (show ¬ (8 : Int32) < nI (hp + 2) from Int32.not_lt.mpr (show nI (hp + 2) ≤ nI 8 from nI_le (by omega) (by decide)))]
theorem linkAt_eq {σ : St} {c p : Nat} (h : p < 8) : f_X2_linkAt σ c (nI p) = some (σ.1 17 c p) := by
  unfold f_X2_linkAt
  rw [if_pos (nI_pos' (by omega)), if_neg (nleL 8 8 rfl h (by decide)), clL (by omega)]
  simp only [chk, if_pos (inbL h (show 8 < 2 ^ 31 by decide))]
theorem ok_route_Rel : ok_route Rel := by
  intro k σ μ hk ⟨W, H, S, T, hR0⟩ p1 p2
  have hR := hR0.mono
  rcases hR.circ p1 with ⟨hx, hm⟩ | ⟨c, hc, rfl, hl, hx, hm⟩
  · refine ⟨-101, ?_, ?_, W, H, S, T, hR⟩
    · simp only [f_X11_route, hx, Option.bind_some, onR_n]
    · simp only [f_X12_route, hm, Option.bind_some]; rfl
  · obtain ⟨hp, h1, h2, e1, e2, e3⟩ := hR.hops hc hl
    have q := (hR.of_live hc hl).1
    have hi : inb (nI c) 8 := inbL hc (by decide)
    have hcl : Int32.toNatClampNeg (nI c) = c := clL (by omega)
    have e4 : nI hp + 1 = nI (hp + 1) := nI_1 hp
    by_cases h3 : 0 ≤ p2 ∧ p2 ≤ nI (hp + 1)
    · have h4 := h3.2
      rw [i_le, nI_toInt (by omega)] at h4
      obtain ⟨p, hp2, rfl⟩ := nat_of (hi := hp + 1) h3.1 h4
      have e5 : (8 : Int32) * nI c + nI p = nI (8 * c + p) := by rw [show (8 : Int32) = nI 8 from rfl, nI_mul, nI_add]
      refine ⟨σ.1 17 c p, ?_, ?_, W, H, S, T, hR⟩
      · simp only [f_X11_route, hx, Option.bind_some, onR_s hc, if_pos h3.1, places_eq e2 h2, if_neg (nI_ge (show p < hp + 2 by omega) (show hp + 2 < 2 ^ 31 by omega)), linkAt_eq (show p < 8 by omega)]
      · simp only [f_X12_route, hm, Option.bind_some, show ¬ (1 : Int32) = 0 from by decide, if_false, chk, if_pos hi, hcl, e1, e4, within_in h3.1 h3.2, e5, if_pos (inbL (show 8 * c + p < 64 by omega) (by decide)), clL (show 8 * c + p < 2 ^ 31 by omega)]
        rw [q.2.2.2.2.2.2.2.2.2.2.2.2.2.2.1 p (by omega)]
    · refine ⟨-101, ?_, ?_, W, H, S, T, hR⟩
      · simp only [f_X11_route, hx, Option.bind_some, onR_s hc, places_eq e2 h2]
        by_cases h4 : 0 ≤ p2
        · rw [if_pos h4, if_pos]
          have : ¬ p2 ≤ nI (hp + 1) := fun z => h3 ⟨h4, z⟩
          rw [i_le, nI_toInt (by omega)] at this
          rw [i_le, nI_toInt (by omega)]
          omega
        · rw [if_neg h4]
      · simp only [f_X12_route, hm, Option.bind_some, show ¬ (1 : Int32) = 0 from by decide, if_false, chk, if_pos hi, hcl, e1, e4, within_out h3]; rfl
/-- the starts of a circuit, in their order -/
theorem start_both {W H S T k : Nat} {σ μ : St} (h : RelP W H S T k σ μ) {c n m : Nat} (hc : c < 8) (hl : live μ c) (en : μ.1 13 0 c = nI n) (hn : n ≤ 4) (hm : m < n) : ∃ r, f_X2_startAt σ c (nI m) = some r ∧ f_X12_startAt μ (nI c) (nI m) = some r := by
  obtain ⟨st, h1, h2, h3, e1, e2, e3, h4, h5⟩ := h.starts hc hl
  have e6 := (h.of_live hc hl).2.1.2.2.2.2.2.1
  rw [en, e3, popc_S S (by omega) st h3 h2] at e6
  have hpc : popc st 10 < 2 ^ 31 := by
    have : ∀ j, popc st j ≤ j := by
      intro j
      induction j with
      | zero => exact Nat.le_refl 0
      | succ j ih => unfold popc; split <;> omega
    have := this 10
    omega
  have e7 : n = popc st 10 := nI_inj (by omega) hpc e6
  have hne := nthB_ok st h3 m (by omega) (by omega)
  exact ⟨nthB st 10 m 0, startX e2 h3 10 m 0 FU (by omega) (FU_lt (by omega)) (by omega), startM hc e1 h3 10 m 0 FU (by omega) (FU_lt (by omega)) (by omega) hne⟩
theorem ok_start_Rel : ok_start Rel := by
  intro k σ μ hk ⟨W, H, S, T, hR0⟩ p1 p2
  have hR := hR0.mono
  rcases hR.circ p1 with ⟨hx, hm⟩ | ⟨c, hc, rfl, hl, hx, hm⟩
  · refine ⟨-101, ?_, ?_, W, H, S, T, hR⟩
    · simp only [f_X11_start, hx, Option.bind_some, onR_n]
    · simp only [f_X12_start, hm, Option.bind_some]; rfl
  · obtain ⟨q, o, -⟩ := hR.of_live hc hl
    obtain ⟨n, n1, n2, en⟩ := o.2.2.1
    have en2 : σ.1 2 c 5 = nI n := q.2.2.2.1.trans en
    have hi : inb (nI c) 8 := inbL hc (by decide)
    have hcl : Int32.toNatClampNeg (nI c) = c := clL (by omega)
    have e4 : nI n - 1 = nI (n - 1) := nI_sub (b := 1) n1
    by_cases h3 : 0 ≤ p2 ∧ p2 ≤ nI (n - 1)
    · have h4 := h3.2
      rw [i_le, nI_toInt (by omega)] at h4
      obtain ⟨m, hm2, rfl⟩ := nat_of (hi := n - 1) h3.1 h4
      obtain ⟨r, r1, r2⟩ := start_both hR hc hl en n2 (show m < n by omega)
      refine ⟨r, ?_, ?_, W, H, S, T, hR⟩
      · simp only [f_X11_start, hx, Option.bind_some, onR_s hc, if_pos h3.1, en2, if_neg (nI_ge (show m < n by omega) (show n < 2 ^ 31 by omega)), r1]
      · simp only [f_X12_start, hm, Option.bind_some, show ¬ (1 : Int32) = 0 from by decide, if_false, chk, if_pos hi, hcl, en, e4, within_in h3.1 h3.2, r2]
    · refine ⟨-101, ?_, ?_, W, H, S, T, hR⟩
      · simp only [f_X11_start, hx, Option.bind_some, onR_s hc, en2]
        by_cases h4 : 0 ≤ p2
        · rw [if_pos h4, if_pos]
          have : ¬ p2 ≤ nI (n - 1) := fun z => h3 ⟨h4, z⟩
          rw [i_le, nI_toInt (by omega)] at this
          rw [i_le, nI_toInt (by omega)]
          omega
        · rw [if_neg h4]
      · simp only [f_X12_start, hm, Option.bind_some, show ¬ (1 : Int32) = 0 from by decide, if_false, chk, if_pos hi, hcl, en, e4, within_out h3]; rfl
