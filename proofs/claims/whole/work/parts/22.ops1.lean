/-! what a part of the relation speaks of -/
theorem si_eq {σ : St} {k i j : Nat} {v : Int32} : (si σ k i j v).1 k i j = v := by simp [si]
theorem si_ne {σ : St} {k i j a b c : Nat} {v : Int32} (h : ¬ (a = k ∧ b = i ∧ c = j)) : (si σ k i j v).1 a b c = σ.1 a b c := by simp only [si]; rw [if_neg h]
theorem si_k {σ : St} {k i j a : Nat} {v : Int32} (h : a ≠ k) : (si σ k i j v).1 a = σ.1 a := by funext b c; exact si_ne (fun z => h z.1)
theorem si_i {σ : St} {k i j a b : Nat} {v : Int32} (h : b ≠ i) : (si σ k i j v).1 a b = σ.1 a b := by funext c; exact si_ne (fun z => h z.2.1)
theorem si_j {σ : St} {k i j a b c : Nat} {v : Int32} (h : c ≠ j) : (si σ k i j v).1 a b c = σ.1 a b c := si_ne (fun z => h z.2.2)
def MA (μ2 μ : St) (lo hi : Nat) : Prop := ∀ a, lo ≤ a → a ≤ hi → μ2.1 a = μ.1 a
theorem MA.rf {μ : St} {lo hi : Nat} : MA μ μ lo hi := fun _ _ _ => rfl
theorem MA.si {μ μ2 : St} {lo hi k i j : Nat} {v : Int32} (h : MA μ2 μ lo hi) (hk : k < lo ∨ hi < k) : MA (si μ2 k i j v) μ lo hi := fun a h1 h2 => (si_k (by omega)).trans (h a h1 h2)
theorem RPg.cg {σ μ σ2 μ2 : St} (a : σ2.1 5 0 0 = σ.1 5 0 0) (b : σ2.1 12 = σ.1 12) (c : μ2.1 0 0 7 = μ.1 0 0 7) (d : μ2.1 8 = μ.1 8) (h : RPg σ μ) : RPg σ2 μ2 := by
  unfold RPg at h ⊢
  rw [a, b, c, d]
  exact h
theorem RGr.cg {W H S T : Nat} {σ μ σ2 μ2 : St} (a : σ2.1 4 1 = σ.1 4 1) (b : σ2.1 1 = σ.1 1) (c : σ2.1 11 1 = σ.1 11 1) (d : σ2.1 14 = σ.1 14) (e : σ2.1 15 = σ.1 15) (m : ∀ j, j < 4 → μ2.1 0 0 j = μ.1 0 0 j) (m5 : MA μ2 μ 5 6) (h : RGr W H S T σ μ) : RGr W H S T σ2 μ2 := by
  unfold RGr at h ⊢
  rw [a, b, c, d, e, m 0 (by omega), m 1 (by omega), m 2 (by omega), m 3 (by omega), m5 5 (by omega) (by omega), m5 6 (by omega) (by omega)]
  exact h
theorem live.cg {μ μ2 : St} (m : MA μ2 μ 9 17) (c : Nat) : live μ2 c = live μ c := by unfold live; rw [m 9 (by omega) (by omega)]
theorem hpN.cg {μ μ2 : St} (m : MA μ2 μ 9 17) (c : Nat) : hpN μ2 c = hpN μ c := by unfold hpN; rw [m 15 (by omega) (by omega)]
theorem stN.cg {μ μ2 : St} (m : MA μ2 μ 9 17) (c : Nat) : stN μ2 c = stN μ c := by unfold stN; rw [m 17 (by omega) (by omega)]
theorem hasS.cg {μ μ2 : St} (m : MA μ2 μ 9 17) (S c l s : Nat) : hasS μ2 S c l s = hasS μ S c l s := by unfold hasS; simp only [hpN.cg m, stN.cg m]; rw [m 16 (by omega) (by omega)]
theorem MA.w {μ μ2 : St} {a b c d : Nat} (m : MA μ2 μ a b) (h1 : a ≤ c) (h2 : d ≤ b) : MA μ2 μ c d := fun x h3 h4 => m x (by omega) (by omega)
theorem REq.cg {σ μ σ2 μ2 : St} {c : Nat} (a : σ2.1 2 c = σ.1 2 c) (b : σ2.1 17 c = σ.1 17 c) (d : σ2.1 18 c = σ.1 18 c) (m : MA μ2 μ 9 24) (h : REq σ μ c) : REq σ2 μ2 c := by
  unfold REq at h ⊢
  rw [a, b, d, hpN.cg (m.w (by omega) (by omega)), m 10 (by omega) (by omega), m 11 (by omega) (by omega), m 12 (by omega) (by omega), m 13 (by omega) (by omega), m 14 (by omega) (by omega), m 15 (by omega) (by omega), m 16 (by omega) (by omega), m 17 (by omega) (by omega), m 18 (by omega) (by omega), m 19 (by omega) (by omega), m 20 (by omega) (by omega), m 21 (by omega) (by omega), m 22 (by omega) (by omega), m 23 (by omega) (by omega), m 24 (by omega) (by omega)]
  exact h
theorem MOK.cg {W H S T k : Nat} {μ μ2 : St} {c : Nat} (m : MA μ2 μ 9 24) (h : MOK W H S T k μ c) : MOK W H S T k μ2 c := by
  unfold MOK at h ⊢
  simp only [live.cg (m.w (by omega) (by omega))]
  rw [hpN.cg (m.w (by omega) (by omega)), stN.cg (m.w (by omega) (by omega)), m 10 (by omega) (by omega), m 11 (by omega) (by omega), m 12 (by omega) (by omega), m 13 (by omega) (by omega), m 15 (by omega) (by omega), m 16 (by omega) (by omega), m 17 (by omega) (by omega), m 18 (by omega) (by omega), m 21 (by omega) (by omega), m 22 (by omega) (by omega), m 23 (by omega) (by omega), m 24 (by omega) (by omega)]
  exact h
theorem RCi.cg {W H S T k : Nat} {σ μ σ2 μ2 : St} (a : σ2.1 2 = σ.1 2) (b : σ2.1 17 = σ.1 17) (d : σ2.1 18 = σ.1 18) (m : MA μ2 μ 9 24) (h : RCi W H S T k σ μ) : RCi W H S T k σ2 μ2 := by
  intro c hc
  obtain ⟨h1, h2, h3, h4⟩ := h c hc
  refine ⟨by rw [a]; exact h1, by rw [m 9 (by omega) (by omega)]; exact h2, by rw [a, m 9 (by omega) (by omega)]; exact h3, fun hl => ?_⟩
  rw [live.cg (m.w (by omega) (by omega))] at hl
  exact ⟨(h4 hl).1.cg (by rw [a]) (by rw [b]) (by rw [d]) m, (h4 hl).2.1.cg m, (h4 hl).2.2⟩
theorem ROw.cg {S : Nat} {σ μ σ2 μ2 : St} (a : σ2.1 16 = σ.1 16) (m : MA μ2 μ 9 17) (h : ROw S σ μ) : ROw S σ2 μ2 := by
  unfold ROw at h ⊢
  simp only [live.cg m, hasS.cg m]
  rw [a]
  exact h
theorem RLt.cg {S T : Nat} {σ μ σ2 μ2 : St} (a : σ2.1 18 = σ.1 18) (m : MA μ2 μ 9 17) (m23 : μ2.1 23 = μ.1 23) (m2 : MA μ2 μ 26 29) (b : μ2.1 0 0 25 = μ.1 0 0 25) (h : RLt S T σ μ) : RLt S T σ2 μ2 := by
  unfold RLt letM at h ⊢
  simp only [live.cg m, hpN.cg m, stN.cg m]
  rw [a, b, m23, m2 26 (by omega) (by omega), m2 27 (by omega) (by omega), m2 28 (by omega) (by omega), m2 29 (by omega) (by omega)]
  exact h
theorem RSt.cg {W H T : Nat} {σ μ σ2 μ2 : St} (a : σ2.1 8 0 0 = σ.1 8 0 0) (b : σ2.1 7 = σ.1 7) (d : σ2.2.1 = σ.2.1) (m : MA μ2 μ 31 35) (e : μ2.1 0 0 30 = μ.1 0 0 30) (h : RSt W H T σ μ) : RSt W H T σ2 μ2 := by
  unfold RSt at h ⊢
  rw [a, b, d, e, m 31 (by omega) (by omega), m 32 (by omega) (by omega), m 33 (by omega) (by omega), m 34 (by omega) (by omega), m 35 (by omega) (by omega)]
  exact h
theorem RAr.cg {σ μ σ2 μ2 : St} (a : σ2.1 0 = σ.1 0) (m : MA μ2 μ 36 38) (h : RAr σ μ) : RAr σ2 μ2 := by
  unfold RAr at h ⊢
  rw [a, m 36 (by omega) (by omega), m 37 (by omega) (by omega), m 38 (by omega) (by omega)]
  exact h
/-- what the relation does not speak of may change -/
theorem RelP.cg {W H S T k : Nat} {σ μ σ2 μ2 : St} (h : RelP W H S T k σ μ) (x5 : σ2.1 5 0 0 = σ.1 5 0 0) (x12 : σ2.1 12 = σ.1 12) (x4 : σ2.1 4 1 = σ.1 4 1) (x1 : σ2.1 1 = σ.1 1) (x11 : σ2.1 11 1 = σ.1 11 1) (x14 : MA σ2 σ 14 20) (x2 : σ2.1 2 = σ.1 2) (x8 : σ2.1 8 0 0 = σ.1 8 0 0) (x7 : σ2.1 7 = σ.1 7) (xl : σ2.2.1 = σ.2.1) (x0 : σ2.1 0 = σ.1 0) (x10 : σ2.1 10 = σ.1 10)
    (m0 : ∀ j, j < 39 → μ2.1 0 0 j = μ.1 0 0 j) (m : MA μ2 μ 5 38) : RelP W H S T k σ2 μ2 := by
  obtain ⟨h1, h2, h3, h4, h5, h6, h7, h8, h9, h10⟩ := h
  have m9 : MA μ2 μ 9 24 := fun a b c => m a (by omega) (by omega)
  refine ⟨h1, h2, h3.cg x5 x12 (m0 7 (by omega)) (m 8 (by omega) (by omega)), h4.cg x4 x1 x11 (x14 14 (by omega) (by omega)) (x14 15 (by omega) (by omega)) (fun j hj => m0 j (by omega)) (fun a b c => m a (by omega) (by omega)),
    h5.cg x2 (x14 17 (by omega) (by omega)) (x14 18 (by omega) (by omega)) m9, h6.cg (x14 16 (by omega) (by omega)) (m9.w (by omega) (by omega)), h7.cg (x14 18 (by omega) (by omega)) (m9.w (by omega) (by omega)) (m9 23 (by omega) (by omega)) (fun a b c => m a (by omega) (by omega)) (m0 25 (by omega)),
    h8.cg x8 x7 xl (fun a b c => m a (by omega) (by omega)) (m0 30 (by omega)), h9.cg x0 (fun a b c => m a (by omega) (by omega)), ?_⟩
  unfold R10 at h10 ⊢
  rw [x10, m0 4 (by omega), x14 20 (by omega) (by omega)]
  exact h10
theorem RelP.mono {W H S T k : Nat} {σ μ : St} (h : RelP W H S T k σ μ) : RelP W H S T (k + 1) σ μ := by
  obtain ⟨h1, h2, h3, h4, h5, h6⟩ := h
  exact ⟨h1, by omega, h3, h4, h5.mono, h6⟩
/-- the page alone has changed -/
theorem RelP.page {W H S T k : Nat} {σ μ : St} (h : RelP W H S T k σ μ) {σ2 μ2 : St} (x5 : MA σ2 σ 0 4) (x6 : MA σ2 σ 6 11) (x12 : MA σ2 σ 13 20) (xl : σ2.2.1 = σ.2.1) (m0 : ∀ j, j < 39 → j ≠ 7 → μ2.1 0 0 j = μ.1 0 0 j) (m : MA μ2 μ 5 7) (m2 : MA μ2 μ 9 38) (hp : RPg σ2 μ2) : RelP W H S T k σ2 μ2 := by
  obtain ⟨h1, h2, h3, h4, h5, h6, h7, h8, h9, h10⟩ := h
  have m9 : MA μ2 μ 9 24 := fun a b c => m2 a (by omega) (by omega)
  refine ⟨h1, h2, hp, h4.cg (by rw [x5 4 (by omega) (by omega)]) (x5 1 (by omega) (by omega)) (by rw [x6 11 (by omega) (by omega)]) (x12 14 (by omega) (by omega)) (x12 15 (by omega) (by omega)) (fun j hj => m0 j (by omega) (by omega)) (fun a b c => m a (by omega) (by omega)),
    h5.cg (x5 2 (by omega) (by omega)) (x12 17 (by omega) (by omega)) (x12 18 (by omega) (by omega)) m9, h6.cg (x12 16 (by omega) (by omega)) (m9.w (by omega) (by omega)), h7.cg (x12 18 (by omega) (by omega)) (m9.w (by omega) (by omega)) (m9 23 (by omega) (by omega)) (fun a b c => m2 a (by omega) (by omega)) (m0 25 (by omega) (by omega)),
    h8.cg (by rw [x6 8 (by omega) (by omega)]) (x6 7 (by omega) (by omega)) xl (fun a b c => m2 a (by omega) (by omega)) (m0 30 (by omega) (by omega)), h9.cg (x5 0 (by omega) (by omega)) (fun a b c => m2 a (by omega) (by omega)), ?_⟩
  unfold R10 at h10 ⊢
  rw [x6 10 (by omega) (by omega), m0 4 (by omega) (by omega), x12 20 (by omega) (by omega)]
  exact h10
/-! letter, blank -/
theorem ok_letter_Rel : ok_letter Rel := by
  intro k σ μ hk ⟨W, H, S, T, hR⟩ p
  have hR := hR.mono
  obtain ⟨⟨P, -, hP, e1⟩, e2, hc⟩ := hR.2.2.1
  have e3 : μ.1 0 0 7 = nI P := e2.trans e1
  by_cases h1 : 32 ≤ p ∧ p ≤ 126
  · have hn : ¬ 126 < p := Int32.not_lt.mpr h1.2
    by_cases h2 : P = 30
    · subst h2
      refine ⟨σ, μ, -104, ?_, ?_, W, H, S, T, hR⟩
      · have a1 : f_X5_add σ p = some (σ, 0) := by
          unfold f_X5_add
          rw [e1, if_pos (by decide), if_pos (by decide)]
        simp only [f_X11_letter, if_pos h1.1, if_neg hn, a1]
        rfl
      · simp only [f_X12_letter, within_in h1.1 h1.2, Option.bind_some]
        rw [e3, if_neg (by decide), if_pos (by rfl)]
    · have hlt : P < 30 := by omega
      refine ⟨si (si σ 12 0 P p) 5 0 0 (nI (P + 1)), si (si μ 8 0 P p) 0 0 7 (nI (P + 1)), nI (P + 1), ?_, ?_, W, H, S, T, ?_⟩
      · have a1 : f_X5_add σ p = some (si (si σ 12 0 P p) 5 0 0 (nI (P + 1)), 1) := by
          unfold f_X5_add
          rw [e1, if_pos (nI_pos' (by omega)), if_neg (nleL 30 30 rfl hlt (by decide)), clL (by omega)]
          simp only [chk, if_pos (inbL hlt (by decide)), bnd, si_k (show 5 ≠ 12 by decide), e1, nI_1]
        simp only [f_X11_letter, if_pos h1.1, if_neg hn, a1, Option.bind_some, si_eq]
        rfl
      · simp only [f_X12_letter, within_in h1.1 h1.2, Option.bind_some]
        rw [e3, if_neg (by decide), if_neg (neL 30 30 rfl h2 (by omega) (by decide)), clL (by omega)]
        simp only [chk, if_pos (inbL hlt (by decide)), bnd, si_k (show 0 ≠ 8 by decide), e3, nI_1, si_eq]
      · refine hR.page ((MA.rf.si (by omega)).si (by omega)) ((MA.rf.si (by omega)).si (by omega)) ((MA.rf.si (by omega)).si (by omega)) rfl (fun j hj h7 => by rw [si_j h7, si_k (by decide)]) ((MA.rf.si (by omega)).si (by omega)) ((MA.rf.si (by omega)).si (by omega)) ?_
        have q1 : (si (si σ 12 0 P p) 5 0 0 (nI (P + 1))).1 5 0 0 = nI (P + 1) := si_eq
        refine ⟨⟨P + 1, by omega, by omega, q1⟩, by rw [q1, si_eq], ?_⟩
        rw [q1]
        intro j hj
        unfold nN at hj hc
        rw [clL (by omega)] at hj
        rw [e1, clL (by omega)] at hc
        rw [si_k (show 12 ≠ 5 by decide), si_k (show 8 ≠ 0 by decide)]
        by_cases hjP : j = P
        · subst hjP
          rw [si_eq, si_eq]
          have i1 := h1.1
          have i2 := h1.2
          rw [i_le] at i1 i2
          rw [show (32 : Int32).toInt = 32 from by decide] at i1
          rw [show (126 : Int32).toInt = 126 from by decide] at i2
          exact ⟨rfl, p.toInt.toNat, by omega, by omega, of_toInt (by omega)⟩
        · rw [si_j hjP, si_j hjP]
          exact hc j (by omega)
  · refine ⟨σ, μ, -102, ?_, ?_, W, H, S, T, hR⟩
    · unfold f_X11_letter
      by_cases h2 : 32 ≤ p
      · rw [if_pos h2, if_pos (Int32.not_le.mp (fun h3 => h1 ⟨h2, h3⟩))]
      · rw [if_neg h2]
    · simp only [f_X12_letter, within_out h1, Option.bind_some]
      rfl
theorem ok_blank_Rel : ok_blank Rel := by
  intro k σ μ hk ⟨W, H, S, T, hR⟩
  have hR := hR.mono
  obtain ⟨hb, e2, hc⟩ := hR.2.2.1
  refine ⟨si σ 5 0 0 0, si μ 0 0 7 0, σ.1 5 0 0, rfl, by simp only [f_X12_blank, bnd, e2], W, H, S, T, ?_⟩
  refine hR.page (MA.rf.si (by omega)) (MA.rf.si (by omega)) (MA.rf.si (by omega)) rfl (fun j hj h7 => by rw [si_j h7]) (MA.rf.si (by omega)) (MA.rf.si (by omega)) ?_
  have q1 : (si σ 5 0 0 0).1 5 0 0 = nI 0 := si_eq
  refine ⟨⟨0, by omega, by omega, q1⟩, by rw [q1, si_eq]; rfl, ?_⟩
  rw [q1]
  intro j hj
  unfold nN at hj
  rw [clL (by omega)] at hj
  omega
