/-! pair -/
theorem RCi.back {W H S T k : Nat} {σ μ σ2 μ2 : St} (h : RCi W H S T k σ μ) (x2 : ∀ e j, j ≠ 7 → σ2.1 2 e j = σ.1 2 e j) (x17 : σ2.1 17 = σ.1 17) (x18 : σ2.1 18 = σ.1 18) (m9 : MA μ2 μ 9 22) (m24 : μ2.1 24 = μ.1 24)
    (hb : ∀ e, e < 8 → live μ e → σ2.1 2 e 7 = μ2.1 23 0 e ∧ (μ2.1 23 0 e = -1 ∨ ∃ b, b < 8 ∧ b ≠ e ∧ μ2.1 23 0 e = nI b ∧ live μ b ∧ μ2.1 23 0 b = nI e)) : RCi W H S T k σ2 μ2 := by
  have m17 : MA μ2 μ 9 17 := m9.w (by omega) (by omega)
  intro e he
  obtain ⟨h1, h2, h3, h4⟩ := h e he
  refine ⟨by rw [x2 e 0 (by decide)]; exact h1, by rw [m9 9 (by omega) (by omega)]; exact h2, by rw [x2 e 1 (by decide), m9 9 (by omega) (by omega)]; exact h3, fun hl => ?_⟩
  rw [live.cg m17] at hl
  obtain ⟨g1, g2, g3⟩ := h4 hl
  obtain ⟨b1, b2⟩ := hb e he hl
  refine ⟨?_, ?_, g3⟩
  · unfold REq at g1 ⊢
    rw [x17, x18, hpN.cg m17, x2 e 2 (by decide), x2 e 3 (by decide), x2 e 4 (by decide), x2 e 5 (by decide), x2 e 6 (by decide), x2 e 8 (by decide), x2 e 9 (by decide), x2 e 10 (by decide), x2 e 11 (by decide), x2 e 12 (by decide), x2 e 13 (by decide), x2 e 14 (by decide), x2 e 15 (by decide), b1,
      m9 10 (by omega) (by omega), m9 11 (by omega) (by omega), m9 12 (by omega) (by omega), m9 13 (by omega) (by omega), m9 14 (by omega) (by omega), m9 15 (by omega) (by omega), m9 16 (by omega) (by omega), m9 17 (by omega) (by omega), m9 18 (by omega) (by omega), m9 19 (by omega) (by omega), m9 20 (by omega) (by omega), m9 21 (by omega) (by omega), m9 22 (by omega) (by omega), m24]
    obtain ⟨a1, a2, a3, a4, a5, a6, a7, a8, a9, a10, a11, a12, -, a14⟩ := g1
    exact ⟨a1, a2, a3, a4, a5, a6, a7, a8, a9, a10, a11, a12, rfl, a14⟩
  · unfold MOK at g2 ⊢
    simp only [live.cg m17]
    rw [hpN.cg m17, stN.cg m17, m9 10 (by omega) (by omega), m9 11 (by omega) (by omega), m9 12 (by omega) (by omega), m9 13 (by omega) (by omega), m9 15 (by omega) (by omega), m9 16 (by omega) (by omega), m9 17 (by omega) (by omega), m9 18 (by omega) (by omega), m9 21 (by omega) (by omega), m9 22 (by omega) (by omega), m24]
    obtain ⟨a1, a2, a3, a4, a5, a6, a7, a8, a9, a10, a11, -⟩ := g2
    exact ⟨a1, a2, a3, a4, a5, a6, a7, a8, a9, a10, a11, b2⟩
theorem RLt.back {S T : Nat} {σ μ σ2 μ2 : St} (h : RLt S T σ μ) (a : σ2.1 18 = σ.1 18) (m : MA μ2 μ 9 17) (m2 : MA μ2 μ 26 29) (b : μ2.1 0 0 25 = μ.1 0 0 25)
    (hb : ∀ n, μ.1 0 0 25 = nI n → n ≤ 64 → ∀ j c, j < n → c < 8 → μ.1 26 0 j = nI c → μ.1 23 0 c ≠ -1 → μ.1 29 0 j = 0 ∨ μ2.1 23 0 c ≠ -1) : RLt S T σ2 μ2 := by
  obtain ⟨n, hn, en, h1, h2, h3⟩ := h
  have e26 := m2 26 (by omega) (by omega)
  have e27 := m2 27 (by omega) (by omega)
  have e28 := m2 28 (by omega) (by omega)
  have e29 := m2 29 (by omega) (by omega)
  refine ⟨n, hn, b.trans en, fun j hj => ?_, ?_, fun c p hc hp hl hv => ?_⟩
  · obtain ⟨c, p, v, q1, q2, q3, q4, q5, q6, q7, q8, q9, q10⟩ := h1 j hj
    refine ⟨c, p, v, q1, by rw [live.cg m]; exact q2, q3, by rw [hpN.cg m]; exact q4, ?_, by rw [a]; exact q6, by rw [e28]; exact q7, by rw [e29]; exact q8, ?_, by rw [stN.cg m]; exact q10⟩
    · unfold letM at q5 ⊢
      rw [e26, e27, e28, e29]
      exact q5
    · rw [e29]
      rcases q9 with z | z
      · exact Or.inl z
      · exact hb n en hn j c hj q1 q5.1 z
  · rw [e26, e27]
    exact h2
  · rw [a] at hv ⊢
    rw [live.cg m] at hl
    obtain ⟨j, hj, q5⟩ := h3 c p hc hp hl hv
    refine ⟨j, hj, ?_⟩
    unfold letM at q5 ⊢
    rw [e26, e27, e28, e29]
    exact q5
theorem ok_pair_Rel : ok_pair Rel := by
  intro k σ μ hk ⟨W, H, S, T, hR0⟩ p1 p2
  have hR := hR0.mono
  have n10 : ¬ (1 : Int32) = 0 := by decide
  rcases hR.circ p1 with ⟨hx, hm⟩ | ⟨c, hc, rfl, hl, hx, hm⟩
  · refine ⟨σ, μ, -101, ?_, ?_, W, H, S, T, hR⟩
    · simp only [f_X11_pair, hx, Option.bind_some, onR_n]
      rcases hR.circ p2 with ⟨hx2, hm2⟩ | ⟨d, hd, -, -, hx2, -⟩
      · simp only [hx2, Option.bind_some, onR_n]
      · simp only [hx2, Option.bind_some, onR_s hd]
    · simp only [f_X12_pair, hm, Option.bind_some]; rfl
  · rcases hR.circ p2 with ⟨hx2, hm2⟩ | ⟨d, hd, rfl, hl2, hx2, hm2⟩
    · refine ⟨σ, μ, -101, ?_, ?_, W, H, S, T, hR⟩
      · simp only [f_X11_pair, hx, hx2, Option.bind_some, onR_s hc, onR_n]
      · simp only [f_X12_pair, hm, hm2, Option.bind_some, if_neg n10]; rfl
    · obtain ⟨q, o, -⟩ := hR.of_live hc hl
      obtain ⟨q', o', -⟩ := hR.of_live hd hl2
      have i1 : inb (nI c) 8 := inbL hc (by decide)
      have i2 : inb (nI d) 8 := inbL hd (by decide)
      have c1 : Int32.toNatClampNeg (nI c) = c := clL (by omega)
      have c2 : Int32.toNatClampNeg (nI d) = d := clL (by omega)
      by_cases hcd : c = d
      · subst hcd
        refine ⟨σ, μ, -101, ?_, ?_, W, H, S, T, hR⟩
        · simp only [f_X11_pair, hx, Option.bind_some, onR_s hc, if_true]
        · simp only [f_X12_pair, hm, Option.bind_some, if_neg n10, if_true]
      · have hne : ¬ nI c = nI d := fun z => hcd (nI_inj (by omega) (by omega) z)
        have n1 := (hR.2.2.2.2.1 c hc).1
        have n2 := (hR.2.2.2.2.1 d hd).1
        have b1 : σ.1 2 c 7 = μ.1 23 0 c := q.2.2.2.2.2.2.2.2.2.2.2.2.1
        have b2 : σ.1 2 d 7 = μ.1 23 0 d := q'.2.2.2.2.2.2.2.2.2.2.2.2.1
        by_cases hall : (μ.1 23 0 c = -1 ∧ μ.1 23 0 d = -1) ∧ μ.1 11 0 c = μ.1 12 0 d ∧ μ.1 12 0 c = μ.1 11 0 d
        · obtain ⟨⟨z1, z2⟩, z3, z4⟩ := hall
          have hrev : f_X2_isReverseOf σ c d = some 1 := by
            unfold f_X2_isReverseOf
            rw [q.2.1, q'.2.2.1, q.2.2.1, q'.2.1, if_pos z3, if_pos z4]
          refine ⟨si (si σ 2 c 7 (nI d)) 2 d 7 (nI c), si (si μ 23 0 c (nI d)) 23 0 d (nI c), μ.1 15 0 c + μ.1 15 0 d, ?_, ?_, W, H, S, T, ?_⟩
          · simp only [f_X11_pair, hx, hx2, Option.bind_some, onR_s hc, onR_s hd, if_neg hne, b1, b2, if_pos z1, if_pos z2, hrev, if_neg n10, bnd, n2]
            rw [si_j (show 0 ≠ 7 by decide), n1, si_j (show 6 ≠ 7 by decide), si_j (show 6 ≠ 7 by decide), si_j (show 6 ≠ 7 by decide), si_j (show 6 ≠ 7 by decide), q.2.2.2.2.2.1, q'.2.2.2.2.2.1]
          · simp only [f_X12_pair, hm, hm2, Option.bind_some, if_neg n10, if_neg hne, chk, if_pos i1, if_pos i2, c1, c2, if_pos z3, if_pos z4, if_pos z1, if_pos z2, bnd, si_k (show 15 ≠ 23 by decide)]
          · obtain ⟨g1, g2, g3, g4, g5, g6, g7, g8, g9, g10⟩ := hR
            have xa : ∀ a, a ≠ 2 → (si (si σ 2 c 7 (nI d)) 2 d 7 (nI c)).1 a = σ.1 a := fun a ha => (si_k ha).trans (si_k ha)
            have ma : ∀ a, a ≠ 23 → (si (si μ 23 0 c (nI d)) 23 0 d (nI c)).1 a = μ.1 a := fun a ha => (si_k ha).trans (si_k ha)
            have x7c : (si (si σ 2 c 7 (nI d)) 2 d 7 (nI c)).1 2 c 7 = nI d := by rw [si_i (show c ≠ d from hcd), si_eq]
            have m7c : (si (si μ 23 0 c (nI d)) 23 0 d (nI c)).1 23 0 c = nI d := by rw [si_j (show c ≠ d from hcd), si_eq]
            have x7d : (si (si σ 2 c 7 (nI d)) 2 d 7 (nI c)).1 2 d 7 = nI c := si_eq
            have m7d : (si (si μ 23 0 c (nI d)) 23 0 d (nI c)).1 23 0 d = nI c := si_eq
            have mo : ∀ e, e ≠ c → e ≠ d → (si (si μ 23 0 c (nI d)) 23 0 d (nI c)).1 23 0 e = μ.1 23 0 e := fun e h1 h2 => by rw [si_j h2, si_j h1]
            refine ⟨g1, g2, g3.cg (by rw [xa 5 (by decide)]) (xa 12 (by decide)) (by rw [ma 0 (by decide)]) (ma 8 (by decide)), g4.cg (by rw [xa 4 (by decide)]) (xa 1 (by decide)) (by rw [xa 11 (by decide)]) (xa 14 (by decide)) (xa 15 (by decide)) (fun j _ => by rw [ma 0 (by decide)]) (fun a h1 h2 => ma a (by omega)), ?_, g6.cg (xa 16 (by decide)) (fun a h1 h2 => ma a (by omega)), ?_, g8.cg (by rw [xa 8 (by decide)]) (xa 7 (by decide)) rfl (fun a h1 h2 => ma a (by omega)) (by rw [ma 0 (by decide)]), g9.cg (xa 0 (by decide)) (fun a h1 h2 => ma a (by omega)), by unfold R10 at g10 ⊢; rw [xa 10 (by decide), xa 20 (by decide), ma 0 (by decide)]; exact g10⟩
            · refine g5.back (fun e j hj => by rw [si_j hj, si_j hj]) (xa 17 (by decide)) (xa 18 (by decide)) (fun a h1 h2 => ma a (by omega)) (ma 24 (by decide)) (fun e he hle => ?_)
              by_cases e1 : e = c
              · subst e1
                exact ⟨x7c.trans m7c.symm, Or.inr ⟨d, hd, fun z => hcd z.symm, m7c, hl2, m7d⟩⟩
              · by_cases e2 : e = d
                · subst e2
                  exact ⟨x7d.trans m7d.symm, Or.inr ⟨c, hc, hcd, m7d, hl, m7c⟩⟩
                · have g := (g5 e he).2.2.2 hle
                  refine ⟨?_, ?_⟩
                  · rw [si_i e2, si_i e1, mo e e1 e2]
                    exact g.1.2.2.2.2.2.2.2.2.2.2.2.2.1
                  · rw [mo e e1 e2]
                    rcases g.2.1.2.2.2.2.2.2.2.2.2.2.2 with z | ⟨b, hb, hbe, z, lb, zb⟩
                    · exact Or.inl z
                    · right
                      have hbc : b ≠ c := fun y => by subst y; rw [z1] at zb; exact nI_nm1 (show e < 2 ^ 31 by omega) zb.symm
                      have hbd : b ≠ d := fun y => by subst y; rw [z2] at zb; exact nI_nm1 (show e < 2 ^ 31 by omega) zb.symm
                      exact ⟨b, hb, hbe, z, lb, by rw [mo b hbc hbd]; exact zb⟩
            · refine g7.back (xa 18 (by decide)) (fun a h1 h2 => ma a (by omega)) (fun a h1 h2 => ma a (by omega)) (by rw [ma 0 (by decide)]) (fun n en hn j e hj he ej ne => ?_)
              right
              by_cases e1 : e = c
              · subst e1; rw [m7c]; exact nI_nm1 (by omega)
              · by_cases e2 : e = d
                · subst e2; rw [m7d]; exact nI_nm1 (by omega)
                · rw [mo e e1 e2]; exact ne
        · refine ⟨σ, μ, -103, ?_, ?_, W, H, S, T, hR⟩
          · simp only [f_X11_pair, hx, hx2, Option.bind_some, onR_s hc, onR_s hd, if_neg hne, b1, b2, f_X2_isReverseOf, q.2.1, q'.2.2.1, q.2.2.1, q'.2.1]
            by_cases z1 : μ.1 23 0 c = -1
            · by_cases z2 : μ.1 23 0 d = -1
              · rw [if_pos z1, if_pos z2]
                by_cases z3 : μ.1 11 0 c = μ.1 12 0 d
                · by_cases z4 : μ.1 12 0 c = μ.1 11 0 d
                  · exact absurd ⟨⟨z1, z2⟩, z3, z4⟩ hall
                  · rw [if_pos z3, if_neg z4]; rfl
                · rw [if_neg z3]; rfl
              · rw [if_pos z1, if_neg z2]
            · rw [if_neg z1]
          · simp only [f_X12_pair, hm, hm2, Option.bind_some, if_neg n10, if_neg hne, chk, if_pos i1, if_pos i2, c1, c2]
            by_cases z1 : μ.1 23 0 c = -1
            · by_cases z2 : μ.1 23 0 d = -1
              · by_cases z3 : μ.1 11 0 c = μ.1 12 0 d
                · by_cases z4 : μ.1 12 0 c = μ.1 11 0 d
                  · exact absurd ⟨⟨z1, z2⟩, z3, z4⟩ hall
                  · simp [z1, z2, z3, z4]
                · simp [z1, z2, z3]
              · simp [z1, z2]
            · simp [z1]
