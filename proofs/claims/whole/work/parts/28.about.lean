/-! link, slot, cut, about -/
theorem chip_iff {W H S : Nat} (h : okWHS W H S) : (0 < W ↔ 0 < S) ∧ (0 < H ↔ 0 < S) := by
  rcases h with ⟨rfl, rfl, rfl⟩ | ⟨rfl | rfl, rfl | rfl, h, -⟩ <;> omega
theorem RelP.usesR {W H S T k : Nat} {σ μ : St} (h : RelP W H S T k σ μ) {l : Nat} (hl : l < 54) : σ.1 15 0 l = μ.1 6 0 l := (h.2.2.2.1.2.2.2.2.2.2.2.2.2.2 l hl).1
theorem RelP.brokR {W H S T k : Nat} {σ μ : St} (h : RelP W H S T k σ μ) {l : Nat} (hl : l < 54) : σ.1 14 0 l = μ.1 5 0 l := (h.2.2.2.1.2.2.2.2.2.2.2.2.2.1 l hl).1
theorem RelP.endR {W H S T k : Nat} {σ μ : St} (h : RelP W H S T k σ μ) {l : Nat} (hl : l < 54) : σ.1 11 1 l = endV W H l := h.2.2.2.1.2.2.2.2.2.2.2.2.1 l hl
theorem tellLink_eq {W H S T k : Nat} {σ μ : St} (h : RelP W H S T k σ μ) {l : Nat} (hl : l < 54) (he : endV W H l ≠ -2) (p2 : Int32) : ∃ r, f_X1_tellLink σ (nI l) p2 = some r ∧ f_X12_linkNow μ (nI l) p2 = some r := by
  have hi : inb (nI l) 54 := inbL hl (by decide)
  have hc : Int32.toNatClampNeg (nI l) = l := clL (by omega)
  have hg := h.2.2.2.1
  by_cases q0 : p2 = 0
  · refine ⟨endV W H l, ?_, ?_⟩
    · simp only [f_X1_tellLink, if_pos q0, endOf_eq hl (by rw [h.endR hl]; exact he), Option.bind_some, h.endR hl]
    · simp only [f_X12_linkNow, if_pos q0, div6 hl, rem6 hl, hg.2.2.2.2.1, hg.2.2.2.2.2.1, leads_at h.1 hl (endV_in he), Option.bind_some, if_neg he]
  · by_cases q1 : p2 = 1
    · refine ⟨if μ.1 5 0 l = 0 then 0 else 1, ?_, ?_⟩
      · simp only [f_X1_tellLink, if_neg q0, if_pos q1, isBroken_eq hl, Option.bind_some, h.brokR hl]
        by_cases z : μ.1 5 0 l = 0 <;> simp [z]
      · simp only [f_X12_linkNow, if_neg q0, if_pos q1, chk, if_pos hi, hc]
        by_cases z : μ.1 5 0 l = 0 <;> simp [z]
    · by_cases q2 : p2 = 2
      · refine ⟨nI (hadN σ S l), ?_, ?_⟩
        · simp only [f_X1_tellLink, if_neg q0, if_neg q1, if_pos q2, hadX hg.2.2.1 h.1.S10 hl, Option.bind_some]
        · simp only [f_X12_linkNow, if_neg q0, if_neg q1, if_pos q2, hadM h hl, Option.bind_some]
      · refine ⟨μ.1 6 0 l, ?_, ?_⟩
        · simp only [f_X1_tellLink, if_neg q0, if_neg q1, if_neg q2, isLN hl, Option.bind_some, show ¬ (1 : Int32) = 0 from by decide, if_false, chk, if_pos hi, hc, h.usesR hl]
        · simp only [f_X12_linkNow, if_neg q0, if_neg q1, if_neg q2, chk, if_pos hi, hc]
theorem ok_link_Rel : ok_link Rel := by
  intro k σ μ hk ⟨W, H, S, T, hR0⟩ p1 p2
  have hR := hR0.mono
  rcases hR.link p1 with ⟨hx, hm⟩ | ⟨l, hl, rfl, he, hx, hm⟩
  · refine ⟨-101, ?_, ?_, W, H, S, T, hR⟩
    · simp only [f_X11_link, hx, Option.bind_some]; rfl
    · simp only [f_X12_link, hm, Option.bind_some]; rfl
  · obtain ⟨r, r1, r2⟩ := tellLink_eq hR hl he p2
    by_cases h1 : 0 ≤ p2 ∧ p2 ≤ 3
    · refine ⟨r, ?_, ?_, W, H, S, T, hR⟩
      · simp only [f_X11_link, hx, Option.bind_some, show ¬ (1 : Int32) = 0 from by decide, if_false, if_pos h1.1, if_neg (Int32.not_lt.mpr h1.2), r1]
      · simp only [f_X12_link, hm, Option.bind_some, show ¬ (1 : Int32) = 0 from by decide, if_false, within_in h1.1 h1.2, r2]
    · refine ⟨-102, ?_, ?_, W, H, S, T, hR⟩
      · simp only [f_X11_link, hx, Option.bind_some, show ¬ (1 : Int32) = 0 from by decide, if_false]
        by_cases h2 : 0 ≤ p2
        · rw [if_pos h2, if_pos (Int32.not_le.mp (fun z => h1 ⟨h2, z⟩))]
        · rw [if_neg h2]
      · simp only [f_X12_link, hm, Option.bind_some, show ¬ (1 : Int32) = 0 from by decide, if_false, within_out h1]; rfl
theorem ok_slot_Rel : ok_slot Rel := by
  intro k σ μ hk ⟨W, H, S, T, hR0⟩ p1 p2
  have hR := hR0.mono
  have hg := hR.2.2.2.1
  rcases hR.link p1 with ⟨hx, hm⟩ | ⟨l, hl, rfl, he, hx, hm⟩
  · refine ⟨-101, ?_, ?_, W, H, S, T, hR⟩
    · simp only [f_X11_slot, hx, Option.bind_some]; rfl
    · simp only [f_X12_slot, hm, Option.bind_some]; rfl
  · have h10 := hR.1.S10
    have hS : 0 < S := by
      have := endV_in he
      exact (chip_iff hR.1).1.mp (by rcases Nat.eq_zero_or_pos W with e | e <;> simp_all)
    have e1 : nI S - 1 = nI (S - 1) := nI_sub (b := 1) hS
    by_cases h1 : 0 ≤ p2 ∧ p2 ≤ nI (S - 1)
    · have h2 := h1.2
      rw [i_le, nI_toInt (by omega)] at h2
      obtain ⟨s, hs, rfl⟩ := nat_of (hi := S - 1) h1.1 h2
      refine ⟨σ.1 16 0 (10 * l + s), ?_, ?_, W, H, S, T, hR⟩
      · simp only [f_X11_slot, hx, Option.bind_some, show ¬ (1 : Int32) = 0 from by decide, if_false, if_pos h1.1, hg.2.2.1, if_neg (nI_ge (show s < S by omega) (show S < 2 ^ 31 by omega)), ownerX_eq hl (show s < 10 by omega)]
      · simp only [f_X12_slot, hm, Option.bind_some, show ¬ (1 : Int32) = 0 from by decide, if_false, hg.2.2.2.2.2.2.1, e1, within_in h1.1 h1.2, ownerOf_eq hR.mok hl (show s < 10 by omega), ← hR.owner hS hl (show s < S by omega)]
    · refine ⟨-101, ?_, ?_, W, H, S, T, hR⟩
      · simp only [f_X11_slot, hx, Option.bind_some, show ¬ (1 : Int32) = 0 from by decide, if_false, hg.2.2.1]
        by_cases h2 : 0 ≤ p2
        · rw [if_pos h2, if_pos]
          have : ¬ p2 ≤ nI (S - 1) := fun z => h1 ⟨h2, z⟩
          rw [i_le, nI_toInt (by omega)] at this
          rw [i_le, nI_toInt (by omega)]
          omega
        · rw [if_neg h2]
      · simp only [f_X12_slot, hm, Option.bind_some, show ¬ (1 : Int32) = 0 from by decide, if_false, hg.2.2.2.2.2.2.1, e1, within_out h1]
        rfl
def cntI (f : Nat → Bool) (n : Nat) : Nat := ((List.range n).filter f).length
theorem brokenX (σ : St) : f_X1_brokenLinks σ = some (nI (cntI (fun l => decide (σ.1 14 0 l ≠ 0)) 54)) := by
  have key := loopM (A := Nat) (fun n b v => f_X1_brokenLinks_L4 σ n (nI b) v) (fun m t b => some (nI (b + ((List.range' t m).filter (fun l => decide (σ.1 14 0 l ≠ 0))).length))) 54 ?_ ?_ 54 0 FU 0 (by omega) (FU_lt (by omega))
  · unfold cntI
    rw [List.range_eq_range']
    rw [Nat.zero_add] at key
    exact key
  · intro n' m t a ht ih
    show f_X1_brokenLinks_L4b σ (f_X1_brokenLinks_L4 σ n') (nI a) (nI t) = _
    have ih2 : ∀ b, f_X1_brokenLinks_L4 σ n' (nI b) (nI (t + 1)) = _ := ih
    simp only [f_X1_brokenLinks_L4b, if_pos (ltL 54 54 rfl (show t < 54 by omega) (by decide)), chk, if_pos (inbL (show t < 54 by omega) (show 54 < 2 ^ 31 by decide)), clL (show t < 2 ^ 31 by omega), nI_1, ih2, List.range'_succ]
    by_cases q : σ.1 14 0 t = 0
    · simp [q]
    · simp [q]
      congr 1
      omega
  · intro n' a
    show f_X1_brokenLinks_L4b σ (f_X1_brokenLinks_L4 σ n') (nI a) (nI 54) = _
    simp only [f_X1_brokenLinks_L4b]
    rw [if_neg (show ¬ nI 54 < 54 from by decide)]
    simp
theorem brokenM (μ : St) : f_X12_brokenMany μ = some (nI (cntI (fun l => decide (μ.1 5 0 l ≠ 0)) 54)) := by
  have key := loopM (A := Nat) (fun n b v => f_X12_brokenMany_L4 μ n (nI b) v) (fun m t b => some (nI (b + ((List.range' t m).filter (fun l => decide (μ.1 5 0 l ≠ 0))).length))) 54 ?_ ?_ 54 0 FU 0 (by omega) (FU_lt (by omega))
  · unfold cntI
    rw [List.range_eq_range']
    rw [Nat.zero_add] at key
    exact key
  · intro n' m t a ht ih
    show f_X12_brokenMany_L4b μ (f_X12_brokenMany_L4 μ n') (nI a) (nI t) = _
    have ih2 : ∀ b, f_X12_brokenMany_L4 μ n' (nI b) (nI (t + 1)) = _ := ih
    simp only [f_X12_brokenMany_L4b, if_pos (ltL 54 54 rfl (show t < 54 by omega) (by decide)), chk, if_pos (inbL (show t < 54 by omega) (show 54 < 2 ^ 31 by decide)), clL (show t < 2 ^ 31 by omega), nI_1, Int32.add_zero, ih2, List.range'_succ]
    by_cases q : μ.1 5 0 t = 0
    · simp [q]
    · simp [q]
      congr 1
      omega
  · intro n' a
    show f_X12_brokenMany_L4b μ (f_X12_brokenMany_L4 μ n') (nI a) (nI 54) = _
    simp only [f_X12_brokenMany_L4b]
    rw [if_neg (show ¬ nI 54 < 54 from by decide)]
    simp
theorem cntI_cg {f g : Nat → Bool} {n : Nat} (h : ∀ l, l < n → f l = g l) : cntI f n = cntI g n := by
  unfold cntI
  rw [List.filter_congr (fun l hl => h l (List.mem_range.mp hl))]
theorem ok_cut_Rel : ok_cut Rel := by
  intro k σ μ hk ⟨W, H, S, T, hR0⟩ p1 p2 hz
  have hR := hR0.mono
  rcases hR.link p1 with ⟨hx, hm⟩ | ⟨l, hl, rfl, he, hx, hm⟩
  · refine ⟨σ, μ, -101, ?_, ?_, W, H, S, T, hR⟩
    · simp only [f_X11_cut, f_X4_hasInnerLink, hx, Option.bind_some]; rfl
    · simp only [f_X12_cut, hm, Option.bind_some]; rfl
  · have n10 : ¬ (1 : Int32) = 0 := by decide
    have hi : inb (nI l) 54 := inbL hl (by decide)
    have hc : Int32.toNatClampNeg (nI l) = l := clL (by omega)
    by_cases h2 : 2 ≤ l % 6
    · have hin : f_X4_hasInnerLink σ 1 (nI l) = some 1 := by simp only [f_X4_hasInnerLink, hx, Option.bind_some, if_neg n10, rem6 hl, if_pos (leL 2 2 rfl h2 (show l % 6 < 2 ^ 31 by omega))]
      have hb : f_X1_isBroken σ (nI l) = some (μ.1 5 0 l) := by
        rw [isBroken_eq hl, hR.brokR hl]
        rcases (hR.2.2.2.1.2.2.2.2.2.2.2.2.2.1 l hl).2 with e | e <;> rw [e] <;> rfl
      have hlt : ¬ nI (l % 6) < 2 := nltL 2 2 rfl h2 (by omega)
      by_cases h3 : μ.1 5 0 l = p2
      · refine ⟨σ, μ, -103, ?_, ?_, W, H, S, T, hR⟩
        · simp only [f_X11_cut, hin, Option.bind_some, if_neg n10, hb, if_pos h3]
        · simp only [f_X12_cut, hm, Option.bind_some, if_neg n10, rem6 hl, if_neg hlt, chk, if_pos hi, hc, if_pos h3]
      · by_cases h4 : 0 < hadN σ S l
        · have hp : (0 : Int32) < nI (hadN σ S l) := by
            have : hadN σ S l ≤ S := by unfold hadN; exact Nat.le_trans (List.length_filter_le _ _) (by simp)
            have := hR.1.S10
            exact nI_lt (a := 0) h4 (by omega)
          refine ⟨σ, μ, -103, ?_, ?_, W, H, S, T, hR⟩
          · simp only [f_X11_cut, hin, Option.bind_some, if_neg n10, hb, if_neg h3, hadX hR.2.2.2.1.2.2.1 hR.1.S10 hl, if_pos hp]
          · simp only [f_X12_cut, hm, Option.bind_some, if_neg n10, rem6 hl, if_neg hlt, chk, if_pos hi, hc, if_neg h3, hadM hR hl, if_pos hp]
        · have h5 : hadN σ S l = 0 := by omega
          have hp : ¬ (0 : Int32) < nI (hadN σ S l) := by rw [h5]; decide
          have ez : p2 &&& 1 = p2 := isZ_and hz
          have hcnt : cntI (fun j => decide ((si σ 14 0 l p2).1 14 0 j ≠ 0)) 54 = cntI (fun j => decide ((si μ 5 0 l p2).1 5 0 j ≠ 0)) 54 := by
            refine cntI_cg (fun j hj => ?_)
            by_cases e : j = l
            · subst e; rw [si_eq, si_eq]
            · rw [si_j e, si_j e, hR.brokR hj]
          refine ⟨si σ 14 0 l p2, si μ 5 0 l p2, nI (cntI (fun j => decide ((si μ 5 0 l p2).1 5 0 j ≠ 0)) 54), ?_, ?_, W, H, S, T, ?_⟩
          · simp only [f_X11_cut, hin, Option.bind_some, if_neg n10, hb, if_neg h3, hadX hR.2.2.2.1.2.2.1 hR.1.S10 hl, if_neg hp, f_X1_setBroken, isLN hl, chk, if_pos hi, hc, bnd, ez, brokenX, hcnt]
          · simp only [f_X12_cut, hm, Option.bind_some, if_neg n10, rem6 hl, if_neg hlt, chk, if_pos hi, hc, if_neg h3, hadM hR hl, if_neg hp, bnd, ez, brokenM]
          · obtain ⟨g1, g2, g3, g4, g5, g6, g7, g8, g9, g10⟩ := hR
            refine ⟨g1, g2, g3.cg rfl rfl rfl (si_k (by decide)), ?_, g5.cg (si_k (by decide)) (si_k (by decide)) (si_k (by decide)) (MA.rf.si (by omega)), g6.cg (si_k (by decide)) (MA.rf.si (by omega)), g7.cg (si_k (by decide)) (MA.rf.si (by omega)) (si_k (by decide)) (MA.rf.si (by omega)) rfl, g8.cg rfl (si_k (by decide)) rfl (MA.rf.si (by omega)) rfl, g9.cg (si_k (by decide)) (MA.rf.si (by omega)), g10⟩
            obtain ⟨a1, a2, a3, a4, a5, a6, a7, a8, a9, a10, a11⟩ := g4
            refine ⟨a1, a2, a3, a4, a5, a6, a7, a8, a9, fun j hj => ?_, fun j hj => ?_⟩
            · by_cases e : j = l
              · subst e; rw [si_eq, si_eq]; exact ⟨rfl, hz⟩
              · rw [si_j e, si_j e]; exact a10 j hj
            · rw [si_k (show 15 ≠ 14 by decide), si_k (show 6 ≠ 5 by decide)]
              exact a11 j hj
    · refine ⟨σ, μ, -101, ?_, ?_, W, H, S, T, hR⟩
      · simp only [f_X11_cut, f_X4_hasInnerLink, hx, Option.bind_some, if_neg n10, rem6 hl, if_neg (nleL 2 2 rfl (show l % 6 < 2 by omega) (by decide))]
        rfl
      · simp only [f_X12_cut, hm, Option.bind_some, if_neg n10, rem6 hl, if_pos (ltL 2 2 rfl (show l % 6 < 2 by omega) (by decide))]
