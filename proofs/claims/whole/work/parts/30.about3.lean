/-! all slots that are had -/
theorem cntI_add (f : Nat → Bool) (a b : Nat) : cntI f (a + b) = cntI f a + cntI (fun j => f (a + j)) b := by
  unfold cntI
  rw [List.range_add, List.filter_append, List.length_append, List.filter_map, List.length_map]
  rfl
theorem cntI_0 (f : Nat → Bool) : cntI f 0 = 0 := rfl
theorem cntI_none {f : Nat → Bool} {n : Nat} (h : ∀ j, j < n → f j = false) : cntI f n = 0 := by
  unfold cntI
  rw [List.filter_eq_nil_iff.mpr (fun a ha => by rw [h a (List.mem_range.mp ha)]; decide)]
  rfl
def sumN (g : Nat → Nat) : Nat → Nat
  | 0 => 0
  | n + 1 => sumN g n + g n
theorem cnt10 (f : Nat → Bool) : ∀ n, cntI f (10 * n) = sumN (fun l => cntI (fun s => f (10 * l + s)) 10) n
  | 0 => rfl
  | n + 1 => by
    rw [Nat.mul_succ, cntI_add, cnt10 f n]
    rfl
theorem sumN_cg {g h : Nat → Nat} : ∀ {n : Nat}, (∀ l, l < n → g l = h l) → sumN g n = sumN h n
  | 0, _ => rfl
  | n + 1, e => by
    unfold sumN
    rw [sumN_cg (fun l hl => e l (by omega)), e n (by omega)]
theorem sumN_le {g : Nat → Nat} {b : Nat} : ∀ {n : Nat}, (∀ l, l < n → g l ≤ b) → sumN g n ≤ b * n
  | 0, _ => Nat.le_refl _
  | n + 1, e => by
    unfold sumN
    have h1 := sumN_le (n := n) (fun l hl => e l (by omega))
    have h2 := e n (by omega)
    rw [Nat.mul_succ]
    omega
theorem hadN_le {σ : St} {S l : Nat} : hadN σ S l ≤ S := by
  unfold hadN
  exact Nat.le_trans (List.length_filter_le _ _) (by simp)
theorem hadAllX {σ : St} : f_X1_allSlotsHad σ = some (nI (cntI (fun j => decide (σ.1 16 0 j ≠ -1)) 540)) := by
  have key := loopM (A := Nat) (fun n b v => f_X1_allSlotsHad_L4 σ n (nI b) v) (fun m t b => some (nI (b + ((List.range' t m).filter (fun j => decide (σ.1 16 0 j ≠ -1))).length))) 540 ?_ ?_ 540 0 FU 0 (by omega) (FU_lt (by omega))
  · unfold cntI
    rw [List.range_eq_range']
    rw [Nat.zero_add] at key
    exact key
  · intro n' m t a ht ih
    show f_X1_allSlotsHad_L4b σ (f_X1_allSlotsHad_L4 σ n') (nI a) (nI t) = _
    have ih2 : ∀ b, f_X1_allSlotsHad_L4 σ n' (nI b) (nI (t + 1)) = _ := ih
    simp only [f_X1_allSlotsHad_L4b, if_pos (ltL 540 540 rfl (show t < 540 by omega) (by decide)), chk, if_pos (inbL (show t < 540 by omega) (show 540 < 2 ^ 31 by decide)), clL (show t < 2 ^ 31 by omega), nI_1, ih2, List.range'_succ]
    by_cases q : σ.1 16 0 t = -1
    · simp [q]
    · simp [q]
      congr 1
      omega
  · intro n' a
    show f_X1_allSlotsHad_L4b σ (f_X1_allSlotsHad_L4 σ n') (nI a) (nI 540) = _
    simp only [f_X1_allSlotsHad_L4b]
    rw [if_neg (show ¬ nI 540 < 540 from by decide)]
    simp
theorem RelP.own_link {W H S T k : Nat} {σ μ : St} (h : RelP W H S T k σ μ) (h0 : 0 < S) {l s : Nat} (hl : l < 54) (hs : s < 10) (e : σ.1 16 0 (10 * l + s) ≠ -1) : s < S ∧ endV W H l ≠ -2 := by
  rcases h.2.2.2.2.2.1 h0 l hl s hs with ⟨e1, -⟩ | ⟨h1, c, hc, e2, h3, ⟨p, t, hp, -, -, -, ep⟩, -⟩
  · exact absurd e1 e
  · refine ⟨h1, ?_⟩
    obtain ⟨l2, hl2, e3, h4⟩ := (h.of_live hc h3).2.1.2.2.2.2.2.2.1 p hp
    rw [ep] at e3
    rw [nI_inj (by omega) (by omega) e3]
    exact h4
theorem hadAll {W H S T k : Nat} {σ μ : St} (h : RelP W H S T k σ μ) (h0 : 0 < S) : cntI (fun j => decide (σ.1 16 0 j ≠ -1)) 540 = sumN (fun l => if endV W H l = -2 then 0 else hadN σ S l) 54 := by
  rw [show 540 = 10 * 54 from rfl, cnt10]
  refine sumN_cg (fun l hl => ?_)
  have h10 := h.1.S10
  by_cases e : endV W H l = -2
  · rw [if_pos e]
    refine cntI_none (fun s hs => ?_)
    by_cases q : σ.1 16 0 (10 * l + s) = -1
    · simp [q]
    · exact absurd e (h.own_link h0 hl hs q).2
  · rw [if_neg e, show 10 = S + (10 - S) by omega, cntI_add]
    have hz : cntI (fun j => (fun s => decide (σ.1 16 0 (10 * l + s) ≠ -1)) (S + j)) (10 - S) = 0 := by
      refine cntI_none (fun s hs => ?_)
      by_cases q : σ.1 16 0 (10 * l + (S + s)) = -1
      · simp [q]
      · have := (h.own_link h0 hl (show S + s < 10 by omega) q).1
        omega
    rw [show S + (10 - S) = 10 by omega]
    rw [hz]
    rfl
theorem sumN_from (g : Nat → Nat) (t : Nat) : ∀ m, sumN g (t + m) = sumN g t + ((List.range' t m).map g).sum
  | 0 => by simp
  | m + 1 => by
    rw [List.range'_concat, List.map_append, List.sum_append, ← Nat.add_assoc (sumN g t), ← sumN_from g t m]
    simp [sumN]
theorem hadAllM {W H S T k : Nat} {σ μ : St} (h : RelP W H S T k σ μ) : f_X12_allHad μ = some (nI (sumN (fun l => if endV W H l = -2 then 0 else hadN σ S l) 54)) := by
  have key := loopM (A := Nat) (fun n b v => f_X12_allHad_L4 μ n (nI b) v) (fun m t b => some (nI (b + ((List.range' t m).map (fun l => if endV W H l = -2 then 0 else hadN σ S l)).sum))) 54 ?_ ?_ 54 0 FU 0 (by omega) (FU_lt (by omega))
  · have e := sumN_from (fun l => if endV W H l = -2 then 0 else hadN σ S l) 0 54
    rw [Nat.zero_add] at e key
    rw [e]
    simp only [sumN, Nat.zero_add]
    exact key
  · intro n' m t a ht ih
    show f_X12_allHad_L4b μ (f_X12_allHad_L4 μ n') (nI a) (nI t) = _
    have ih2 : ∀ b, f_X12_allHad_L4 μ n' (nI b) (nI (t + 1)) = _ := ih
    have h54 : t < 54 := by omega
    simp only [f_X12_allHad_L4b, if_pos (ltL 54 54 rfl h54 (by decide)), isLink_eq h.1 h.2.2.2.1 h54, Option.bind_some, hadM h h54, nI_1, Int32.add_zero, nI_add, ih2, List.range'_succ, List.map_cons, List.sum_cons]
    by_cases q : endV W H t = -2
    · simp [q]
    · simp [q, Nat.add_assoc]
  · intro n' a
    show f_X12_allHad_L4b μ (f_X12_allHad_L4 μ n') (nI a) (nI 54) = _
    simp only [f_X12_allHad_L4b]
    rw [if_neg (show ¬ nI 54 < 54 from by decide)]
    simp
theorem isThere_eq {W H S T k : Nat} {σ μ : St} (h : RelP W H S T k σ μ) : f_X1_isThere σ = some (if 0 < S then 1 else 0) ∧ f_X12_isChip μ = some (if 0 < S then 1 else 0) := by
  have h10 := h.1.S10
  have hW := h.1.WH.1
  have hg := h.2.2.2.1
  have hc := (chip_iff h.1).1
  constructor
  · unfold f_X1_isThere
    rw [hg.2.2.1]
    by_cases e : 0 < S
    · rw [if_pos (show 0 < nI S from nI_lt (a := 0) e (by omega)), if_pos e]
    · rw [if_neg e, show S = 0 by omega]; rfl
  · unfold f_X12_isChip
    rw [hg.2.2.2.2.1]
    by_cases e : 0 < S
    · rw [if_pos e, if_pos (show 0 < nI W from nI_lt (a := 0) (hc.mpr e) (by omega))]
    · have : W = 0 := by omega
      rw [if_neg e, this]; rfl
theorem tell_eq {W H S T k : Nat} {σ μ : St} (h : RelP W H S T k σ μ) (hk : k ≤ 513) (h0 : 0 < S) (p : Int32) : ∃ r, f_X1_tell σ p = some r ∧ f_X12_aboutNow μ p = some r := by
  have hg := h.2.2.2.1
  unfold f_X1_tell f_X12_aboutNow
  by_cases q0 : p = 0
  · exact ⟨nI W, by rw [if_pos q0, hg.1], by rw [if_pos q0, hg.2.2.2.2.1]⟩
  by_cases q1 : p = 1
  · exact ⟨nI H, by rw [if_neg q0, if_pos q1, hg.2.1], by rw [if_neg q0, if_pos q1, hg.2.2.2.2.2.1]⟩
  by_cases q2 : p = 2
  · exact ⟨nI S, by rw [if_neg q0, if_neg q1, if_pos q2, hg.2.2.1], by rw [if_neg q0, if_neg q1, if_pos q2, hg.2.2.2.2.2.2.1]⟩
  by_cases q3 : p = 3
  · refine ⟨_, by rw [if_neg q0, if_neg q1, if_neg q2, if_pos q3, linksX h]; rfl, by rw [if_neg q0, if_neg q1, if_neg q2, if_pos q3, linksM h]; rfl⟩
  by_cases q4 : p = 4
  · refine ⟨_, by rw [if_neg q0, if_neg q1, if_neg q2, if_neg q3, if_pos q4, brokenX]; rfl, ?_⟩
    rw [if_neg q0, if_neg q1, if_neg q2, if_neg q3, if_pos q4, brokenM, cntI_cg (g := fun l => decide (σ.1 14 0 l ≠ 0)) (fun l hl => by rw [h.brokR hl])]
    rfl
  by_cases q5 : p = 5
  · refine ⟨_, by rw [if_neg q0, if_neg q1, if_neg q2, if_neg q3, if_neg q4, if_pos q5, hadAllX, hadAll h h0]; rfl, by rw [if_neg q0, if_neg q1, if_neg q2, if_neg q3, if_neg q4, if_pos q5, hadAllM h]; rfl⟩
  by_cases q6 : p = 6
  · exact ⟨nI T, by rw [if_neg q0, if_neg q1, if_neg q2, if_neg q3, if_neg q4, if_neg q5, if_pos q6, hg.2.2.2.1], by rw [if_neg q0, if_neg q1, if_neg q2, if_neg q3, if_neg q4, if_neg q5, if_pos q6, hg.2.2.2.2.2.2.2.1]⟩
  · refine ⟨_, by rw [if_neg q0, if_neg q1, if_neg q2, if_neg q3, if_neg q4, if_neg q5, if_neg q6, mostX]; rfl, ?_⟩
    rw [if_neg q0, if_neg q1, if_neg q2, if_neg q3, if_neg q4, if_neg q5, if_neg q6, mostM h hk h0, bestF_cg (v := σ.1 15 0) (fun l hl => (h.usesR hl).symm)]
    rfl
theorem ok_about_Rel : ok_about Rel := by
  intro k σ μ hk ⟨W, H, S, T, hR0⟩ p
  have hR := hR0.mono
  obtain ⟨t1, t2⟩ := isThere_eq hR
  by_cases h1 : 0 ≤ p ∧ p ≤ 7
  · have hn : ¬ (7 : Int32) < p := Int32.not_lt.mpr h1.2
    by_cases h0 : 0 < S
    · rw [if_pos h0] at t1 t2
      obtain ⟨r, r1, r2⟩ := tell_eq hR (by omega) h0 p
      refine ⟨r, ?_, ?_, W, H, S, T, hR⟩
      · simp only [f_X11_about, if_pos h1.1, if_neg hn, t1, Option.bind_some, show ¬ (1 : Int32) = 0 from by decide, if_false, r1]
      · simp only [f_X12_about, within_in h1.1 h1.2, t2, Option.bind_some, show ¬ (1 : Int32) = 0 from by decide, if_false, r2]
    · rw [if_neg h0] at t1 t2
      refine ⟨-103, ?_, ?_, W, H, S, T, hR⟩
      · simp only [f_X11_about, if_pos h1.1, if_neg hn, t1, Option.bind_some, if_true]
      · simp only [f_X12_about, within_in h1.1 h1.2, t2, Option.bind_some, show ¬ (1 : Int32) = 0 from by decide, if_false, if_true]
  · refine ⟨-102, ?_, ?_, W, H, S, T, hR⟩
    · unfold f_X11_about
      by_cases h2 : 0 ≤ p
      · rw [if_pos h2, if_pos (Int32.not_le.mp (fun z => h1 ⟨h2, z⟩))]
      · rw [if_neg h2]
    · simp only [f_X12_about, within_out h1, Option.bind_some]; rfl
