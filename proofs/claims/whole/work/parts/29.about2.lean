theorem linksX {W H S T k : Nat} {σ μ : St} (h : RelP W H S T k σ μ) : f_X1_links σ = some (nI (cntI (fun l => decide (endV W H l ≠ -2)) 54)) := by
  have key := loopM (A := Nat) (fun n b v => f_X1_links_L4 σ n (nI b) v) (fun m t b => some (nI (b + ((List.range' t m).filter (fun l => decide (endV W H l ≠ -2))).length))) 54 ?_ ?_ 54 0 FU 0 (by omega) (FU_lt (by omega))
  · unfold cntI
    rw [List.range_eq_range']
    rw [Nat.zero_add] at key
    exact key
  · intro n' m t a ht ih
    show f_X1_links_L4b σ (f_X1_links_L4 σ n') (nI a) (nI t) = _
    have ih2 : ∀ b, f_X1_links_L4 σ n' (nI b) (nI (t + 1)) = _ := ih
    simp only [f_X1_links_L4b, if_pos (ltL 54 54 rfl (show t < 54 by omega) (by decide)), hasLink_eq (show t < 54 by omega), h.endR (show t < 54 by omega), Option.bind_some, nI_1, ih2, List.range'_succ]
    by_cases q : endV W H t = -2
    · simp [q]
    · simp [q]
      congr 1
      omega
  · intro n' a
    show f_X1_links_L4b σ (f_X1_links_L4 σ n') (nI a) (nI 54) = _
    simp only [f_X1_links_L4b]
    rw [if_neg (show ¬ nI 54 < 54 from by decide)]
    simp
theorem linksM {W H S T k : Nat} {σ μ : St} (h : RelP W H S T k σ μ) : f_X12_linksMany μ = some (nI (cntI (fun l => decide (endV W H l ≠ -2)) 54)) := by
  have key := loopM (A := Nat) (fun n b v => f_X12_linksMany_L4 μ n (nI b) v) (fun m t b => some (nI (b + ((List.range' t m).filter (fun l => decide (endV W H l ≠ -2))).length))) 54 ?_ ?_ 54 0 FU 0 (by omega) (FU_lt (by omega))
  · unfold cntI
    rw [List.range_eq_range']
    rw [Nat.zero_add] at key
    exact key
  · intro n' m t a ht ih
    show f_X12_linksMany_L4b μ (f_X12_linksMany_L4 μ n') (nI a) (nI t) = _
    have ih2 : ∀ b, f_X12_linksMany_L4 μ n' (nI b) (nI (t + 1)) = _ := ih
    simp only [f_X12_linksMany_L4b, if_pos (ltL 54 54 rfl (show t < 54 by omega) (by decide)), isLink_eq h.1 h.2.2.2.1 (show t < 54 by omega), Option.bind_some, nI_1, Int32.add_zero, ih2, List.range'_succ]
    by_cases q : endV W H t = -2
    · simp [q]
    · simp [q]
      congr 1
      omega
  · intro n' a
    show f_X12_linksMany_L4b μ (f_X12_linksMany_L4 μ n') (nI a) (nI 54) = _
    simp only [f_X12_linksMany_L4b]
    rw [if_neg (show ¬ nI 54 < 54 from by decide)]
    simp
/-- the link used most, from t on -/
def bestF (u : Nat → Int32) : Nat → Nat → Fin 54 → Fin 54
  | 0, _, b => b
  | m + 1, t, b => bestF u m (t + 1) (if h : t < 54 then (if u b.val < u t then ⟨t, h⟩ else b) else b)
theorem mostX (σ : St) : f_X1_mostUsed σ = some (nI (bestF (σ.1 15 0) 53 1 ⟨0, by decide⟩).val) := by
  have key := loopM (A := Fin 54) (fun n b v => f_X1_mostUsed_L4 σ n (nI b.val) v) (fun m t b => some (nI (bestF (σ.1 15 0) m t b).val)) 54 ?_ ?_ 53 1 FU ⟨0, by decide⟩ (by omega) (FU_lt (by omega))
  · exact key
  · intro n' m t a ht ih
    show f_X1_mostUsed_L4b σ (f_X1_mostUsed_L4 σ n') (nI a.val) (nI t) = _
    have h54 : t < 54 := by omega
    have ih2 : ∀ b : Fin 54, f_X1_mostUsed_L4 σ n' (nI b.val) (nI (t + 1)) = _ := ih
    have ih3 : f_X1_mostUsed_L4 σ n' (nI t) (nI (t + 1)) = _ := ih ⟨t, h54⟩
    have ha := a.isLt
    simp only [f_X1_mostUsed_L4b, if_pos (ltL 54 54 rfl h54 (by decide)), chk, if_pos (inbL h54 (show 54 < 2 ^ 31 by decide)), if_pos (inbL a.isLt (show 54 < 2 ^ 31 by decide)), clL (show t < 2 ^ 31 by omega), clL (show a.val < 2 ^ 31 by omega), nI_1, ih2, ih3, bestF, dif_pos h54]
    split <;> rfl
  · intro n' a
    show f_X1_mostUsed_L4b σ (f_X1_mostUsed_L4 σ n') (nI a.val) (nI 54) = _
    simp only [f_X1_mostUsed_L4b]
    rw [if_neg (show ¬ nI 54 < 54 from by decide)]
    rfl
theorem RelP.use0 {W H S T k : Nat} {σ μ : St} (h : RelP W H S T k σ μ) (hk : k ≤ 513) {l : Nat} (hl : l < 54) : 0 ≤ μ.1 6 0 l := by
  obtain ⟨n, -, h2, e⟩ := (h.2.2.2.1.2.2.2.2.2.2.2.2.2.2 l hl).2.1
  rw [e]
  have := h.2.1
  exact nI_pos' (by omega)
theorem mostM {W H S T k : Nat} {σ μ : St} (h : RelP W H S T k σ μ) (hk : k ≤ 513) (h0 : 0 < S) : f_X12_busiest μ = some (nI (bestF (μ.1 6 0) 53 1 ⟨0, by decide⟩).val) := by
  have step : ∀ n' t (a : Fin 54), t < 54 → f_X12_busiest_L4 μ (n' + 1) (nI a.val) (nI t) = f_X12_busiest_L4 μ n' (nI (if h : t < 54 then (if μ.1 6 0 a.val < μ.1 6 0 t then (⟨t, h⟩ : Fin 54) else a) else a).val) (nI (t + 1)) := by
    intro n' t a h54
    show f_X12_busiest_L4b μ (f_X12_busiest_L4 μ n') (nI a.val) (nI t) = _
    have ha := a.isLt
    simp only [f_X12_busiest_L4b, if_pos (ltL 54 54 rfl h54 (by decide)), isLink_eq h.1 h.2.2.2.1 h54, Option.bind_some, chk, if_pos (inbL h54 (show 54 < 2 ^ 31 by decide)), if_pos (inbL a.isLt (show 54 < 2 ^ 31 by decide)), clL (show t < 2 ^ 31 by omega), clL (show a.val < 2 ^ 31 by omega), nI_1, dif_pos h54]
    by_cases e : endV W H t = -2
    · have e0 : μ.1 6 0 t = 0 := (h.2.2.2.1.2.2.2.2.2.2.2.2.2.2 t h54).2.2 e
      have hn : ¬ μ.1 6 0 a.val < μ.1 6 0 t := by
        rw [e0]
        exact Int32.not_lt.mpr (h.use0 hk a.isLt)
      simp only [if_pos e, if_neg hn, if_true]
    · rw [if_neg e, if_neg (show ¬ (1 : Int32) = 0 from by decide)]
      split <;> rfl
  have key := loopM (A := Fin 54) (fun n b v => f_X12_busiest_L4 μ n (nI b.val) v) (fun m t b => some (nI (bestF (μ.1 6 0) m t b).val)) 54 ?_ ?_ 53 1 4999 ⟨0, by decide⟩ (by omega) (by omega)
  · show f_X12_busiest_L4 μ (4999 + 1) (nI (⟨0, by decide⟩ : Fin 54).val) (nI 0) = _
    rw [step 4999 0 ⟨0, by decide⟩ (by decide)]
    have : (if h : 0 < 54 then (if μ.1 6 0 (⟨0, by decide⟩ : Fin 54).val < μ.1 6 0 0 then (⟨0, h⟩ : Fin 54) else ⟨0, by decide⟩) else ⟨0, by decide⟩) = ⟨0, by decide⟩ := by
      rw [dif_pos (by decide)]
      split <;> rfl
    rw [this]
    exact key
  · intro n' m t a ht ih
    show f_X12_busiest_L4 μ (n' + 1) (nI a.val) (nI t) = _
    rw [step n' t a (by omega)]
    exact ih _
  · intro n' a
    show f_X12_busiest_L4b μ (f_X12_busiest_L4 μ n') (nI a.val) (nI 54) = _
    simp only [f_X12_busiest_L4b]
    rw [if_neg (show ¬ nI 54 < 54 from by decide)]
    rfl
theorem bestF_cg {u v : Nat → Int32} (h : ∀ l, l < 54 → u l = v l) : ∀ m t b, bestF u m t b = bestF v m t b := by
  intro m
  induction m with
  | zero => intro t b; rfl
  | succ m ih =>
    intro t b
    unfold bestF
    by_cases ht : t < 54
    · rw [dif_pos ht, dif_pos ht, h b.val b.isLt, h t ht, ih]
    · rw [dif_neg ht, dif_neg ht, ih]
