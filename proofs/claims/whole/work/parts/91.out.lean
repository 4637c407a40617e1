/-! strays that went out leave the line -/
theorem arr_both {σ μ : St} {t T : Nat} {u : Bool} {came : Int32} (ht : t < 12) (hr : RAr σ μ) (e33 : μ.1 33 0 t = bz u) (e35 : μ.1 35 0 t = came) (eT : μ.1 0 0 3 = nI T) : ∃ σ2 μ2, f_X0_add σ (if u then 0 else 1) (nI T - came + 1) = some σ2 ∧ f_X12_arrives μ (nI t) = some μ2 ∧ RAr σ2 μ2 ∧ (∀ a, a ≠ 0 → σ2.1 a = σ.1 a) ∧ σ2.2 = σ.2 ∧ (∀ a, a ≠ 0 → (a < 36 ∨ 38 < a) → μ2.1 a = μ.1 a) ∧ (∀ i, i ≠ 50 → μ2.1 0 0 i = μ.1 0 0 i) ∧ μ2.1 0 0 50 = μ.1 0 0 50 + 1 := by
  have i1 : inb (nI t) 12 := inbL ht (by decide)
  have c1 : Int32.toNatClampNeg (nI t) = t := clL (by omega)
  have ed : nI T + 1 - came = nI T - came + 1 := by
    rw [Int32.sub_eq_add_neg, Int32.sub_eq_add_neg, Int32.add_assoc, Int32.add_assoc, Int32.add_comm 1]
  generalize hd : nI T - came + 1 = d at ed ⊢
  obtain ⟨⟨r1, r2, r3⟩, r4, r5, r6⟩ := hr
  cases u
  · refine ⟨si (si (si σ 0 1 0 (σ.1 0 1 0 + 1)) 0 1 1 (σ.1 0 1 1 + d)) 0 1 2 (if σ.1 0 1 2 < d then d else σ.1 0 1 2), si (si (si (si μ 36 0 0 (μ.1 36 0 0 + 1)) 37 0 0 (μ.1 37 0 0 + d)) 38 0 0 (if μ.1 38 0 0 < d then d else μ.1 38 0 0)) 0 0 50 (μ.1 0 0 50 + 1), ?_, ?_, ?_, fun a ha => by rw [si_k ha, si_k ha, si_k ha], rfl, fun a a0 a3 => by rw [si_k a0, si_k (by omega), si_k (by omega), si_k (by omega)], fun i hi => by rw [si_j hi, si_k (by decide), si_k (by decide), si_k (by decide)], si_eq⟩
    · rw [if_neg (by decide)]
      simp (decide := true) only [f_X0_add, bnd, si_j]
    · have z0 : bz false = 0 := rfl
      simp (decide := true) only [f_X12_arrives, chk, if_pos i1, c1, e33, z0, if_true, bnd, eT, e35, ed, si_k]
      by_cases q : μ.1 38 0 0 < d
      · rw [if_pos q, if_pos q]
      · rw [if_neg q, if_neg q]
    · refine ⟨⟨?_, ?_, ?_⟩, ?_, ?_, ?_⟩
      · rw [si_i (by decide), si_i (by decide), si_i (by decide), si_k (by decide), si_k (by decide), si_k (by decide), si_j (by decide)]; exact r1
      · rw [si_i (by decide), si_i (by decide), si_i (by decide), si_k (by decide), si_k (by decide), si_j (by decide), si_k (by decide)]; exact r2
      · rw [si_i (by decide), si_i (by decide), si_i (by decide), si_k (by decide), si_j (by decide), si_k (by decide), si_k (by decide)]; exact r3
      · rw [si_j (by decide), si_j (by decide), si_eq, si_k (by decide), si_k (by decide), si_k (by decide), si_eq, r4]
      · rw [si_j (by decide), si_eq, si_k (by decide), si_k (by decide), si_eq, r5]
      · rw [si_eq, si_k (by decide), si_eq, r6]
  · refine ⟨si (si (si σ 0 0 0 (σ.1 0 0 0 + 1)) 0 0 1 (σ.1 0 0 1 + d)) 0 0 2 (if σ.1 0 0 2 < d then d else σ.1 0 0 2), si (si (si (si μ 36 0 1 (μ.1 36 0 1 + 1)) 37 0 1 (μ.1 37 0 1 + d)) 38 0 1 (if μ.1 38 0 1 < d then d else μ.1 38 0 1)) 0 0 50 (μ.1 0 0 50 + 1), ?_, ?_, ?_, fun a ha => by rw [si_k ha, si_k ha, si_k ha], rfl, fun a a0 a3 => by rw [si_k a0, si_k (by omega), si_k (by omega), si_k (by omega)], fun i hi => by rw [si_j hi, si_k (by decide), si_k (by decide), si_k (by decide)], si_eq⟩
    · rw [if_pos rfl]
      simp (decide := true) only [f_X0_add, bnd, si_j]
    · have z0 : ¬ bz true = 0 := by decide
      simp (decide := true) only [f_X12_arrives, chk, if_pos i1, c1, e33, if_neg z0, bnd, eT, e35, ed, si_k]
      by_cases q : μ.1 38 0 1 < d
      · simp only [if_pos q]
        rfl
      · simp only [if_neg q]
        rfl
    · refine ⟨⟨?_, ?_, ?_⟩, ?_, ?_, ?_⟩
      · rw [si_j (by decide), si_j (by decide), si_eq, si_k (by decide), si_k (by decide), si_k (by decide), si_eq, r1]
      · rw [si_j (by decide), si_eq, si_k (by decide), si_k (by decide), si_eq, r2]
      · rw [si_eq, si_k (by decide), si_eq, r3]
      · rw [si_i (by decide), si_i (by decide), si_i (by decide), si_k (by decide), si_k (by decide), si_k (by decide), si_j (by decide)]; exact r4
      · rw [si_i (by decide), si_i (by decide), si_i (by decide), si_k (by decide), si_k (by decide), si_j (by decide), si_k (by decide)]; exact r5
      · rw [si_i (by decide), si_i (by decide), si_i (by decide), si_k (by decide), si_j (by decide), si_k (by decide), si_k (by decide)]; exact r6
theorem bz_and1 (u : Bool) : bz u &&& 1 = bz u := by cases u <;> decide
/-- a stray stays: the reference moves its numbers down -/
theorem stayM {μ : St} {t s nx : Nat} {u mv : Bool} {at' : Int32} {n : Nat} (hn : n ≤ 12) (ht : t < n) (hs : s ≤ t) (en : μ.1 0 0 30 = nI n) (e48 : μ.1 48 0 t = nI nx) (e49 : μ.1 49 0 t = bz mv) (hx : nx < 54) (hout : mv = true → nx % 6 ≠ 1) (e33 : μ.1 33 0 t = bz u) (hl : mv = true → f_X12_leadsTo (nI (nx / 6)) (nI (nx % 6)) (μ.1 0 0 0) (μ.1 0 0 1) = some at') (h0 : mv = false → at' = μ.1 34 0 t) (K : St → Int32 → Int32 → Option St) :
    f_X12_setStrays_L4b K μ (nI s) (nI t) = K (si (si (si (si (si μ 34 0 s at') 31 0 s (μ.1 31 0 t)) 32 0 s (μ.1 32 0 t)) 33 0 s (bz u)) 35 0 s (μ.1 35 0 t)) (nI (s + 1)) (nI (t + 1)) := by
  have i1 : inb (nI t) 12 := inbL (by omega) (by decide)
  have c1 : Int32.toNatClampNeg (nI t) = t := clL (by omega)
  have i2 : inb (nI s) 12 := inbL (by omega) (by decide)
  have c2 : Int32.toNatClampNeg (nI s) = s := clL (by omega)
  have lt : nI t < nI n := nI_lt ht (by omega)
  cases mv
  · rw [h0 rfl]
    have z0 : bz false = 0 := rfl
    simp (decide := true) only [f_X12_setStrays_L4b, en, if_pos lt, chk, if_pos i1, c1, if_pos i2, c2, bnd, e48, e49, z0, if_true, si_k, e33, bz_and1, nI_1]
  · have z0 : ¬ bz true = 0 := by decide
    have l1 := hl rfl
    have r1 : ¬ nI (nx % 6) = 1 := neL 1 1 rfl (hout rfl) (by omega) (by decide)
    simp (decide := true) only [f_X12_setStrays_L4b, en, if_pos lt, chk, if_pos i1, c1, if_pos i2, c2, bnd, e48, e49, if_neg z0, if_false, rem6 hx, div6 hx, if_neg r1, l1, Option.bind_some, si_k, e33, bz_and1, nI_1]
