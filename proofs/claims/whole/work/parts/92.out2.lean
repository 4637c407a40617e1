theorem sl_1 {σ : St} {j v : Nat} : (sl σ j v).1 = σ.1 := rfl
theorem sl_eq {σ : St} {j v : Nat} : (sl σ j v).2.1 j = v := by
  show (if j = j then v else σ.2.1 j) = v
  rw [if_pos rfl]
theorem sl_ne {σ : St} {j v i : Nat} (h : i ≠ j) : (sl σ j v).2.1 i = σ.2.1 i := by
  show (if i = j then v else σ.2.1 i) = σ.2.1 i
  rw [if_neg h]
theorem outs_both {W H S T n : Nat} {σ μ : St} {nx : Nat → Nat} {u mv : Nat → Bool} {atV : Nat → Int32} (hw : okWHS W H S) (hn : n ≤ 12) (ex : σ.1 8 0 0 = nI n) (em : μ.1 0 0 30 = nI n) (eTx : σ.1 1 0 2 = nI T) (eTm : μ.1 0 0 3 = nI T) (eW : μ.1 0 0 0 = nI W) (eH : μ.1 0 0 1 = nI H) (hl : ∀ o, o < 12 → σ.2.1 o < 12) (hi : ∀ i j, i < 12 → j < 12 → σ.2.1 i = σ.2.1 j → i = j)
    (h7 : ∀ j, j < n → σ.1 7 (σ.2.1 j) 0 = bz (u j) ∧ σ.1 7 (σ.2.1 j) 1 = bz (mv j && decide (nx j % 6 = 1)) ∧ σ.1 7 (σ.2.1 j) 6 = μ.1 35 0 j) (hm : ∀ j, j < n → μ.1 33 0 j = bz (u j) ∧ μ.1 48 0 j = nI (nx j) ∧ μ.1 49 0 j = bz (mv j) ∧ nx j < 54 ∧ endV W H (nx j) ≠ -2 ∧ atV j = if mv j then endV W H (nx j) else μ.1 34 0 j) (hr : RAr σ μ) :
    ∃ σ2 μ2, f_X9_letOut σ = some (σ2, nI (n - (stay (fun j => mv j && decide (nx j % 6 = 1)) n).length)) ∧ f_X12_setStrays μ = some μ2 ∧ RAr σ2 μ2 ∧ (∀ a, a ≠ 0 → a ≠ 8 → σ2.1 a = σ.1 a) ∧ σ2.1 8 0 0 = nI (stay (fun j => mv j && decide (nx j % 6 = 1)) n).length ∧ σ2.2.2 = σ.2.2 ∧ (∀ o, o < 12 → σ2.2.1 o < 12) ∧ (∀ i j, i < 12 → j < 12 → σ2.2.1 i = σ2.2.1 j → i = j) ∧ (∀ i, i < (stay (fun j => mv j && decide (nx j % 6 = 1)) n).length → σ2.2.1 i = σ.2.1 ((stay (fun j => mv j && decide (nx j % 6 = 1)) n).getD i 0)) ∧
      (∀ a, a ≠ 0 → (a < 31 ∨ 38 < a) → μ2.1 a = μ.1 a) ∧ (∀ i, i ≠ 30 → i ≠ 50 → μ2.1 0 0 i = μ.1 0 0 i) ∧ μ2.1 0 0 30 = nI (stay (fun j => mv j && decide (nx j % 6 = 1)) n).length ∧ μ2.1 0 0 50 = μ.1 0 0 50 + nI (n - (stay (fun j => mv j && decide (nx j % 6 = 1)) n).length) ∧ (∀ i, i < (stay (fun j => mv j && decide (nx j % 6 = 1)) n).length → ∀ j, (stay (fun j => mv j && decide (nx j % 6 = 1)) n).getD i 0 = j → μ2.1 31 0 i = μ.1 31 0 j ∧ μ2.1 32 0 i = μ.1 32 0 j ∧ μ2.1 33 0 i = μ.1 33 0 j ∧ μ2.1 34 0 i = atV j ∧ μ2.1 35 0 i = μ.1 35 0 j) := by
  generalize hO : (fun j => mv j && decide (nx j % 6 = 1)) = O
  have hOj : ∀ j, O j = (mv j && decide (nx j % 6 = 1)) := fun j => by rw [← hO]
  have go : ∀ m t σ1 μ1 fx fm, t + m = n → m < fx → m < fm → RAr σ1 μ1 → (∀ a, a ≠ 0 → σ1.1 a = σ.1 a) → σ1.2.2 = σ.2.2 → (∀ o, o < 12 → σ1.2.1 o < 12) → (∀ i j, i < 12 → j < 12 → σ1.2.1 i = σ1.2.1 j → i = j) → (∀ i, i < (stay O t).length → σ1.2.1 i = σ.2.1 ((stay O t).getD i 0)) → (∀ i, t ≤ i → σ1.2.1 i = σ.2.1 i) →
      (∀ a, a ≠ 0 → (a < 31 ∨ 38 < a) → μ1.1 a = μ.1 a) → (∀ i, i ≠ 50 → μ1.1 0 0 i = μ.1 0 0 i) → μ1.1 0 0 50 = μ.1 0 0 50 + nI (t - (stay O t).length) → (∀ i, i < (stay O t).length → ∀ j, (stay O t).getD i 0 = j → μ1.1 31 0 i = μ.1 31 0 j ∧ μ1.1 32 0 i = μ.1 32 0 j ∧ μ1.1 33 0 i = μ.1 33 0 j ∧ μ1.1 34 0 i = atV j ∧ μ1.1 35 0 i = μ.1 35 0 j) → (∀ i, t ≤ i → ∀ a, 31 ≤ a → a ≤ 35 → μ1.1 a 0 i = μ.1 a 0 i) →
      ∃ σ2 μ2, f_X9_letOut_L9 (nI n) fx σ1 (nI (stay O t).length) (nI t) = some (σ2, nI (n - (stay O n).length)) ∧ f_X12_setStrays_L4 fm μ1 (nI (stay O t).length) (nI t) = some μ2 ∧ RAr σ2 μ2 ∧ (∀ a, a ≠ 0 → a ≠ 8 → σ2.1 a = σ.1 a) ∧ σ2.1 8 0 0 = nI (stay O n).length ∧ σ2.2.2 = σ.2.2 ∧ (∀ o, o < 12 → σ2.2.1 o < 12) ∧ (∀ i j, i < 12 → j < 12 → σ2.2.1 i = σ2.2.1 j → i = j) ∧ (∀ i, i < (stay O n).length → σ2.2.1 i = σ.2.1 ((stay O n).getD i 0)) ∧
      (∀ a, a ≠ 0 → (a < 31 ∨ 38 < a) → μ2.1 a = μ.1 a) ∧ (∀ i, i ≠ 30 → i ≠ 50 → μ2.1 0 0 i = μ.1 0 0 i) ∧ μ2.1 0 0 30 = nI (stay O n).length ∧ μ2.1 0 0 50 = μ.1 0 0 50 + nI (n - (stay O n).length) ∧ (∀ i, i < (stay O n).length → ∀ j, (stay O n).getD i 0 = j → μ2.1 31 0 i = μ.1 31 0 j ∧ μ2.1 32 0 i = μ.1 32 0 j ∧ μ2.1 33 0 i = μ.1 33 0 j ∧ μ2.1 34 0 i = atV j ∧ μ2.1 35 0 i = μ.1 35 0 j) := by
    intro m
    induction m with
    | zero =>
      intro t σ1 μ1 fx fm h1 h2 h3 kr k1 k2 k3 k4 k5 k6 q1 q2 q3 q4 q5
      obtain ⟨fx, rfl⟩ : ∃ i, fx = i + 1 := ⟨fx - 1, by omega⟩
      obtain ⟨fm, rfl⟩ : ∃ i, fm = i + 1 := ⟨fm - 1, by omega⟩
      have e : t = n := by omega
      subst e
      have sle := stay_le O t
      refine ⟨si σ1 8 0 0 (nI (stay O t).length), si μ1 0 0 30 (nI (stay O t).length), ?_, ?_, kr.cg (si_k (by decide)) (fun a a1 a2 => si_k (by omega)), fun a a0 a8 => by rw [si_k a8]; exact k1 a a0, si_eq, k2, k3, k4, k5, fun a a0 a1 => by rw [si_k a0]; exact q1 a a0 a1, fun i i30 i50 => by rw [si_j i30]; exact q2 i i50, si_eq, by rw [si_j (by decide)]; exact q3, fun i hi j hj => by rw [si_k (by decide), si_k (by decide), si_k (by decide), si_k (by decide), si_k (by decide)]; exact q4 i hi j hj⟩
      · show f_X9_letOut_L9b (nI t) (f_X9_letOut_L9 (nI t) fx) σ1 _ (nI t) = _
        unfold f_X9_letOut_L9b
        rw [if_neg (nI_nlt (Nat.le_refl _) (by omega)), bnd_eq, nI_sub sle]
      · show f_X12_setStrays_L4b (f_X12_setStrays_L4 fm) μ1 _ (nI t) = _
        unfold f_X12_setStrays_L4b
        rw [q2 30 (by decide), em, if_neg (nI_nlt (Nat.le_refl _) (by omega)), bnd_eq]
    | succ m ih =>
      intro t σ1 μ1 fx fm h1 h2 h3 kr k1 k2 k3 k4 k5 k6 q1 q2 q3 q4 q5
      obtain ⟨fx, rfl⟩ : ∃ i, fx = i + 1 := ⟨fx - 1, by omega⟩
      obtain ⟨fm, rfl⟩ : ∃ i, fm = i + 1 := ⟨fm - 1, by omega⟩
      have ht : t < n := by omega
      have sle := stay_le O t
      have i1 : inb (nI t) 12 := inbL (by omega) (by decide)
      have c1 : Int32.toNatClampNeg (nI t) = t := clL (by omega)
      have i2 : inb (nI (stay O t).length) 12 := inbL (by omega) (by decide)
      have c2 : Int32.toNatClampNeg (nI (stay O t).length) = (stay O t).length := clL (by omega)
      have lt : nI t < nI n := nI_lt ht (by omega)
      have l12 : nI t < 12 := ltL 12 12 rfl (by omega) (by decide)
      have lx := k3 t (by omega)
      have lk := k3 (stay O t).length (by omega)
      have et := k6 t (Nat.le_refl _)
      obtain ⟨x0, x1, x6⟩ := h7 t ht
      obtain ⟨y33, y48, y49, y54, ye, ya⟩ := hm t ht
      have z33 : μ1.1 33 0 t = bz (u t) := (q5 t (Nat.le_refl _) 33 (by omega) (by omega)).trans y33
      have z35 : μ1.1 35 0 t = μ.1 35 0 t := q5 t (Nat.le_refl _) 35 (by omega) (by omega)
      have z34 : μ1.1 34 0 t = μ.1 34 0 t := q5 t (Nat.le_refl _) 34 (by omega) (by omega)
      have z48 : μ1.1 48 0 t = nI (nx t) := by rw [q1 48 (by decide) (by decide)]; exact y48
      have z49 : μ1.1 49 0 t = bz (mv t) := by rw [q1 49 (by decide) (by decide)]; exact y49
      have s7 : ∀ a, σ1.1 7 (σ1.2.1 t) a = σ.1 7 (σ.2.1 t) a := fun a => by rw [k1 7 (by decide), et]
      have i4 := fun σ' μ' => ih (t + 1) σ' μ' fx fm (by omega) (by omega) (by omega)
      have hdX : f_X9_letOut_L9 (nI n) (fx + 1) σ1 (nI (stay O t).length) (nI t) = f_X9_letOut_L9b (nI n) (f_X9_letOut_L9 (nI n) fx) σ1 (nI (stay O t).length) (nI t) := rfl
      have hdM : f_X12_setStrays_L4 (fm + 1) μ1 (nI (stay O t).length) (nI t) = f_X12_setStrays_L4b (f_X12_setStrays_L4 fm) μ1 (nI (stay O t).length) (nI t) := rfl
      rw [hdX, hdM]
      generalize f_X9_letOut_L9 (nI n) fx = KX at i4 ⊢
      generalize f_X12_setStrays_L4 fm = KM at i4 ⊢
      cases ho : O t
      · -- it stays
        have ss : stay O (t + 1) = stay O t ++ [t] := by rw [stay_s, ho]; rfl
        have sl' : (stay O (t + 1)).length = (stay O t).length + 1 := by rw [ss]; simp
        have x1' : σ1.1 7 (σ1.2.1 t) 1 = 0 := by rw [s7, x1, ← hOj, ho]; rfl
        have stX : f_X9_letOut_L9b (nI n) KX σ1 (nI (stay O t).length) (nI t) = KX (sl (sl σ1 t (σ1.2.1 (stay O t).length)) (stay O t).length (σ1.2.1 t)) (nI (stay O (t + 1)).length) (nI (t + 1)) := by
          rw [sl']
          simp only [f_X9_letOut_L9b, if_pos lt, if_pos l12, chk, if_pos i1, c1, if_pos lx, x1', if_true, if_pos i2, c2, if_pos lk, bnd, nI_1]
        have stM := stayM (μ := μ1) (t := t) (s := (stay O t).length) (nx := nx t) (u := u t) (mv := mv t) (at' := atV t) hn ht sle (by rw [q2 30 (by decide)]; exact em) z48 z49 y54 (fun z y => by rw [hOj, z, decide_eq_true y] at ho; cases ho) z33 (fun z => by
          have := leads_at hw y54 (endV_in ye)
          rw [if_neg ye] at this
          rw [q2 0 (by decide), q2 1 (by decide), eW, eH, this, ya, z, if_pos rfl]) (fun z => by rw [ya, z, if_neg (by decide), z34]) KM
        rw [stX, stM, ← sl']
        have swp : ∀ i, (sl (sl σ1 t (σ1.2.1 (stay O t).length)) (stay O t).length (σ1.2.1 t)).2.1 i = if i = (stay O t).length then σ1.2.1 t else if i = t then σ1.2.1 (stay O t).length else σ1.2.1 i := fun i => by
          by_cases w1 : i = (stay O t).length
          · rw [if_pos w1, w1, sl_eq]
          · rw [if_neg w1, sl_ne w1]
            by_cases w2 : i = t
            · rw [if_pos w2, w2, sl_eq]
            · rw [if_neg w2, sl_ne w2]
        refine i4 _ _ (kr.cg rfl (fun a a1 a2 => by rw [si_k (by omega), si_k (by omega), si_k (by omega), si_k (by omega), si_k (by omega)])) k1 k2 (fun o ho' => ?_) (fun i j hi' hj' z => ?_) (fun i hi' => ?_) (fun i hi' => ?_) (fun a a0 a1 => ?_) (fun i hi' => ?_) ?_ (fun i hi' j hj' => ?_) (fun i hi' a a1 a2 => ?_)
        · rw [swp]
          split
          · exact lx
          · split
            · exact lk
            · exact k3 o ho'
        · rw [swp, swp] at z
          by_cases wi : i = (stay O t).length <;> by_cases wj : j = (stay O t).length
          · omega
          · rw [if_pos wi, if_neg wj] at z
            by_cases vj : j = t
            · rw [if_pos vj] at z
              have := k4 _ _ (by omega) (by omega) z
              omega
            · rw [if_neg vj] at z
              exact absurd (k4 _ _ (by omega) hj' z).symm vj
          · rw [if_neg wi, if_pos wj] at z
            by_cases vi : i = t
            · rw [if_pos vi] at z
              have := k4 _ _ (by omega) (by omega) z
              omega
            · rw [if_neg vi] at z
              exact absurd (k4 _ _ hi' (by omega) z) vi
          · rw [if_neg wi, if_neg wj] at z
            by_cases vi : i = t <;> by_cases vj : j = t
            · omega
            · rw [if_pos vi, if_neg vj] at z
              exact absurd (k4 _ _ (by omega) hj' z).symm wj
            · rw [if_neg vi, if_pos vj] at z
              exact absurd (k4 _ _ hi' (by omega) z) wi
            · rw [if_neg vi, if_neg vj] at z
              exact k4 i j hi' hj' z
        · rw [swp, ss]
          rw [sl'] at hi'
          by_cases w : i = (stay O t).length
          · rw [if_pos w, w, getD_app2 (Nat.le_refl _), Nat.sub_self, et]
            rfl
          · rw [if_neg w, if_neg (by omega), getD_app1 (by omega)]
            exact k5 i (by omega)
        · rw [swp, if_neg (by omega), if_neg (by omega)]
          exact k6 i (by omega)
        · rw [si_k (by omega), si_k (by omega), si_k (by omega), si_k (by omega), si_k (by omega)]
          exact q1 a a0 a1
        · rw [si_k (by decide), si_k (by decide), si_k (by decide), si_k (by decide), si_k (by decide)]
          exact q2 i hi'
        · rw [si_k (by decide), si_k (by decide), si_k (by decide), si_k (by decide), si_k (by decide), sl', show t + 1 - ((stay O t).length + 1) = t - (stay O t).length by omega]
          exact q3
        · rw [sl'] at hi'
          rw [ss] at hj'
          by_cases w : i = (stay O t).length
          · subst w
            rw [getD_app2 (Nat.le_refl _), Nat.sub_self] at hj'
            have hj'' : t = j := hj'
            subst hj''
            refine ⟨?_, ?_, ?_, ?_, ?_⟩
            · simp (decide := true) only [si_k, si_eq]; exact q5 t (Nat.le_refl _) 31 (by omega) (by omega)
            · simp (decide := true) only [si_k, si_eq]; exact q5 t (Nat.le_refl _) 32 (by omega) (by omega)
            · simp (decide := true) only [si_k, si_eq]; exact y33.symm
            · simp (decide := true) only [si_k, si_eq]
            · simp (decide := true) only [si_eq]; exact z35
          · rw [getD_app1 (by omega)] at hj'
            rw [si_k (show 31 ≠ 35 by decide), si_k (show 31 ≠ 33 by decide), si_k (show 31 ≠ 32 by decide), si_j w, si_k (show 31 ≠ 34 by decide), si_k (show 32 ≠ 35 by decide), si_k (show 32 ≠ 33 by decide), si_j w, si_k (show 32 ≠ 31 by decide), si_k (show 32 ≠ 34 by decide), si_k (show 33 ≠ 35 by decide), si_j w, si_k (show 33 ≠ 32 by decide), si_k (show 33 ≠ 31 by decide), si_k (show 33 ≠ 34 by decide), si_k (show 34 ≠ 35 by decide), si_k (show 34 ≠ 33 by decide), si_k (show 34 ≠ 32 by decide), si_k (show 34 ≠ 31 by decide), si_j w, si_j w, si_k (show 35 ≠ 33 by decide), si_k (show 35 ≠ 32 by decide), si_k (show 35 ≠ 31 by decide), si_k (show 35 ≠ 34 by decide)]
            exact q4 i (by omega) j hj'
        · rw [si_j (by omega), si_j (by omega), si_j (by omega), si_j (by omega), si_j (by omega)]
          exact q5 i (by omega) a a1 a2
      · -- it went out
        have ss : stay O (t + 1) = stay O t := by rw [stay_s, ho]; rfl
        have hmo : mv t = true ∧ nx t % 6 = 1 := by
          rw [hOj, Bool.and_eq_true, decide_eq_true_eq] at ho
          exact ho
        have x1' : ¬ σ.1 7 (σ.2.1 t) 1 = 0 := by rw [x1, ← hOj, ho]; decide
        obtain ⟨σ2, μ2, g1, g2, g3, g4, g5, g6, g7, g8⟩ := arr_both (σ := σ1) (μ := μ1) (t := t) (T := T) (u := u t) (came := μ.1 35 0 t) (by omega) kr z33 z35 (by rw [q2 3 (by decide)]; exact eTm)
        have av : f_X9_arrivals σ1 (bz (u t)) = some (if u t then 0 else 1) := by
          unfold f_X9_arrivals
          cases u t <;> rfl
        have a2 : (if u t then 0 else 1) < 2 := by cases u t <;> decide
        have stX : f_X9_letOut_L9b (nI n) KX σ1 (nI (stay O t).length) (nI t) = KX σ2 (nI (stay O (t + 1)).length) (nI (t + 1)) := by
          rw [ss]
          simp only [f_X9_letOut_L9b, if_pos lt, if_pos l12, chk, if_pos i1, c1, if_pos lx, if_neg x1', s7, x0, av, Option.bind_some, if_pos a2, f_X8_age, k1 1 (show 1 ≠ 0 by decide), eTx, x6, g1, nI_1]
        have z0 : ¬ bz true = 0 := by decide
        have r1 : nI (nx t % 6) = 1 := by rw [hmo.2]; rfl
        have stM : f_X12_setStrays_L4b KM μ1 (nI (stay O t).length) (nI t) = KM μ2 (nI (stay O (t + 1)).length) (nI (t + 1)) := by
          rw [ss]
          simp only [f_X12_setStrays_L4b, q2 30 (show 30 ≠ 50 by decide), em, if_pos lt, chk, if_pos i1, c1, bnd, z48, z49, hmo.1, if_neg z0, rem6 y54, if_pos r1, g2, Option.bind_some, nI_1]
        rw [stX, stM]
        refine i4 _ _ g3 (fun a a0 => by rw [g4 a a0]; exact k1 a a0) (by rw [g5]; exact k2) (by rw [g5]; exact k3) (by rw [g5]; exact k4) (by rw [g5, ss]; exact k5) (fun i hi' => by rw [g5]; exact k6 i (by omega)) (fun a a0 a1 => by rw [g6 a a0 (by omega)]; exact q1 a a0 a1) (fun i hi' => by rw [g7 i hi']; exact q2 i hi') ?_ (fun i hi' j hj' => ?_) (fun i hi' a a1 a2 => by rw [g6 a (by omega) (by omega)]; exact q5 i (by omega) a a1 a2)
        · rw [g8, q3, ss, show t + 1 - (stay O t).length = t - (stay O t).length + 1 by omega, ← adda]
          rfl
        · rw [ss] at hi' hj'
          rw [g6 31 (by decide) (by decide), g6 32 (by decide) (by decide), g6 33 (by decide) (by decide), g6 34 (by decide) (by decide), g6 35 (by decide) (by decide)]
          exact q4 i hi' j hj'
  obtain ⟨σ2, μ2, g1, g2, g3⟩ := go n 0 σ μ FU FU (by omega) (FU_lt (by omega)) (FU_lt (by omega)) hr (fun _ _ => rfl) rfl hl hi (fun i hi' => absurd hi' (by show ¬ i < 0; omega)) (fun _ _ => rfl) (fun _ _ _ => rfl) (fun _ _ => rfl) (addz _).symm (fun i hi' => absurd hi' (by show ¬ i < 0; omega)) (fun _ _ _ _ _ => rfl)
  refine ⟨σ2, μ2, ?_, g2, g3⟩
  unfold f_X9_letOut
  rw [ex]
  exact g1
