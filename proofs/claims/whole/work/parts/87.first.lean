/-! which stray goes ahead -/
def ahd (u : Nat → Bool) (nx : Nat → Nat) (j o : Nat) : Bool := decide (nx o = nx j) && (if u o = u j then decide (o < j) else u o)
def frst (n : Nat) (u : Nat → Bool) (nx : Nat → Nat) (j : Nat) : Bool := !(List.range n).any (ahd u nx j)
theorem frst_iff {n : Nat} {u : Nat → Bool} {nx : Nat → Nat} {j : Nat} : frst n u nx j = true ↔ ∀ o, o < n → ahd u nx j o = false := by
  unfold frst
  rw [Bool.not_eq_true', List.any_eq_false]
  constructor
  · intro h o ho
    have := h o (List.mem_range.mpr ho)
    cases hq : ahd u nx j o
    · rfl
    · exact absurd hq this
  · intro h o ho
    rw [h o (List.mem_range.mp ho)]
    decide
theorem frst_uniq {n : Nat} {u : Nat → Bool} {nx : Nat → Nat} {i j : Nat} (hi : i < n) (hj : j < n) (h : nx i = nx j) (h1 : frst n u nx i = true) (h2 : frst n u nx j = true) : i = j := by
  have a1 := frst_iff.mp h1 j hj
  have a2 := frst_iff.mp h2 i hi
  unfold ahd at a1 a2
  rw [decide_eq_true h.symm, Bool.true_and] at a1
  rw [decide_eq_true h, Bool.true_and] at a2
  by_cases e : u i = u j
  · rw [if_pos e.symm] at a1
    rw [if_pos e] at a2
    have b1 := of_decide_eq_false a1
    have b2 := of_decide_eq_false a2
    omega
  · rw [if_neg (fun z => e z.symm)] at a1
    rw [if_neg e] at a2
    rw [a1, a2] at e
    exact absurd rfl e
theorem strayFind {σ : St} {n j : Nat} (en : σ.1 8 0 0 = nI n) (hn : n ≤ 12) (hj : j < n) (hl : σ.2.1 j < 12) : f_X9_find σ (nI j) = some (some (σ.2.1 j)) := by
  have i1 : inb (nI j) 12 := inbL (by omega) (by decide)
  have c1 : Int32.toNatClampNeg (nI j) = j := clL (by omega)
  simp only [f_X9_find, en, if_pos (nI_pos' (show j < 2 ^ 31 by omega)), if_pos (nI_lt hj (show n < 2 ^ 31 by omega)), if_neg (nleL 12 12 rfl (show j < 12 by omega) (by decide)), chk, if_pos i1, c1, if_pos hl]
theorem isFirst_eq {σ : St} {n j : Nat} {u : Nat → Bool} {nx : Nat → Nat} (en : σ.1 8 0 0 = nI n) (hn : n ≤ 12) (hj : j < n) (hl : ∀ o, o < 12 → σ.2.1 o < 12) (h0 : ∀ o, o < n → σ.1 7 (σ.2.1 o) 0 = bz (u o)) (h2 : ∀ o, o < n → nx o < 54 ∧ σ.1 7 (σ.2.1 o) 2 = nI (nx o)) : f_X9_isFirst σ (nI j) = some (bz (frst n u nx j)) := by
  have bzi : ∀ a b : Bool, (bz a = bz b) ↔ a = b := by decide
  have go : ∀ m o fu, o + m = n → m < fu → f_X9_isFirst_L14 σ (nI j) (σ.2.1 j) fu (nI o) = some (bz (!(List.range' o m).any (ahd u nx j))) := by
    intro m
    induction m with
    | zero =>
      intro o fu h3 h4
      obtain ⟨fu, rfl⟩ : ∃ i, fu = i + 1 := ⟨fu - 1, by omega⟩
      show f_X9_isFirst_L14b σ (nI j) (σ.2.1 j) (f_X9_isFirst_L14 σ (nI j) (σ.2.1 j) fu) (nI o) = _
      unfold f_X9_isFirst_L14b
      rw [en, if_neg (nI_nlt (by omega) (by omega))]
      rfl
    | succ m ih =>
      intro o fu h3 h4
      obtain ⟨fu, rfl⟩ : ∃ i, fu = i + 1 := ⟨fu - 1, by omega⟩
      have ho : o < n := by omega
      have i1 : inb (nI o) 12 := inbL (by omega) (by decide)
      have i5 := ih (o + 1) fu (by omega) (by omega)
      show f_X9_isFirst_L14b σ (nI j) (σ.2.1 j) (f_X9_isFirst_L14 σ (nI j) (σ.2.1 j) fu) (nI o) = _
      generalize f_X9_isFirst_L14 σ (nI j) (σ.2.1 j) fu = K at i5 ⊢
      unfold f_X9_isFirst_L14b chk
      rw [en, if_pos (nI_lt ho (by omega)), if_pos (ltL 12 12 rfl (by omega) (by decide)), if_pos i1, clL (by omega), if_pos (hl o (by omega)), h0 o ho, h0 j hj, (h2 o ho).2, (h2 j hj).2, bnd_eq, nI_1, List.range'_succ, List.any_cons]
      have nq : (nI (nx o) = nI (nx j)) ↔ nx o = nx j := ⟨fun z => nI_inj (by have := (h2 o ho).1; omega) (by have := (h2 j hj).1; omega) z, fun z => by rw [z]⟩
      by_cases q : nx o = nx j
      · by_cases e : u o = u j
        · rw [if_pos ((bzi _ _).mpr e)]
          by_cases w : o < j
          · rw [if_pos (nI_lt w (by omega)), if_pos (nq.mpr q)]
            have : ahd u nx j o = true := by unfold ahd; rw [decide_eq_true q, if_pos e, decide_eq_true w]; rfl
            rw [this]
            rfl
          · rw [if_neg (nI_nlt (by omega) (by omega)), if_pos (nq.mpr q), i5]
            have : ahd u nx j o = false := by unfold ahd; rw [if_pos e, decide_eq_false w, Bool.and_false]
            rw [this, Bool.false_or]
        · rw [if_neg (fun z => e ((bzi _ _).mp z)), if_pos (nq.mpr q)]
          cases hu : u o
          · have : ahd u nx j o = false := by unfold ahd; rw [if_neg e, hu, Bool.and_false]
            rw [if_pos (show bz false = 0 from rfl), i5, this, Bool.false_or]
          · have : ahd u nx j o = true := by unfold ahd; rw [decide_eq_true q, if_neg e, hu]; rfl
            rw [if_neg (show ¬ bz true = 0 by decide), this]
            rfl
      · have : ahd u nx j o = false := by unfold ahd; rw [decide_eq_false q, Bool.false_and]
        have nq' : ¬ nI (nx o) = nI (nx j) := fun z => q (nq.mp z)
        rw [this, Bool.false_or]
        simp only [if_neg nq', i5]
        split
        · split <;> rfl
        · rfl
  unfold f_X9_isFirst
  rw [strayFind en hn hj (hl j (by omega)), Option.bind_some, onR_s (hl j (by omega))]
  unfold frst
  rw [List.range_eq_range']
  exact go n 0 FU (by omega) (FU_lt (by omega))
theorem goesOn_eq {μ : St} {n l : Nat} {u : Nat → Bool} {nx : Nat → Nat} (en : μ.1 0 0 30 = nI n) (hn : n ≤ 12) (hl : l < 54) (h33 : ∀ o, o < n → μ.1 33 0 o = bz (u o)) (h48 : ∀ o, o < n → nx o < 54 ∧ μ.1 48 0 o = nI (nx o)) : (f_X12_goesOn μ (nI l) = some (-1) ∧ ∀ o, o < n → nx o ≠ l) ∨ ∃ b, b < n ∧ nx b = l ∧ frst n u nx b = true ∧ f_X12_goesOn μ (nI l) = some (nI b) := by
  have go : ∀ k fu best, k ≤ n → k < fu → ((best = none ∧ ∀ o, k ≤ o → o < n → nx o ≠ l) ∨ ∃ b, best = some b ∧ k ≤ b ∧ b < n ∧ nx b = l ∧ ∀ o, k ≤ o → o < n → ahd u nx b o = false) → (f_X12_goesOn_L9 μ (nI l) fu (oI best) (nI k - 1) = some (-1) ∧ ∀ o, o < n → nx o ≠ l) ∨ ∃ b, b < n ∧ nx b = l ∧ frst n u nx b = true ∧ f_X12_goesOn_L9 μ (nI l) fu (oI best) (nI k - 1) = some (nI b) := by
    intro k
    induction k with
    | zero =>
      intro fu best h1 h2 hb
      obtain ⟨fu, rfl⟩ : ∃ i, fu = i + 1 := ⟨fu - 1, by omega⟩
      have e : f_X12_goesOn_L9 μ (nI l) (fu + 1) (oI best) (nI 0 - 1) = some (oI best) := by
        show f_X12_goesOn_L9b μ (nI l) (f_X12_goesOn_L9 μ (nI l) fu) (oI best) (nI 0 - 1) = _
        unfold f_X12_goesOn_L9b
        rw [if_neg (by decide)]
      rw [e]
      rcases hb with ⟨rfl, z⟩ | ⟨b, rfl, b1, b2, b3, b4⟩
      · exact Or.inl ⟨rfl, fun o ho => z o (by omega) ho⟩
      · exact Or.inr ⟨b, b2, b3, frst_iff.mpr (fun o ho => b4 o (by omega) ho), rfl⟩
    | succ k ih =>
      intro fu best h1 h2 hb
      obtain ⟨fu, rfl⟩ : ∃ i, fu = i + 1 := ⟨fu - 1, by omega⟩
      have hk : k < n := by omega
      have e1 : nI (k + 1) - 1 = nI k := nI_sub (b := 1) (by omega)
      have i1 : inb (nI k) 12 := inbL (by omega) (by decide)
      have c1 : Int32.toNatClampNeg (nI k) = k := clL (by omega)
      have i5 := fun best' => ih fu best' (by omega) (by omega)
      have hd : f_X12_goesOn_L9 μ (nI l) (fu + 1) (oI best) (nI (k + 1) - 1) = f_X12_goesOn_L9b μ (nI l) (f_X12_goesOn_L9 μ (nI l) fu) (oI best) (nI (k + 1) - 1) := rfl
      rw [hd, e1]
      generalize f_X12_goesOn_L9 μ (nI l) fu = K at i5 ⊢
      have nq : (nI (nx k) = nI l) ↔ nx k = l := ⟨fun z => nI_inj (by have := (h48 k hk).1; omega) (by omega) z, fun z => by rw [z]⟩
      have self : ahd u nx k k = false := by unfold ahd; rw [if_pos rfl, decide_eq_false (show ¬ k < k by omega), Bool.and_false]
      rw [show nI k - 1 = nI k + (-1) from Int32.sub_eq_add_neg _ _] at i5
      unfold f_X12_goesOn_L9b chk
      rw [if_pos (nI_pos' (by omega)), if_pos i1, c1, (h48 k hk).2, h33 k hk]
      rcases hb with ⟨rfl, z⟩ | ⟨b, rfl, b1, b2, b3, b4⟩
      · rw [if_pos (show oI none = -1 from rfl)]
        by_cases q : nx k = l
        · rw [if_pos (nq.mpr q)]
          refine i5 (some k) (Or.inr ⟨k, rfl, Nat.le_refl _, hk, q, fun o o1 o2 => ?_⟩)
          by_cases w : o = k
          · rw [w]; exact self
          · unfold ahd
            rw [decide_eq_false (fun y => z o (by omega) o2 (y.trans q)), Bool.false_and]
        · rw [if_neg (fun y => q (nq.mp y))]
          refine i5 none (Or.inl ⟨rfl, fun o o1 o2 => ?_⟩)
          by_cases w : o = k
          · rw [w]; exact q
          · exact z o (by omega) o2
      · have i2 : inb (oI (some b)) 12 := inbL (show b < 12 by omega) (by decide)
        have c2 : Int32.toNatClampNeg (oI (some b)) = b := clL (by omega)
        rw [if_neg (show ¬ oI (some b) = -1 from nI_nm1 (by omega)), if_pos i2, c2, h33 b b2]
        simp only [if_pos i1, ite_self]
        have keep : ahd u nx b k = false → (K (oI (some b)) (nI k + -1) = some (-1) ∧ ∀ o, o < n → nx o ≠ l) ∨ ∃ b', b' < n ∧ nx b' = l ∧ frst n u nx b' = true ∧ K (oI (some b)) (nI k + -1) = some (nI b') := fun y => by
          refine i5 (some b) (Or.inr ⟨b, rfl, by omega, b2, b3, fun o o1 o2 => ?_⟩)
          by_cases w : o = k
          · rw [w]; exact y
          · exact b4 o (by omega) o2
        by_cases q : nx k = l
        · rw [if_pos (nq.mpr q)]
          have take : (u k = true ∨ u b = false) → (K (nI k) (nI k + -1) = some (-1) ∧ ∀ o, o < n → nx o ≠ l) ∨ ∃ b', b' < n ∧ nx b' = l ∧ frst n u nx b' = true ∧ K (nI k) (nI k + -1) = some (nI b') := fun y => by
            refine i5 (some k) (Or.inr ⟨k, rfl, Nat.le_refl _, hk, q, fun o o1 o2 => ?_⟩)
            by_cases w : o = k
            · rw [w]; exact self
            · have h4 := b4 o (by omega) o2
              unfold ahd at h4 ⊢
              by_cases x : nx o = nx k
              · rw [decide_eq_true x, Bool.true_and]
                rw [decide_eq_true (x.trans (q.trans b3.symm)), Bool.true_and] at h4
                by_cases e : u o = u k
                · rw [if_pos e, decide_eq_false (by omega)]
                · rw [if_neg e]
                  cases ho : u o
                  · rfl
                  · rw [ho] at e h4
                    have uk : u k = false := by cases hq : u k; rfl; rw [hq] at e; exact absurd rfl e
                    have ub : u b = false := by rcases y with y | y; rw [uk] at y; cases y; exact y
                    rw [ub, if_neg (by decide)] at h4
                    cases h4
              · rw [decide_eq_false x, Bool.false_and]
          cases hk1 : u k
          · rw [if_pos (show bz false = 0 from rfl)]
            cases hb1 : u b
            · rw [if_pos (show bz false = 0 from rfl)]
              exact take (Or.inr hb1)
            · rw [if_neg (show ¬ bz true = 0 by decide)]
              refine keep ?_
              unfold ahd
              rw [hk1, hb1, if_neg (by decide), Bool.and_false]
          · rw [if_neg (show ¬ bz true = 0 by decide)]
            exact take (Or.inl hk1)
        · rw [if_neg (fun y => q (nq.mp y))]
          have nk : ahd u nx b k = false := by unfold ahd; rw [decide_eq_false (fun y => q (y.trans b3)), Bool.false_and]
          have kp := keep nk
          cases u k
          · rw [if_pos (show bz false = 0 from rfl)]
            cases u b
            · rw [if_pos (show bz false = 0 from rfl)]; exact kp
            · rw [if_neg (show ¬ bz true = 0 by decide)]; exact kp
          · rw [if_neg (show ¬ bz true = 0 by decide)]; exact kp
  have := go n FU none (Nat.le_refl _) (FU_lt (by omega)) (Or.inl ⟨rfl, fun o o1 o2 => by omega⟩)
  unfold f_X12_goesOn
  rw [en]
  exact this
