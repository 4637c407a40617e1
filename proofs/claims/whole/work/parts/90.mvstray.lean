/-! strays go on -/
theorem moveStraysX {W H n : Nat} {σ : St} {u : Nat → Bool} {nx : Nat → Nat} {fr : Nat → Bool} (en : σ.1 8 0 0 = nI n) (hn : n ≤ 12) (hl : ∀ o, o < 12 → σ.2.1 o < 12) (hi : ∀ i j, i < 12 → j < 12 → σ.2.1 i = σ.2.1 j → i = j) (h0 : ∀ o, o < n → σ.1 7 (σ.2.1 o) 0 = bz (u o))
    (hnx : ∀ j, j < n → nx j < 54 ∧ endV W H (nx j) ≠ -2 ∧ ∀ σ' : St, (∀ a, a ≠ 7 → σ'.1 a = σ.1 a) → (∀ i a, a ≠ 2 → σ'.1 7 i a = σ.1 7 i a) → f_X8_linkAhead σ' (σ.2.1 j) = some (nI (nx j))) (hfr : ∀ l, l < 54 → ∀ σ' : St, (∀ a, a ≠ 7 → a ≠ 15 → σ'.1 a = σ.1 a) → f_X10_isFree σ' (nI l) = some (bz (fr l))) (e11 : ∀ l, l < 54 → σ.1 11 1 l = endV W H l) :
    ∃ σ2, f_X10_moveStrays σ = some σ2 ∧ (∀ a, a ≠ 7 → a ≠ 15 → σ2.1 a = σ.1 a) ∧ σ2.2 = σ.2 ∧ (∀ i a, a ≠ 1 → a ≠ 2 → a ≠ 5 → σ2.1 7 i a = σ.1 7 i a) ∧ (∀ j, j < n → σ2.1 7 (σ.2.1 j) 5 = (if (frst n u nx j && fr (nx j)) then endV W H (nx j) else σ.1 7 (σ.2.1 j) 5) ∧ σ2.1 7 (σ.2.1 j) 1 = (if (frst n u nx j && fr (nx j)) then bz (decide (endV W H (nx j) = -1)) else σ.1 7 (σ.2.1 j) 1)) ∧ ∀ l, σ2.1 15 0 l = σ.1 15 0 l + nI (sumN (fun j => if (frst n u nx j && fr (nx j)) then (if l = nx j then 1 else 0) else 0) n) := by
  -- looking ahead
  have look : ∀ m t σ1 fu, t + m = n → m < fu → (∀ a, a ≠ 7 → σ1.1 a = σ.1 a) → σ1.2 = σ.2 → (∀ i a, a ≠ 2 → σ1.1 7 i a = σ.1 7 i a) → (∀ j, j < t → σ1.1 7 (σ.2.1 j) 2 = nI (nx j)) → ∃ σ2, f_X9_lookAhead_L2 fu σ1 (nI t) = some σ2 ∧ (∀ a, a ≠ 7 → σ2.1 a = σ.1 a) ∧ σ2.2 = σ.2 ∧ (∀ i a, a ≠ 2 → σ2.1 7 i a = σ.1 7 i a) ∧ (∀ j, j < n → σ2.1 7 (σ.2.1 j) 2 = nI (nx j)) := by
    intro m
    induction m with
    | zero =>
      intro t σ1 fu h1 h2 k1 k2 k3 k4
      obtain ⟨fu, rfl⟩ : ∃ i, fu = i + 1 := ⟨fu - 1, by omega⟩
      refine ⟨σ1, ?_, k1, k2, k3, fun j hj => k4 j (by omega)⟩
      show f_X9_lookAhead_L2b (f_X9_lookAhead_L2 fu) σ1 (nI t) = _
      unfold f_X9_lookAhead_L2b
      rw [k1 8 (by decide), en, if_neg (nI_nlt (by omega) (by omega))]
    | succ m ih =>
      intro t σ1 fu h1 h2 k1 k2 k3 k4
      obtain ⟨fu, rfl⟩ : ∃ i, fu = i + 1 := ⟨fu - 1, by omega⟩
      have ht : t < n := by omega
      have i1 : inb (nI t) 12 := inbL (by omega) (by decide)
      obtain ⟨σ2, g1, g2⟩ := ih (t + 1) (si σ1 7 (σ.2.1 t) 2 (nI (nx t))) fu (by omega) (by omega) (fun a ha => (si_k ha).trans (k1 a ha)) k2 (fun i a ha => (si_j ha).trans (k3 i a ha)) (fun j hj => by
        by_cases e : j = t
        · subst e; exact si_eq
        · rw [si_i (fun z => e (hi j t (by omega) (by omega) z))]
          exact k4 j (by omega))
      refine ⟨σ2, Eq.trans ?_ g1, g2⟩
      show f_X9_lookAhead_L2b (f_X9_lookAhead_L2 fu) σ1 (nI t) = _
      generalize f_X9_lookAhead_L2 fu = K
      unfold f_X9_lookAhead_L2b chk
      rw [k1 8 (by decide), en, if_pos (nI_lt ht (by omega)), if_pos (ltL 12 12 rfl (by omega) (by decide)), if_pos i1, clL (by omega), k2, if_pos (hl t (by omega)), if_pos i1, if_pos (hl t (by omega)), (hnx t ht).2.2 σ1 k1 k3, Option.bind_some, bnd_eq, nI_1]
  obtain ⟨σa, a1, a2, a3, a4, a5⟩ := look n 0 σ FU (by omega) (FU_lt (by omega)) (fun _ _ => rfl) rfl (fun _ _ _ => rfl) (fun j hj => by omega)
  -- moving
  have go : ∀ m t σ1 fu, t + m = n → m < fu → (∀ a, a ≠ 7 → a ≠ 15 → σ1.1 a = σ.1 a) → σ1.2 = σ.2 → (∀ i a, a ≠ 1 → a ≠ 2 → a ≠ 5 → σ1.1 7 i a = σ.1 7 i a) → (∀ j, j < n → σ1.1 7 (σ.2.1 j) 2 = nI (nx j)) → (∀ j, j < t → σ1.1 7 (σ.2.1 j) 5 = (if (frst n u nx j && fr (nx j)) then endV W H (nx j) else σ.1 7 (σ.2.1 j) 5) ∧ σ1.1 7 (σ.2.1 j) 1 = (if (frst n u nx j && fr (nx j)) then bz (decide (endV W H (nx j) = -1)) else σ.1 7 (σ.2.1 j) 1)) → (∀ j, t ≤ j → j < n → σ1.1 7 (σ.2.1 j) 5 = σ.1 7 (σ.2.1 j) 5 ∧ σ1.1 7 (σ.2.1 j) 1 = σ.1 7 (σ.2.1 j) 1) → (∀ l, σ1.1 15 0 l = σ.1 15 0 l + nI (sumN (fun j => if (frst n u nx j && fr (nx j)) then (if l = nx j then 1 else 0) else 0) t)) →
      ∃ σ2, f_X10_moveStrays_L9 fu σ1 (nI t) = some σ2 ∧ (∀ a, a ≠ 7 → a ≠ 15 → σ2.1 a = σ.1 a) ∧ σ2.2 = σ.2 ∧ (∀ i a, a ≠ 1 → a ≠ 2 → a ≠ 5 → σ2.1 7 i a = σ.1 7 i a) ∧ (∀ j, j < n → σ2.1 7 (σ.2.1 j) 5 = (if (frst n u nx j && fr (nx j)) then endV W H (nx j) else σ.1 7 (σ.2.1 j) 5) ∧ σ2.1 7 (σ.2.1 j) 1 = (if (frst n u nx j && fr (nx j)) then bz (decide (endV W H (nx j) = -1)) else σ.1 7 (σ.2.1 j) 1)) ∧ ∀ l, σ2.1 15 0 l = σ.1 15 0 l + nI (sumN (fun j => if (frst n u nx j && fr (nx j)) then (if l = nx j then 1 else 0) else 0) n) := by
    intro m
    induction m with
    | zero =>
      intro t σ1 fu h1 h2 k1 k2 k3 k4 k5 k6 k7
      obtain ⟨fu, rfl⟩ : ∃ i, fu = i + 1 := ⟨fu - 1, by omega⟩
      have e : t = n := by omega
      subst e
      refine ⟨σ1, ?_, k1, k2, k3, k5, k7⟩
      show f_X10_moveStrays_L9b (f_X10_moveStrays_L9 fu) σ1 (nI t) = _
      unfold f_X10_moveStrays_L9b
      rw [k1 8 (by decide) (by decide), en, if_neg (nI_nlt (by omega) (by omega))]
    | succ m ih =>
      intro t σ1 fu h1 h2 k1 k2 k3 k4 k5 k6 k7
      obtain ⟨fu, rfl⟩ : ∃ i, fu = i + 1 := ⟨fu - 1, by omega⟩
      have ht : t < n := by omega
      have l12 := hl t (by omega)
      have sm : ∀ f : Nat → Nat, sumN f (t + 1) = sumN f t + f t := fun _ => rfl
      obtain ⟨x54, xe, -⟩ := hnx t ht
      have sf := strayFind (σ := σ1) (n := n) (j := t) (by rw [k1 8 (by decide) (by decide)]; exact en) hn ht (by rw [k2]; exact l12)
      rw [k2] at sf
      have ff := isFirst_eq (σ := σ1) (n := n) (j := t) (u := u) (nx := nx) (by rw [k1 8 (by decide) (by decide)]; exact en) hn ht (by rw [k2]; exact hl) (fun o ho => by rw [k2, k3 _ 0 (by decide) (by decide) (by decide)]; exact h0 o ho) (fun o ho => ⟨(hnx o ho).1, by rw [k2]; exact k4 o ho⟩)
      have fq := hfr (nx t) x54 σ1 k1
      have hd : f_X10_moveStrays_L9 (fu + 1) σ1 (nI t) = f_X10_moveStrays_L9b (f_X10_moveStrays_L9 fu) σ1 (nI t) := rfl
      have i4 := fun σ' => ih (t + 1) σ' fu (by omega) (by omega)
      rw [hd]
      generalize f_X10_moveStrays_L9 fu = K at i4 ⊢
      unfold f_X10_moveStrays_L9b
      rw [k1 8 (by decide) (by decide), en, if_pos (nI_lt ht (by omega)), sf, Option.bind_some, onR_s l12, ff, Option.bind_some, k4 t ht, fq, Option.bind_some, nI_1]
      cases hm : (frst n u nx t && fr (nx t))
      · have same : K σ1 (nI (t + 1)) = K σ1 (nI (t + 1)) := rfl
        have st : (if bz (frst n u nx t) = 0 then K σ1 (nI (t + 1)) else if bz (fr (nx t)) = 0 then K σ1 (nI (t + 1)) else ((f_X1_use σ1 (nI (nx t))).bind fun σ8 => (f_X8_goOn σ8 (σ.2.1 t)).bind fun σ10 => K σ10 (nI (t + 1)))) = K σ1 (nI (t + 1)) := by
          cases h1' : frst n u nx t
          · rw [if_pos (show bz false = 0 from rfl)]
          · rw [h1', Bool.true_and] at hm
            rw [if_neg (show ¬ bz true = 0 by decide), hm, if_pos (show bz false = 0 from rfl)]
        rw [st]
        refine i4 σ1 k1 k2 k3 k4 (fun j hj => ?_) (fun j h3 h4 => k6 j (by omega) h4) (fun l => ?_)
        · by_cases e : j = t
          · subst e
            rw [hm, if_neg (by decide), if_neg (by decide)]
            exact k6 j (Nat.le_refl _) ht
          · exact k5 j (by omega)
        · rw [sm, hm, if_neg (by decide), Nat.add_zero]
          exact k7 l
      · rw [Bool.and_eq_true] at hm
        have go1 : f_X8_goOn (si σ1 15 0 (nx t) (σ1.1 15 0 (nx t) + 1)) (σ.2.1 t) = some (si (si (si σ1 15 0 (nx t) (σ1.1 15 0 (nx t) + 1)) 7 (σ.2.1 t) 5 (endV W H (nx t))) 7 (σ.2.1 t) 1 (bz (decide (endV W H (nx t) = -1)))) := by
          unfold f_X8_goOn
          rw [si_k (by decide), k4 t ht, endOf_eq x54 (by rw [si_k (by decide), k1 11 (by decide) (by decide), e11 _ x54]; exact xe), si_k (by decide), k1 11 (by decide) (by decide), e11 _ x54, Option.bind_some, bnd_eq, si_eq]
          by_cases q : endV W H (nx t) = -1
          · rw [if_pos q, bnd_eq, decide_eq_true q]; rfl
          · rw [if_neg q, bnd_eq, decide_eq_false q]; rfl
        rw [hm.1, hm.2, if_neg (show ¬ bz true = 0 by decide), if_neg (show ¬ bz true = 0 by decide), use_eq x54, Option.bind_some, go1, Option.bind_some]
        refine i4 _ (fun a a7 a15 => by rw [si_k a7, si_k a7, si_k a15]; exact k1 a a7 a15) k2 (fun i a b1 b2 b5 => by rw [si_j b1, si_j b5, si_k (by decide)]; exact k3 i a b1 b2 b5) (fun j hj => by rw [si_j (by decide), si_j (by decide), si_k (by decide)]; exact k4 j hj) (fun j hj => ?_) (fun j h3 h4 => ?_) (fun l => ?_)
        · by_cases e : j = t
          · subst e
            rw [hm.1, hm.2, if_pos (show (true && true) = true from rfl), if_pos (show (true && true) = true from rfl), si_eq, si_j (by decide), si_eq]
            exact ⟨rfl, rfl⟩
          · have ne : σ.2.1 j ≠ σ.2.1 t := fun z => e (hi j t (by omega) (by omega) z)
            rw [si_i ne, si_i ne, si_k (by decide)]
            exact k5 j (by omega)
        · have ne : σ.2.1 j ≠ σ.2.1 t := fun z => by have := hi j t (by omega) (by omega) z; omega
          rw [si_i ne, si_i ne, si_k (by decide)]
          exact k6 j (by omega) h4
        · rw [si_k (by decide), si_k (by decide), sm, hm.1, hm.2, if_pos (show (true && true) = true from rfl)]
          by_cases e : l = nx t
          · rw [e, si_eq, k7, if_pos rfl, ← adda]; rfl
          · rw [si_j e, k7, if_neg e, Nat.add_zero]
  unfold f_X10_moveStrays
  have la : f_X9_lookAhead σ = some σa := a1
  rw [la, Option.bind_some]
  exact go n 0 σa FU (by omega) (FU_lt (by omega)) (fun a b c => a2 a b) a3 (fun i a b1 b2 b5 => a4 i a b2) a5 (fun j hj => by omega) (fun j _ hj => ⟨a4 _ 5 (by decide), a4 _ 1 (by decide)⟩) (fun l => by rw [a2 15 (by decide)]; exact (addz _).symm)
theorem moveStraysM {n : Nat} {μ : St} {u : Nat → Bool} {nx : Nat → Nat} {sh : Nat → Bool} (en : μ.1 0 0 30 = nI n) (hn : n ≤ 12) (h33 : ∀ o, o < n → μ.1 33 0 o = bz (u o)) (hnx : ∀ j, j < n → nx j < 54 ∧ ∀ μ' : St, (∀ a, a ≠ 48 → a ≠ 49 → μ'.1 a = μ.1 a) → f_X12_nextLink μ' (nI j) = some (nI (nx j))) (hsh : ∀ l, l < 54 → ∀ μ' : St, (∀ a, a ≠ 6 → a ≠ 48 → a ≠ 49 → μ'.1 a = μ.1 a) → f_X12_isShut μ' (nI l) = some (bz (sh l))) :
    ∃ μ2, f_X12_moveStrays μ = some μ2 ∧ (∀ a, a ≠ 6 → a ≠ 48 → a ≠ 49 → μ2.1 a = μ.1 a) ∧ (∀ j, j < n → μ2.1 48 0 j = nI (nx j) ∧ μ2.1 49 0 j = bz (frst n u nx j && !sh (nx j))) ∧ ∀ l, l < 54 → μ2.1 6 0 l = μ.1 6 0 l + nI (sumN (fun j => if (frst n u nx j && !sh (nx j)) then (if l = nx j then 1 else 0) else 0) n) := by
  have go : ∀ m l μ1 fu, l + m = 54 → m < fu → (∀ a, a ≠ 6 → a ≠ 48 → a ≠ 49 → μ1.1 a = μ.1 a) → (∀ j, j < n → μ1.1 48 0 j = nI (nx j) ∧ μ1.1 49 0 j = bz ((frst n u nx j && !sh (nx j)) && decide (nx j < l))) → (∀ l', l' < l → μ1.1 6 0 l' = μ.1 6 0 l' + nI (sumN (fun j => if (frst n u nx j && !sh (nx j)) then (if l' = nx j then 1 else 0) else 0) n)) → (∀ l', l ≤ l' → μ1.1 6 0 l' = μ.1 6 0 l') →
      ∃ μ2, f_X12_moveStrays_L36 fu μ1 (nI l) = some μ2 ∧ (∀ a, a ≠ 6 → a ≠ 48 → a ≠ 49 → μ2.1 a = μ.1 a) ∧ (∀ j, j < n → μ2.1 48 0 j = nI (nx j) ∧ μ2.1 49 0 j = bz (frst n u nx j && !sh (nx j))) ∧ ∀ l, l < 54 → μ2.1 6 0 l = μ.1 6 0 l + nI (sumN (fun j => if (frst n u nx j && !sh (nx j)) then (if l = nx j then 1 else 0) else 0) n) := by
    intro m
    induction m with
    | zero =>
      intro l μ1 fu h1 h2 k1 k2 k3 k4
      obtain ⟨fu, rfl⟩ : ∃ i, fu = i + 1 := ⟨fu - 1, by omega⟩
      have e : l = 54 := by omega
      subst e
      refine ⟨μ1, ?_, k1, fun j hj => ?_, k3⟩
      · show f_X12_moveStrays_L36b (f_X12_moveStrays_L36 fu) μ1 (nI 54) = _
        unfold f_X12_moveStrays_L36b
        rw [if_neg (show ¬ nI 54 < 54 by decide)]
      · obtain ⟨a, b⟩ := k2 j hj
        rw [decide_eq_true (hnx j hj).1, Bool.and_true] at b
        exact ⟨a, b⟩
    | succ m ih =>
      intro l μ1 fu h1 h2 k1 k2 k3 k4
      obtain ⟨fu, rfl⟩ : ∃ i, fu = i + 1 := ⟨fu - 1, by omega⟩
      have hl : l < 54 := by omega
      have go1 := goesOn_eq (μ := μ1) (n := n) (l := l) (u := u) (nx := nx) (by rw [k1 0 (by decide) (by decide) (by decide)]; exact en) hn hl (fun o ho => by rw [k1 33 (by decide) (by decide) (by decide)]; exact h33 o ho) (fun o ho => ⟨(hnx o ho).1, (k2 o ho).1⟩)
      have sh1 := hsh l hl μ1 k1
      have i4 := fun μ' => ih (l + 1) μ' fu (by omega) (by omega)
      have hd : f_X12_moveStrays_L36 (fu + 1) μ1 (nI l) = f_X12_moveStrays_L36b (f_X12_moveStrays_L36 fu) μ1 (nI l) := rfl
      rw [hd]
      generalize f_X12_moveStrays_L36 fu = K at i4 ⊢
      -- nothing moves on this link
      have none1 : (∀ j, j < n → nx j = l → (frst n u nx j && !sh (nx j)) = false) → ∃ μ2, K μ1 (nI (l + 1)) = some μ2 ∧ (∀ a, a ≠ 6 → a ≠ 48 → a ≠ 49 → μ2.1 a = μ.1 a) ∧ (∀ j, j < n → μ2.1 48 0 j = nI (nx j) ∧ μ2.1 49 0 j = bz (frst n u nx j && !sh (nx j))) ∧ ∀ l, l < 54 → μ2.1 6 0 l = μ.1 6 0 l + nI (sumN (fun j => if (frst n u nx j && !sh (nx j)) then (if l = nx j then 1 else 0) else 0) n) := by
        intro z
        refine i4 μ1 k1 (fun j hj => ?_) (fun l' hl' => ?_) (fun l' hl' => k4 l' (by omega))
        · obtain ⟨a, b⟩ := k2 j hj
          refine ⟨a, b.trans ?_⟩
          by_cases q : nx j = l
          · rw [z j hj q, Bool.false_and, Bool.false_and]
          · congr 2
            by_cases w : nx j < l
            · rw [decide_eq_true w, decide_eq_true (show nx j < l + 1 by omega)]
            · rw [decide_eq_false w, decide_eq_false (show ¬ nx j < l + 1 by omega)]
        · by_cases w : l' < l
          · exact k3 l' w
          · have e : l' = l := by omega
            subst e
            rw [k4 l' (Nat.le_refl _), sumN_zero (fun j hj => ?_), addz]
            by_cases q : l' = nx j
            · rw [z j hj q.symm, if_neg (by decide)]
            · rw [if_neg q]; split <;> rfl
      unfold f_X12_moveStrays_L36b chk
      rw [if_pos (ltL 54 54 rfl hl (by decide)), nI_1]
      rcases go1 with ⟨g1, g2⟩ | ⟨b, b1, b2, b3, g1⟩
      · rw [g1, Option.bind_some, if_pos rfl]
        exact none1 (fun j hj q => absurd q (g2 j hj))
      · rw [g1, Option.bind_some, if_neg (nI_nm1 (by omega)), sh1, Option.bind_some]
        cases hs : sh l
        · have i1 : inb (nI b) 12 := inbL (by omega) (by decide)
          have i2 : inb (nI l) 54 := inbL hl (by decide)
          rw [if_pos (show bz false = 0 from rfl), if_pos i1, clL (by omega), bnd_eq, if_pos i2, if_pos i2, clL (by omega), bnd_eq, si_k (by decide)]
          have mb : ∀ j, j < n → nx j = l → ((frst n u nx j && !sh (nx j)) = true ↔ j = b) := by
            intro j hj q
            rw [q, hs]
            constructor
            · intro z
              rw [Bool.and_eq_true] at z
              exact frst_uniq hj b1 (q.trans b2.symm) z.1 b3
            · intro z
              rw [z, b3]; rfl
          refine i4 _ (fun a a6 a48 a49 => by rw [si_k a6, si_k a49]; exact k1 a a6 a48 a49) (fun j hj => ?_) (fun l' hl' => ?_) (fun l' hl' => ?_)
          · obtain ⟨a, c⟩ := k2 j hj
            refine ⟨by rw [si_k (by decide), si_k (by decide)]; exact a, ?_⟩
            rw [si_k (by decide)]
            by_cases q : j = b
            · subst q
              rw [si_eq, (mb j hj b2).mpr rfl, decide_eq_true (show nx j < l + 1 by omega)]; rfl
            · rw [si_j q, c]
              by_cases w : nx j = l
              · have : (frst n u nx j && !sh (nx j)) = false := by
                  cases hq : (frst n u nx j && !sh (nx j))
                  · rfl
                  · exact absurd ((mb j hj w).mp hq) q
                rw [this, Bool.false_and, Bool.false_and]
              · congr 2
                by_cases v : nx j < l
                · rw [decide_eq_true v, decide_eq_true (show nx j < l + 1 by omega)]
                · rw [decide_eq_false v, decide_eq_false (show ¬ nx j < l + 1 by omega)]
          · by_cases w : l' = l
            · subst w
              rw [si_eq, k4 l' (Nat.le_refl _)]
              have : sumN (fun j => if (frst n u nx j && !sh (nx j)) then (if l' = nx j then 1 else 0) else 0) n = 1 := by
                have e : sumN (fun j => if (frst n u nx j && !sh (nx j)) then (if l' = nx j then 1 else 0) else 0) n = sumN (fun j => if j = b then 1 else 0) n := by
                  refine sumN_cg (fun j hj => ?_)
                  by_cases q : l' = nx j
                  · by_cases v : j = b
                    · rw [if_pos v, (mb j hj q.symm).mpr v, if_pos rfl, if_pos q]
                    · rw [if_neg v, if_neg (fun z => v ((mb j hj q.symm).mp z))]
                  · have jb : ¬ j = b := fun v => q (by rw [v]; exact b2.symm)
                    rw [if_neg q, if_neg jb]
                    split <;> rfl
                rw [e, sumN_at, if_pos b1]
              rw [this]
              rfl
            · rw [si_j w, si_k (by decide)]
              exact k3 l' (by omega)
          · rw [si_j (by omega), si_k (by decide)]
            exact k4 l' (by omega)
        · rw [if_neg (show ¬ bz true = 0 by decide)]
          exact none1 (fun j hj q => by rw [q, hs, Bool.not_true, Bool.and_false])
  have pre : ∀ m t μ1 fu, t + m = n → m < fu → (∀ a, a ≠ 48 → a ≠ 49 → μ1.1 a = μ.1 a) → (∀ j, j < t → μ1.1 48 0 j = nI (nx j) ∧ μ1.1 49 0 j = 0) → ∃ μ2, f_X12_moveStrays_L2 fu μ1 (nI t) = f_X12_moveStrays_L36 FU μ2 0 ∧ (∀ a, a ≠ 48 → a ≠ 49 → μ2.1 a = μ.1 a) ∧ (∀ j, j < n → μ2.1 48 0 j = nI (nx j) ∧ μ2.1 49 0 j = 0) := by
    intro m
    induction m with
    | zero =>
      intro t μ1 fu h1 h2 k1 k2
      obtain ⟨fu, rfl⟩ : ∃ i, fu = i + 1 := ⟨fu - 1, by omega⟩
      refine ⟨μ1, ?_, k1, fun j hj => k2 j (by omega)⟩
      show f_X12_moveStrays_L2b (f_X12_moveStrays_L2 fu) μ1 (nI t) = _
      unfold f_X12_moveStrays_L2b
      rw [k1 0 (by decide) (by decide), en, if_neg (nI_nlt (by omega) (by omega))]
    | succ m ih =>
      intro t μ1 fu h1 h2 k1 k2
      obtain ⟨fu, rfl⟩ : ∃ i, fu = i + 1 := ⟨fu - 1, by omega⟩
      have ht : t < n := by omega
      have i1 : inb (nI t) 12 := inbL (by omega) (by decide)
      obtain ⟨μ2, g1, g2⟩ := ih (t + 1) (si (si μ1 48 0 t (nI (nx t))) 49 0 t 0) fu (by omega) (by omega) (fun a a48 a49 => by rw [si_k a49, si_k a48]; exact k1 a a48 a49) (fun j hj => by
        by_cases e : j = t
        · subst e
          exact ⟨by rw [si_k (by decide), si_eq], si_eq⟩
        · rw [si_k (show 48 ≠ 49 by decide), si_j e, si_j e, si_k (show 49 ≠ 48 by decide)]
          exact k2 j (by omega))
      refine ⟨μ2, Eq.trans ?_ g1, g2⟩
      show f_X12_moveStrays_L2b (f_X12_moveStrays_L2 fu) μ1 (nI t) = _
      generalize f_X12_moveStrays_L2 fu = K
      unfold f_X12_moveStrays_L2b chk
      rw [k1 0 (by decide) (by decide), en, if_pos (nI_lt ht (by omega)), (hnx t ht).2 μ1 k1, Option.bind_some, if_pos i1, clL (by omega), bnd_eq, if_pos i1, bnd_eq, nI_1]
  obtain ⟨μa, a1, a2, a3⟩ := pre n 0 μ FU (by omega) (FU_lt (by omega)) (fun _ _ _ => rfl) (fun j hj => by omega)
  obtain ⟨μ2, b1, b2⟩ := go 54 0 μa FU (by omega) (FU_lt (by omega)) (fun a a6 a48 a49 => a2 a a48 a49) (fun j hj => ⟨(a3 j hj).1, by rw [(a3 j hj).2, decide_eq_false (show ¬ nx j < 0 by omega), Bool.and_false]; rfl⟩) (fun l' hl' => by omega) (fun l' _ => by rw [a2 6 (by decide) (by decide)])
  exact ⟨μ2, Eq.trans a1 b1, b2⟩
