/-! letters under way, starts in their order -/
theorem cntI_succ (f : Nat → Bool) (n : Nat) : cntI f (n + 1) = cntI f n + (if f n then 1 else 0) := by
  rw [cntI_add f n 1]
  congr 1
  unfold cntI
  cases h : f n <;> simp [List.range_succ, h]
theorem cntI_le (f : Nat → Bool) (n : Nat) : cntI f n ≤ n := by
  unfold cntI
  exact Nat.le_trans (List.length_filter_le _ _) (by simp)
theorem undX (σ : St) (c : Nat) : f_X2_lettersUnderWay σ c = some (nI (cntI (fun p => decide (σ.1 18 c p ≠ -1)) 8)) := by
  have key := loopM (A := Nat) (fun n b v => f_X2_lettersUnderWay_L4 σ c n (nI b) v) (fun m t b => some (nI (b + ((List.range' t m).filter (fun p => decide (σ.1 18 c p ≠ -1))).length))) 8 ?_ ?_ 8 0 FU 0 (by omega) (FU_lt (by omega))
  · unfold cntI
    rw [List.range_eq_range']
    rw [Nat.zero_add] at key
    exact key
  · intro n' m t a ht ih
    show f_X2_lettersUnderWay_L4b σ c (f_X2_lettersUnderWay_L4 σ c n') (nI a) (nI t) = _
    have ih2 : ∀ b, f_X2_lettersUnderWay_L4 σ c n' (nI b) (nI (t + 1)) = _ := ih
    simp only [f_X2_lettersUnderWay_L4b, if_pos (ltL 8 8 rfl (show t < 8 by omega) (by decide)), chk, if_pos (inbL (show t < 8 by omega) (show 8 < 2 ^ 31 by decide)), clL (show t < 2 ^ 31 by omega), nI_1, ih2, List.range'_succ]
    by_cases q : σ.1 18 c t = -1
    · simp [q]
    · simp [q]
      congr 1
      omega
  · intro n' a
    show f_X2_lettersUnderWay_L4b σ c (f_X2_lettersUnderWay_L4 σ c n') (nI a) (nI 8) = _
    simp only [f_X2_lettersUnderWay_L4b]
    rw [if_neg (show ¬ nI 8 < 8 from by decide)]
    simp
theorem undM {μ : St} {n c : Nat} (hn : n ≤ 64) (e : μ.1 0 0 25 = nI n) : f_X12_underWay μ (nI c) = some (nI (cntI (fun k => decide (μ.1 26 0 k = nI c)) n)) := by
  have key := loopM (A := Nat) (fun n b v => f_X12_underWay_L4 μ (nI c) n (nI b) v) (fun m t b => some (nI (b + ((List.range' t m).filter (fun k => decide (μ.1 26 0 k = nI c))).length))) n ?_ ?_ n 0 FU 0 (by omega) (FU_lt (by omega))
  · unfold cntI
    rw [List.range_eq_range']
    rw [Nat.zero_add] at key
    exact key
  · intro n' m t a ht ih
    show f_X12_underWay_L4b μ (nI c) (f_X12_underWay_L4 μ (nI c) n') (nI a) (nI t) = _
    have ih2 : ∀ b, f_X12_underWay_L4 μ (nI c) n' (nI b) (nI (t + 1)) = _ := ih
    simp only [f_X12_underWay_L4b, e, if_pos (nI_lt (show t < n by omega) (show n < 2 ^ 31 by omega)), chk, if_pos (inbL (show t < 96 by omega) (show 96 < 2 ^ 31 by decide)), clL (show t < 2 ^ 31 by omega), nI_1, Int32.add_zero, ih2, List.range'_succ]
    by_cases q : μ.1 26 0 t = nI c
    · simp [q]
      congr 1
      omega
    · simp [q]
  · intro n' a
    show f_X12_underWay_L4b μ (nI c) (f_X12_underWay_L4 μ (nI c) n') (nI a) (nI n) = _
    simp only [f_X12_underWay_L4b, e, if_neg (nI_nlt (Nat.le_refl n) (show n < 2 ^ 31 by omega))]
    simp
/-- the letters of a circuit, counted on both sides -/
theorem RelP.und {W H S T k : Nat} {σ μ : St} (h : RelP W H S T k σ μ) (hk : k ≤ 513) {n c : Nat} (hc : c < 8) (hl : live μ c) (hn : n ≤ 64) (en : μ.1 0 0 25 = nI n) : cntI (fun p => decide (σ.1 18 c p ≠ -1)) 8 = cntI (fun j => decide (μ.1 26 0 j = nI c)) n := by
  obtain ⟨n', hn', en', h1, h2, h3⟩ := h.2.2.2.2.2.2.1
  have : n' = n := nI_inj (by omega) (by omega) (en'.symm.trans en)
  subst this
  have hT : T ≤ 40 * k := h.2.1
  have hpl : ∀ j, j < n' → μ.1 26 0 j = nI c → ∃ p, 1 ≤ p ∧ p < 8 ∧ p ≤ T ∧ μ.1 27 0 j = nI (T - p) ∧ σ.1 18 c p ≠ -1 := by
    intro j hj e
    obtain ⟨c', p, v, q1, q2, q3, q4, ⟨q5, q6, q7, q8⟩, q9, q10, q11, -⟩ := h1 j hj
    have ec : c' = c := nI_inj (by omega) (by omega) (q5.symm.trans e)
    subst ec
    obtain ⟨hp, -, hp2, ehp⟩ := (h.of_live hc hl).2.1.2.2.2.1
    have e3 : hpN μ c' = hp := by unfold hpN nN; rw [ehp, clL (by omega)]
    refine ⟨p, q3, by omega, q6, q7, ?_⟩
    rw [q9, q8]
    obtain ⟨tl, -, t2, t3⟩ := q11
    rw [t3]
    rcases q10 with z | z <;> rw [z]
    · rw [show (2 : Int32) = nI 2 from rfl, nI_mul, Int32.add_zero]; exact nI_nm1 (by omega)
    · rw [show (2 : Int32) = nI 2 from rfl, nI_mul, nI_1]; exact nI_nm1 (by omega)
  have d1 : ((List.range 8).filter (fun p => decide (σ.1 18 c p ≠ -1))).Nodup := List.Pairwise.filter _ List.nodup_range
  let g : Nat → Nat := fun j => T - nN (μ.1 27 0 j)
  have gp : ∀ j p, p ≤ T → μ.1 27 0 j = nI (T - p) → g j = p := by
    intro j p hp e
    show T - nN (μ.1 27 0 j) = p
    unfold nN
    rw [e, clL (by omega)]
    omega
  have d2 : (((List.range n').filter (fun j => decide (μ.1 26 0 j = nI c))).map g).Nodup := by
    rw [List.nodup_iff_pairwise_ne, List.pairwise_map]
    refine List.Pairwise.imp_of_mem ?_ (List.Pairwise.filter _ List.nodup_range)
    intro a b ha hb hab e
    simp only [List.mem_filter, List.mem_range, decide_eq_true_eq] at ha hb
    obtain ⟨p1, -, -, a3, a4, -⟩ := hpl a ha.1 ha.2
    obtain ⟨p2, -, -, b3, b4, -⟩ := hpl b hb.1 hb.2
    rw [gp a p1 a3 a4, gp b p2 b3 b4] at e
    subst e
    exact hab (h2 a b ha.1 hb.1 (ha.2.trans hb.2.symm) (a4.trans b4.symm))
  have perm := (List.perm_ext_iff_of_nodup d1 d2).mpr (by
    intro p
    simp only [List.mem_filter, List.mem_range, decide_eq_true_eq, List.mem_map]
    constructor
    · rintro ⟨hp, hv⟩
      obtain ⟨j, hj, l1, l2, l3, -⟩ := h3 c p hc hp hl hv
      exact ⟨j, ⟨hj, l1⟩, gp j p l2 l3⟩
    · rintro ⟨j, ⟨hj, l1⟩, e⟩
      obtain ⟨p2, -, a2, a3, a4, a5⟩ := hpl j hj l1
      rw [gp j p2 a3 a4] at e
      subst e
      exact ⟨a2, a5⟩)
  unfold cntI
  rw [perm.length_eq, List.length_map]
theorem hasStart_eq {σ : St} {i st t : Nat} (e : σ.1 2 i 15 = nI st) (h1 : st < 1024) (ht : t < 16) : f_X2_hasStart σ i (nI t) = some (bz (st.testBit t)) := by
  unfold f_X2_hasStart
  rw [e, shr_bit2 h1 ht]
  cases st.testBit t <;> rfl
theorem startX {σ : St} {i st : Nat} (e : σ.1 2 i 15 = nI st) (h1 : st < 1024) : ∀ f m t n, t + f = 10 → f < n → m < 100 → f_X2_startAt_L4 σ i n (nI m) (nI t) = some (nthB st f m t) := by
  intro f
  induction f with
  | zero =>
    intro m t n h2 h3 hm
    obtain ⟨n, rfl⟩ : ∃ j, n = j + 1 := ⟨n - 1, by omega⟩
    show f_X2_startAt_L4b σ i (f_X2_startAt_L4 σ i n) (nI m) (nI t) = _
    rw [show t = 10 by omega]
    rfl
  | succ f ih =>
    intro m t n h2 h3 hm
    obtain ⟨n, rfl⟩ : ∃ j, n = j + 1 := ⟨n - 1, by omega⟩
    show f_X2_startAt_L4b σ i (f_X2_startAt_L4 σ i n) (nI m) (nI t) = _
    simp only [f_X2_startAt_L4b, if_pos (ltL 10 10 rfl (show t < 10 by omega) (by decide)), hasStart_eq e h1 (show t < 16 by omega), Option.bind_some, nI_1, bz_0, nthB]
    cases hq : st.testBit t
    · simp only [if_true, Bool.false_eq_true, if_false]
      exact ih m (t + 1) n (by omega) (by omega) hm
    · simp only [Bool.true_eq_false, if_false, if_true]
      by_cases q : m = 0
      · subst q
        rfl
      · rw [if_neg (neL 0 0 rfl q (by omega) (by decide)), if_neg q]
        have e1 : nI m + (-1) = nI (m - 1) := by
          rw [← Int32.sub_eq_add_neg]
          exact nI_sub (b := 1) (by omega)
        rw [e1]
        exact ih (m - 1) (t + 1) n (by omega) (by omega) (by omega)
theorem startM {μ : St} {c st : Nat} (hc : c < 8) (e : μ.1 17 0 c = nI st) (h1 : st < 1024) : ∀ f m t n, t + f = 10 → f < n → m < 100 → nthB st f m t ≠ -1 → f_X12_startAt_L5 μ (nI c) n (nI m) (nI t) = some (nthB st f m t) := by
  intro f
  induction f with
  | zero =>
    intro m t n h2 h3 hm hne
    exact absurd rfl hne
  | succ f ih =>
    intro m t n h2 h3 hm hne
    obtain ⟨n, rfl⟩ : ∃ j, n = j + 1 := ⟨n - 1, by omega⟩
    show f_X12_startAt_L5b μ (nI c) (f_X12_startAt_L5 μ (nI c) n) (nI m) (nI t) = _
    have hb := isBit_eq h1 (show t < 16 by omega)
    unfold nthB at hne ⊢
    simp only [f_X12_startAt_L5b, chk, if_pos (inbL hc (show 8 < 2 ^ 31 by decide)), clL (show c < 2 ^ 31 by omega), e, hb, Option.bind_some, nI_1, bz_0, Int32.sub_zero]
    cases hq : st.testBit t
    · simp only [hq, Bool.false_eq_true, if_false] at hne
      simp only [if_true, Bool.false_eq_true, if_false]
      have := ih m (t + 1) n (by omega) (by omega) hm hne
      by_cases q : nI m ≤ 0
      · rw [if_pos q]; exact this
      · rw [if_neg q]; exact this
    · simp only [hq, if_true] at hne
      simp only [Bool.true_eq_false, if_false, if_true]
      by_cases q : m = 0
      · subst q
        rfl
      · rw [if_neg q] at hne ⊢
        rw [if_neg (nI_nle (by omega) (by omega)), show (1 : Int32) = nI 1 from rfl, nI_sub (by omega)]
        exact ih (m - 1) (t + 1) n (by omega) (by omega) (by omega) hne
