theorem ok_take_Rel : ok_take Rel := by
  intro k σ μ hk ⟨W, H, S, T, hR0⟩ p1 p2
  have hR := hR0.mono
  rcases hR.circ p1 with ⟨hx, hm⟩ | ⟨c, hc, rfl, hl, hx, hm⟩
  · refine ⟨σ, μ, -101, ?_, ?_, W, H, S, T, hR⟩
    · simp only [f_X11_take, hx, Option.bind_some, onR_n]
    · simp only [f_X12_take, hm, Option.bind_some]; rfl
  · obtain ⟨hq, ho, hS⟩ := hR.of_live hc hl
    have ho0 := (hR0.of_live hc hl).2.1
    have hi : inb (nI c) 8 := inbL hc (by decide)
    have hcl : Int32.toNatClampNeg (nI c) = c := clL (by omega)
    by_cases h1 : 1 ≤ p2 ∧ p2 ≤ 99
    · obtain ⟨n, n1, n2, rfl⟩ := in199 h1.1 h1.2
      have nl : ¬ (99 : Int32) < nI n := Int32.not_lt.mpr h1.2
      have q4 : σ.1 2 c 9 = μ.1 20 0 c := hq.2.2.2.2.2.2.2.2.2.1
      have q5 : σ.1 2 c 10 = μ.1 21 0 c := hq.2.2.2.2.2.2.2.2.2.2.1
      obtain ⟨w, -, w2, w3⟩ := ho0.2.2.2.2.2.2.2.2.1
      by_cases h2 : μ.1 20 0 c < nI n
      · refine ⟨σ, μ, -103, ?_, ?_, W, H, S, T, hR⟩
        · simp only [f_X11_take, hx, Option.bind_some, onR_s hc, if_pos h1.1, if_neg nl, q4, if_pos h2]
        · simp only [f_X12_take, hm, Option.bind_some, within_in h1.1 h1.2, chk, if_pos hi, hcl, if_pos h2]
          rfl
      · refine ⟨si (si σ 2 c 9 (μ.1 20 0 c - nI n)) 2 c 10 (nI (w + n)), si (si μ 20 0 c (μ.1 20 0 c - nI n)) 21 0 c (nI (w + n)), μ.1 20 0 c - nI n, ?_, ?_, W, H, S, T, ?_⟩
        · simp (decide := true) only [f_X11_take, hx, Option.bind_some, onR_s hc, if_pos h1.1, if_neg nl, q4, if_neg h2, bnd, si_eq, si_j, q5, w3, nI_add]
        · simp (decide := true) only [f_X12_take, hm, Option.bind_some, within_in h1.1 h1.2, chk, if_pos hi, hcl, if_neg h2, bnd, si_eq, si_k, w3, nI_add]
          rfl
        · refine hR.one hc (fun d hd => (si_i hd).trans (si_i hd)) (fun a ha => (si_k ha).trans (si_k ha)) rfl ((si_k (by decide)).trans (si_k (by decide))) ((MA.rf.si (by omega)).si (by omega)) ((si_k (by decide)).trans (si_k (by decide))) ((MA.rf.si (by omega)).si (by omega)) (fun a _ _ d hd => (si_j hd).trans (si_j hd)) ((si_j (by decide)).trans (si_j (by decide))) ((si_j (by decide)).trans (si_j (by decide))) (fun _ => ⟨?_, ?_⟩)
          · obtain ⟨a1, a2, a3, a4, a5, a6, a7, a8, a9, a10, a11, a12⟩ := hq
            simp (decide := true) only [REq, hpN, si_k, si_j, si_eq]
            exact ⟨a1, a2, a3, a4, a5, a6, a7, a8, a9, trivial, trivial, a12⟩
          · obtain ⟨b1, b2, b3, b4, b5, b6, b7, b8, b9, b10⟩ := ho
            simp (decide := true) only [MOK, hpN, stN, live, si_k, si_j, si_eq]
            exact ⟨b1, b2, b3, b4, b5, b6, b7, b8, ⟨w + n, by omega, by omega, rfl⟩, b10⟩
    · refine ⟨σ, μ, -102, ?_, ?_, W, H, S, T, hR⟩
      · simp only [f_X11_take, hx, Option.bind_some, onR_s hc]
        by_cases h2 : 1 ≤ p2
        · rw [if_pos h2, if_pos (Int32.not_le.mp (fun z => h1 ⟨h2, z⟩))]
        · rw [if_neg h2]
      · simp only [f_X12_take, hm, Option.bind_some, within_out h1]; rfl
theorem isKind_eq (p : Int32) : f_X11_isKind p = some (if 0 ≤ p ∧ p ≤ 4 then 1 else 0) := by
  unfold f_X11_isKind
  by_cases h1 : 0 ≤ p
  · by_cases h2 : p ≤ 4 <;> simp [h1, h2, Int32.not_lt]
  · simp [h1]
theorem ok_as_Rel : ok_as Rel := by
  intro k σ μ hk ⟨W, H, S, T, hR0⟩ p1 p2
  have hR := hR0.mono
  rcases hR.circ p1 with ⟨hx, hm⟩ | ⟨c, hc, rfl, hl, hx, hm⟩
  · refine ⟨-101, ?_, ?_, W, H, S, T, hR⟩
    · simp only [f_X11_as, hx, Option.bind_some, onR_n]
    · simp only [f_X12_as, hm, Option.bind_some]; rfl
  · obtain ⟨hq, ho, hS⟩ := hR.of_live hc hl
    have hi : inb (nI c) 8 := inbL hc (by decide)
    have hcl : Int32.toNatClampNeg (nI c) = c := clL (by omega)
    have hn := (hR.2.2.2.2.1 c hc).1
    have hk2 := hq.1
    by_cases h1 : 0 ≤ p2 ∧ p2 ≤ 4
    · have key : f_X11_as σ (nI c) p2 = f_X12_as μ (nI c) p2 := by
        simp only [f_X11_as, f_X12_as, hx, hm, Option.bind_some, onR_s hc, isKind_eq, within_eq, if_pos h1, chk, if_pos hi, hcl, bnd, f_X2_isOf, hk2, hn]
        simp only [show ¬ (1 : Int32) = 0 from by decide, if_false]
        by_cases a : p2 = 0
        · simp [a]
        · by_cases b : p2 = μ.1 10 0 c
          · simp [a, b]
          · by_cases d : p2 = 1
            · subst d
              by_cases e : μ.1 10 0 c = 2 <;> simp [b, e]
            · simp [a, b, d]
      have tot : ∃ r, f_X12_as μ (nI c) p2 = some r := by
        simp only [f_X12_as, hm, Option.bind_some, within_eq, if_pos h1, chk, if_pos hi, hcl, bnd]
        simp only [show ¬ (1 : Int32) = 0 from by decide, if_false]
        (repeat' split) <;> exact ⟨_, rfl⟩
      obtain ⟨r, hr⟩ := tot
      exact ⟨r, key.trans hr, hr, W, H, S, T, hR⟩
    · refine ⟨-102, ?_, ?_, W, H, S, T, hR⟩
      · simp only [f_X11_as, hx, Option.bind_some, onR_s hc, isKind_eq, if_neg h1]; rfl
      · simp only [f_X12_as, hm, Option.bind_some, within_out h1]; rfl
theorem arr_eq {σ μ : St} (h : RAr σ μ) (p1 p2 : Int32) : f_X11_arrived σ p1 p2 = f_X12_arrived μ p1 p2 ∧ ∃ r, f_X12_arrived μ p1 p2 = some r := by
  obtain ⟨⟨a1, a2, a3⟩, b1, b2, b3⟩ := h
  have c0 : inb 0 2 := by decide
  have c1 : inb 1 2 := by decide
  have d0 : Int32.toNatClampNeg 0 = 0 := by decide
  have d1 : Int32.toNatClampNeg 1 = 1 := by decide
  by_cases h1 : 0 ≤ p2 ∧ p2 ≤ 2
  · have n2 : ¬ (2 : Int32) < p2 := Int32.not_lt.mpr h1.2
    have q : ¬ (1 : Int32) = 0 := by decide
    have A : ∀ (w : Int32), inb w 2 → f_X12_arrivedNow μ w p2 = some (if p2 = 0 then μ.1 36 0 (Int32.toNatClampNeg w) else if p2 = 1 then μ.1 37 0 (Int32.toNatClampNeg w) else μ.1 38 0 (Int32.toNatClampNeg w)) := by
      intro w hw
      simp only [f_X12_arrivedNow, chk, if_pos hw]
      (repeat' split) <;> rfl
    have B : ∀ i, f_X0_tell σ i p2 = some (if p2 = 0 then σ.1 0 i 0 else if p2 = 1 then σ.1 0 i 1 else σ.1 0 i 2) := by
      intro i
      simp only [f_X0_tell]
      (repeat' split) <;> rfl
    have E : f_X11_arrived σ p1 p2 = f_X12_arrived μ p1 p2 := by
      simp only [f_X11_arrived, f_X12_arrived, within_in h1.1 h1.2, if_pos h1.1, if_neg n2, Option.bind_some, if_neg q, f_X9_arrivals, A 0 c0, A 1 c1, d0, d1]
      by_cases z : p1 = 0
      · simp only [if_pos z, Option.bind_some, chk, B, b1, b2, b3, show (1 : Nat) < 2 from by decide, if_true]
      · simp only [if_neg z, Option.bind_some, chk, B, a1, a2, a3, show (0 : Nat) < 2 from by decide, if_true]
    refine ⟨E, ?_⟩
    simp only [f_X12_arrived, within_in h1.1 h1.2, Option.bind_some, if_neg q, A 0 c0, A 1 c1]
    split <;> exact ⟨_, rfl⟩
  · have e : f_X12_arrived μ p1 p2 = some (-102) := by simp only [f_X12_arrived, within_out h1, Option.bind_some]; rfl
    refine ⟨?_, _, e⟩
    rw [e]
    unfold f_X11_arrived
    by_cases h2 : 0 ≤ p2
    · rw [if_pos h2, if_pos (Int32.not_le.mp (fun z => h1 ⟨h2, z⟩))]
    · rw [if_neg h2]
theorem ok_arrived_Rel : ok_arrived Rel := by
  intro k σ μ hk ⟨W, H, S, T, hR0⟩ p1 p2 hz
  have hR := hR0.mono
  obtain ⟨e, r, hr⟩ := arr_eq hR.2.2.2.2.2.2.2.2.1 p1 p2
  exact ⟨r, e.trans hr, hr, W, H, S, T, hR⟩
theorem fast_eq {σ μ : St} (h : RAr σ μ) : f_X11_faster σ = f_X12_faster μ ∧ ∃ r, f_X12_faster μ = some r := by
  obtain ⟨⟨a1, a2, a3⟩, b1, b2, b3⟩ := h
  have q : ¬ (1 : Int32) = 0 := by decide
  have key : f_X11_faster σ = f_X12_faster μ := by
    simp only [f_X11_faster, f_X12_faster, f_X9_arrivals, q, if_false, if_true, Option.bind_some, chk, f_X0_compareWith, f_X12_fasterNow, a1, a2, b1, b2, bnd, show (0 : Nat) < 2 from by decide, show (1 : Nat) < 2 from by decide]
    by_cases x : μ.1 36 0 0 = 0 <;> by_cases y : μ.1 36 0 1 = 0 <;> simp [x, y]
  refine ⟨key, ?_⟩
  simp only [f_X12_faster, f_X12_fasterNow, bnd]
  (repeat' split) <;> exact ⟨_, rfl⟩
theorem ok_faster_Rel : ok_faster Rel := by
  intro k σ μ hk ⟨W, H, S, T, hR0⟩
  have hR := hR0.mono
  obtain ⟨e, r, hr⟩ := fast_eq hR.2.2.2.2.2.2.2.2.1
  exact ⟨r, e.trans hr, hr, W, H, S, T, hR⟩
