/-! calls on a circuit: feed, take, as; arrived, faster -/
theorem RCi.one {W H S T k c : Nat} {σ μ σ2 μ2 : St} (h : RCi W H S T k σ μ) (hc : c < 8) (x2 : ∀ d, d ≠ c → σ2.1 2 d = σ.1 2 d) (x17 : σ2.1 17 = σ.1 17) (x18 : σ2.1 18 = σ.1 18) (m9 : MA μ2 μ 9 17) (m23 : μ2.1 23 = μ.1 23) (m : ∀ a, 18 ≤ a → a ≤ 24 → ∀ d, d ≠ c → μ2.1 a 0 d = μ.1 a 0 d)
    (n0 : σ2.1 2 c 0 = σ.1 2 c 0) (n1 : σ2.1 2 c 1 = σ.1 2 c 1) (hn : live μ c → REq σ2 μ2 c ∧ MOK W H S T k μ2 c) : RCi W H S T k σ2 μ2 := by
  intro d hd
  obtain ⟨h1, h2, h3, h4⟩ := h d hd
  have e9 := m9 9 (by omega) (by omega)
  by_cases e : d = c
  · subst e
    refine ⟨n0.trans h1, by rw [e9]; exact h2, by rw [n1, e9]; exact h3, fun hl => ?_⟩
    rw [live.cg m9] at hl
    exact ⟨(hn hl).1, (hn hl).2, (h4 hl).2.2⟩
  · refine ⟨by rw [x2 d e]; exact h1, by rw [e9]; exact h2, by rw [x2 d e, e9]; exact h3, fun hl => ?_⟩
    rw [live.cg m9] at hl
    obtain ⟨g1, g2, g3⟩ := h4 hl
    refine ⟨?_, ?_, g3⟩
    · unfold REq at g1 ⊢
      rw [x2 d e, x17, x18, hpN.cg m9, m9 10 (by omega) (by omega), m9 11 (by omega) (by omega), m9 12 (by omega) (by omega), m9 13 (by omega) (by omega), m9 14 (by omega) (by omega), m9 15 (by omega) (by omega), m9 16 (by omega) (by omega), m9 17 (by omega) (by omega), m23, m 18 (by omega) (by omega) d e, m 19 (by omega) (by omega) d e, m 20 (by omega) (by omega) d e, m 21 (by omega) (by omega) d e, m 22 (by omega) (by omega) d e, m 24 (by omega) (by omega) d e]
      exact g1
    · unfold MOK at g2 ⊢
      simp only [live.cg m9]
      rw [hpN.cg m9, stN.cg m9, m9 10 (by omega) (by omega), m9 11 (by omega) (by omega), m9 12 (by omega) (by omega), m9 13 (by omega) (by omega), m9 15 (by omega) (by omega), m9 16 (by omega) (by omega), m9 17 (by omega) (by omega), m23, m 18 (by omega) (by omega) d e, m 21 (by omega) (by omega) d e, m 22 (by omega) (by omega) d e, m 24 (by omega) (by omega) d e]
      exact g2
/-- one circuit's own numbers have changed -/
theorem RelP.one {W H S T k c : Nat} {σ μ σ2 μ2 : St} (h : RelP W H S T k σ μ) (hc : c < 8) (x2 : ∀ d, d ≠ c → σ2.1 2 d = σ.1 2 d) (xa : ∀ a, a ≠ 2 → σ2.1 a = σ.1 a) (xl : σ2.2.1 = σ.2.1) (m0 : μ2.1 0 = μ.1 0) (m9 : MA μ2 μ 5 17) (m23 : μ2.1 23 = μ.1 23) (m26 : MA μ2 μ 26 38) (m : ∀ a, 18 ≤ a → a ≤ 24 → ∀ d, d ≠ c → μ2.1 a 0 d = μ.1 a 0 d)
    (n0 : σ2.1 2 c 0 = σ.1 2 c 0) (n1 : σ2.1 2 c 1 = σ.1 2 c 1) (hn : live μ c → REq σ2 μ2 c ∧ MOK W H S T k μ2 c) : RelP W H S T k σ2 μ2 := by
  obtain ⟨h1, h2, h3, h4, h5, h6, h7, h8, h9, h10⟩ := h
  refine ⟨h1, h2, h3.cg (by rw [xa 5 (by decide)]) (xa 12 (by decide)) (by rw [m0]) (m9 8 (by omega) (by omega)), h4.cg (by rw [xa 4 (by decide)]) (xa 1 (by decide)) (by rw [xa 11 (by decide)]) (xa 14 (by decide)) (xa 15 (by decide)) (fun j _ => by rw [m0]) (m9.w (by omega) (by omega)),
    h5.one hc x2 (xa 17 (by decide)) (xa 18 (by decide)) (m9.w (by omega) (by omega)) m23 m n0 n1 hn, h6.cg (xa 16 (by decide)) (m9.w (by omega) (by omega)), h7.cg (xa 18 (by decide)) (m9.w (by omega) (by omega)) m23 (m26.w (by omega) (by omega)) (by rw [m0]), h8.cg (by rw [xa 8 (by decide)]) (xa 7 (by decide)) xl (m26.w (by omega) (by omega)) (by rw [m0]), h9.cg (xa 0 (by decide)) (m26.w (by omega) (by omega)), ?_⟩
  unfold R10 at h10 ⊢
  rw [xa 10 (by decide), m0, xa 20 (by decide)]
  exact h10
theorem RelP.live1 {W H S T k c : Nat} {σ μ : St} (h : RelP W H S T k σ μ) (hc : c < 8) : (live μ c ∧ σ.1 2 c 1 = 1 ∧ μ.1 9 0 c = 1) ∨ (¬ live μ c ∧ σ.1 2 c 1 = 0 ∧ μ.1 9 0 c = 0) := by
  obtain ⟨-, h2, h3, -⟩ := h.2.2.2.2.1 c hc
  rcases h2 with e | e
  · right
    refine ⟨fun hl => ?_, h3.trans e, e⟩
    unfold live at hl
    rw [e] at hl
    exact absurd hl (by decide)
  · left
    exact ⟨e, h3.trans e, e⟩
/-- a number names a circuit, or none, on both sides alike -/
theorem RelP.circ {W H S T k : Nat} {σ μ : St} (h : RelP W H S T k σ μ) (p : Int32) :
    (f_X3_find σ p = some none ∧ f_X12_isCircuit μ p = some 0) ∨ ∃ c, c < 8 ∧ p = nI c ∧ live μ c ∧ f_X3_find σ p = some (some c) ∧ f_X12_isCircuit μ p = some 1 := by
  by_cases h1 : 0 ≤ p ∧ p ≤ 7
  · have h7 := h1.2
    rw [i_le, show (7 : Int32).toInt = 7 from by decide] at h7
    obtain ⟨c, hc, rfl⟩ := nat_of (hi := 7) h1.1 h7
    have hc8 : c < 8 := by omega
    have hx : f_X3_find σ (nI c) = if σ.1 2 c 1 = 0 then some none else some (some c) := by
      unfold f_X3_find
      rw [if_pos h1.1, if_neg (nleL 8 8 rfl hc8 (by decide)), clL (by omega)]
      simp only [chk, if_pos (inbL hc8 (by decide))]
    have hm : f_X12_isCircuit μ (nI c) = if μ.1 9 0 c = 0 then some 0 else some 1 := by
      simp only [f_X12_isCircuit, within_in h1.1 h1.2, Option.bind_some]
      rw [if_neg (by decide), clL (by omega)]
      simp only [chk, if_pos (inbL hc8 (by decide))]
    rcases h.live1 hc8 with ⟨a, b, d⟩ | ⟨a, b, d⟩
    · right
      exact ⟨c, hc8, rfl, a, by rw [hx, b, if_neg (by decide)], by rw [hm, d, if_neg (by decide)]⟩
    · left
      exact ⟨by rw [hx, b, if_pos rfl], by rw [hm, d, if_pos rfl]⟩
  · left
    constructor
    · unfold f_X3_find
      by_cases h2 : 0 ≤ p
      · rw [if_pos h2, if_pos]
        have : ¬ p ≤ 7 := fun z => h1 ⟨h2, z⟩
        rw [i_le, show (7 : Int32).toInt = 7 from by decide] at this
        rw [i_le, show (8 : Int32).toInt = 8 from by decide]
        omega
      · rw [if_neg h2]
    · simp only [f_X12_isCircuit, within_out h1, Option.bind_some]
      rfl
theorem RelP.of_live {W H S T k c : Nat} {σ μ : St} (h : RelP W H S T k σ μ) (hc : c < 8) (hl : live μ c) : REq σ μ c ∧ MOK W H S T k μ c ∧ 0 < S := (h.2.2.2.2.1 c hc).2.2.2 hl
theorem in199 {p : Int32} (h1 : 1 ≤ p) (h2 : p ≤ 99) : ∃ n, 1 ≤ n ∧ n ≤ 99 ∧ p = nI n := by
  rw [i_le, show (99 : Int32).toInt = 99 from by decide] at h2
  rw [i_le, show (1 : Int32).toInt = 1 from by decide] at h1
  exact ⟨p.toInt.toNat, by omega, by omega, of_toInt (by omega)⟩
theorem onR_n {β : Type} {n : Nat} {a : Option β} {b : Nat → Option β} : onR n none a b = a := rfl
theorem onR_s {β : Type} {n i : Nat} {a : Option β} {b : Nat → Option β} (h : i < n) : onR n (some i) a b = b i := by
  unfold onR chk
  exact if_pos h
theorem ok_feed_Rel : ok_feed Rel := by
  intro k σ μ hk ⟨W, H, S, T, hR⟩ p1 p2
  have hR := hR.mono
  rcases hR.circ p1 with ⟨hx, hm⟩ | ⟨c, hc, rfl, hl, hx, hm⟩
  · refine ⟨σ, μ, -101, ?_, ?_, W, H, S, T, hR⟩
    · simp only [f_X11_feed, hx, Option.bind_some, onR_n]
    · simp only [f_X12_feed, hm, Option.bind_some]; rfl
  · obtain ⟨hq, ho, hS⟩ := hR.of_live hc hl
    have hi : inb (nI c) 8 := inbL hc (by decide)
    have hcl : Int32.toNatClampNeg (nI c) = c := clL (by omega)
    by_cases h1 : 1 ≤ p2 ∧ p2 ≤ 99
    · obtain ⟨n, n1, n2, rfl⟩ := in199 h1.1 h1.2
      obtain ⟨q, -, q2, q3⟩ := ho.2.2.2.2.2.2.2.1
      have q4 : σ.1 2 c 8 = nI q := hq.2.2.2.2.2.2.2.1.trans q3
      have nl : ¬ (99 : Int32) < nI n := Int32.not_lt.mpr h1.2
      by_cases h2 : 99 < q + n
      · have hlt : (99 : Int32) < nI (q + n) := nI_lt (a := 99) h2 (by omega)
        refine ⟨σ, μ, -104, ?_, ?_, W, H, S, T, hR⟩
        · simp only [f_X11_feed, hx, Option.bind_some, onR_s hc, if_pos h1.1, if_neg nl, q4, nI_add, if_pos hlt]
        · simp only [f_X12_feed, hm, Option.bind_some, within_in h1.1 h1.2, chk, if_pos hi, hcl, q3, nI_add, if_pos hlt]
          rfl
      · have hlt : ¬ (99 : Int32) < nI (q + n) := nI_nlt (a := 99) (by omega) (by decide)
        refine ⟨si σ 2 c 8 (nI (q + n)), si μ 18 0 c (nI (q + n)), nI (q + n), ?_, ?_, W, H, S, T, ?_⟩
        · simp only [f_X11_feed, hx, Option.bind_some, onR_s hc, if_pos h1.1, if_neg nl, q4, nI_add, if_neg hlt, bnd, si_eq]
        · simp only [f_X12_feed, hm, Option.bind_some, within_in h1.1 h1.2, chk, if_pos hi, hcl, q3, nI_add, if_neg hlt, bnd, si_eq]
          rfl
        · refine hR.one hc (fun d hd => si_i hd) (fun a ha => si_k ha) rfl (si_k (by decide)) (MA.rf.si (by omega)) (si_k (by decide)) (MA.rf.si (by omega)) (fun a _ _ d hd => si_j hd) (si_j (by decide)) (si_j (by decide)) (fun _ => ⟨?_, ?_⟩)
          · obtain ⟨a1, a2, a3, a4, a5, a6, a7, a8, a9⟩ := hq
            simp (decide := true) only [REq, hpN, si_k, si_j, si_eq]
            exact ⟨a1, a2, a3, a4, a5, a6, a7, trivial, a9⟩
          · obtain ⟨b1, b2, b3, b4, b5, b6, b7, b8, b9⟩ := ho
            simp (decide := true) only [MOK, hpN, stN, live, si_k, si_j, si_eq]
            exact ⟨b1, b2, b3, b4, b5, b6, b7, ⟨q + n, by omega, by omega, rfl⟩, b9⟩
    · refine ⟨σ, μ, -102, ?_, ?_, W, H, S, T, hR⟩
      · simp only [f_X11_feed, hx, Option.bind_some, onR_s hc]
        by_cases h2 : 1 ≤ p2
        · rw [if_pos h2, if_pos (Int32.not_le.mp (fun z => h1 ⟨h2, z⟩))]
        · rw [if_neg h2]
      · simp only [f_X12_feed, hm, Option.bind_some, within_out h1]; rfl
