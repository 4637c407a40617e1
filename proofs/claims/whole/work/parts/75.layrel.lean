/-! the relation behind a new way of a circuit -/
theorem lay_rel {W H S T k c : Nat} {σ μ σ2 μ2 : St} (h : RelP W H S T k σ μ) (hc : c < 8) (h0 : 0 < S)
    (x2 : ∀ e, e ≠ c → σ2.1 2 e = σ.1 2 e) (x17 : ∀ e, e ≠ c → σ2.1 17 e = σ.1 17 e) (x18 : ∀ e, e ≠ c → σ2.1 18 e = σ.1 18 e) (xn : σ2.1 2 c 0 = nI c) (x1 : σ2.1 2 c 1 = 1) (xk : ∀ a, a ≠ 2 → a ≠ 6 → a ≠ 16 → a ≠ 17 → a ≠ 18 → a ≠ 19 → a ≠ 20 → σ2.1 a = σ.1 a) (x20 : ∀ i, i < 9 → σ2.1 20 0 i = 0) (xl : σ2.2 = σ.2) (x18c : ∀ p, p < 8 → σ2.1 18 c p = -1)
    (m0 : ∀ j, j ≠ 45 → μ2.1 0 0 j = μ.1 0 0 j) (mk : ∀ a, 5 ≤ a → a ≤ 38 → (a < 9 ∨ 24 < a) → μ2.1 a = μ.1 a) (me : ∀ a, 9 ≤ a → a ≤ 24 → a ≠ 16 → ∀ e, e ≠ c → μ2.1 a 0 e = μ.1 a 0 e) (m16 : ∀ e p, e ≠ c → p < 8 → μ2.1 16 0 (8 * e + p) = μ.1 16 0 (8 * e + p)) (m9 : μ2.1 9 0 c = 1)
    (hq : REq σ2 μ2 c) (ho : MOK W H S T k μ2 c) (hbk : ¬ live μ c ∨ μ2.1 23 0 c = μ.1 23 0 c) (nol : ∀ n, μ.1 0 0 25 = nI n → n ≤ 64 → ∀ j, j < n → μ.1 26 0 j ≠ nI c)
    (hown : ∀ l s, l < 54 → s < 10 → (hasS μ2 S c l s → s < S ∧ σ2.1 16 0 (10 * l + s) = nI c ∧ ∀ e, e < 8 → e ≠ c → live μ e → ¬ hasS μ S e l s) ∧
      (¬ hasS μ2 S c l s → (σ2.1 16 0 (10 * l + s) = -1 ∧ (s < S → ∀ e, e < 8 → e ≠ c → live μ e → ¬ hasS μ S e l s)) ∨ (s < S ∧ ∃ e, e < 8 ∧ e ≠ c ∧ σ2.1 16 0 (10 * l + s) = nI e ∧ live μ e ∧ hasS μ S e l s ∧ ∀ d, d < 8 → d ≠ c → live μ d → hasS μ S d l s → d = e))) : RelP W H S T k σ2 μ2 := by
  have lv : ∀ e, e ≠ c → (live μ2 e ↔ live μ e) := fun e ec => by unfold live; rw [me 9 (by omega) (by omega) (by omega) e ec]
  have lc : live μ2 c := m9
  have hh : ∀ e, e ≠ c → hpN μ2 e = hpN μ e := fun e ec => by unfold hpN; rw [me 15 (by omega) (by omega) (by omega) e ec]
  have hst : ∀ e, e ≠ c → stN μ2 e = stN μ e := fun e ec => by unfold stN; rw [me 17 (by omega) (by omega) (by omega) e ec]
  have h6 : ∀ e, e < 8 → live μ e → hpN μ e ≤ 6 := fun e he hl => by
    obtain ⟨hp, -, g2, -, -, g5⟩ := h.hops he hl
    omega
  have hs : ∀ e l s, e < 8 → e ≠ c → live μ e → (hasS μ2 S e l s ↔ hasS μ S e l s) := by
    intro e l s he ec hl
    have := h6 e he hl
    unfold hasS
    rw [hh e ec, hst e ec]
    constructor
    · rintro ⟨p, t, a1, a2, a3, a4, a5⟩
      exact ⟨p, t, a1, a2, a3, a4, by rw [← m16 e p ec (by omega)]; exact a5⟩
    · rintro ⟨p, t, a1, a2, a3, a4, a5⟩
      exact ⟨p, t, a1, a2, a3, a4, by rw [m16 e p ec (by omega)]; exact a5⟩
  have hfull := h
  obtain ⟨g1, g2, g3, g4, g5, g6, g7, g8, g9, g10⟩ := h
  refine ⟨g1, g2, g3.cg (by rw [xk 5 (by decide) (by decide) (by decide) (by decide) (by decide) (by decide) (by decide)]) (xk 12 (by decide) (by decide) (by decide) (by decide) (by decide) (by decide) (by decide)) (m0 7 (by decide)) (mk 8 (by omega) (by omega) (by omega)), g4.cg (by rw [xk 4 (by decide) (by decide) (by decide) (by decide) (by decide) (by decide) (by decide)]) (xk 1 (by decide) (by decide) (by decide) (by decide) (by decide) (by decide) (by decide)) (by rw [xk 11 (by decide) (by decide) (by decide) (by decide) (by decide) (by decide) (by decide)]) (xk 14 (by decide) (by decide) (by decide) (by decide) (by decide) (by decide) (by decide)) (xk 15 (by decide) (by decide) (by decide) (by decide) (by decide) (by decide) (by decide)) (fun j hj => m0 j (by omega)) (fun a h1 h2 => mk a (by omega) (by omega) (by omega)), ?_, ?_, ?_, g8.cg (by rw [xk 8 (by decide) (by decide) (by decide) (by decide) (by decide) (by decide) (by decide)]) (xk 7 (by decide) (by decide) (by decide) (by decide) (by decide) (by decide) (by decide)) (by rw [xl]) (fun a h1 h2 => mk a (by omega) (by omega) (by omega)) (m0 30 (by decide)), g9.cg (xk 0 (by decide) (by decide) (by decide) (by decide) (by decide) (by decide) (by decide)) (fun a h1 h2 => mk a (by omega) (by omega) (by omega)), by unfold R10; rw [xk 10 (by decide) (by decide) (by decide) (by decide) (by decide) (by decide) (by decide), m0 4 (by decide)]; exact ⟨g10.1, x20⟩⟩
  · intro e he
    by_cases ec : e = c
    · subst ec
      exact ⟨xn, by rw [m9]; exact Or.inr rfl, by rw [x1, m9], fun _ => ⟨hq, ho, h0⟩⟩
    · obtain ⟨h1, h2, h3, h4⟩ := g5 e he
      have e9 := me 9 (by omega) (by omega) (by omega) e ec
      refine ⟨by rw [x2 e ec]; exact h1, by rw [e9]; exact h2, by rw [x2 e ec, e9]; exact h3, fun hl => ?_⟩
      have hle := (lv e ec).mp hl
      have he6 := h6 e he hle
      obtain ⟨k1, k2, k3⟩ := h4 hle
      refine ⟨?_, ?_, k3⟩
      · unfold REq at k1 ⊢
        rw [hh e ec, x2 e ec, x17 e ec, x18 e ec, me 10 (by omega) (by omega) (by omega) e ec, me 11 (by omega) (by omega) (by omega) e ec, me 12 (by omega) (by omega) (by omega) e ec, me 13 (by omega) (by omega) (by omega) e ec, me 14 (by omega) (by omega) (by omega) e ec, me 15 (by omega) (by omega) (by omega) e ec, me 17 (by omega) (by omega) (by omega) e ec, me 18 (by omega) (by omega) (by omega) e ec, me 19 (by omega) (by omega) (by omega) e ec, me 20 (by omega) (by omega) (by omega) e ec, me 21 (by omega) (by omega) (by omega) e ec, me 22 (by omega) (by omega) (by omega) e ec, me 23 (by omega) (by omega) (by omega) e ec, me 24 (by omega) (by omega) (by omega) e ec]
        obtain ⟨a1, a2, a3, a4, a5, a6, a7, a8, a9, a10, a11, a12, a13, a14, a15, a16⟩ := k1
        exact ⟨a1, a2, a3, a4, a5, a6, a7, a8, a9, a10, a11, a12, a13, a14, fun p hp => by rw [m16 e p ec (by omega)]; exact a15 p hp, a16⟩
      · unfold MOK at k2 ⊢
        rw [hh e ec, hst e ec, me 10 (by omega) (by omega) (by omega) e ec, me 11 (by omega) (by omega) (by omega) e ec, me 12 (by omega) (by omega) (by omega) e ec, me 13 (by omega) (by omega) (by omega) e ec, me 15 (by omega) (by omega) (by omega) e ec, me 17 (by omega) (by omega) (by omega) e ec, me 18 (by omega) (by omega) (by omega) e ec, me 21 (by omega) (by omega) (by omega) e ec, me 22 (by omega) (by omega) (by omega) e ec, me 23 (by omega) (by omega) (by omega) e ec, me 24 (by omega) (by omega) (by omega) e ec]
        obtain ⟨a1, a2, a3, a4, a5, a6, a7, a8, a9, a10, a11, a12⟩ := k2
        refine ⟨a1, a2, a3, a4, a5, a6, fun p hp => ?_, a8, a9, a10, a11, ?_⟩
        · rw [m16 e p ec (by omega)]
          exact a7 p hp
        · rcases a12 with y | ⟨b, hb, hbe, y1, y2, y3⟩
          · exact Or.inl y
          · right
            refine ⟨b, hb, hbe, y1, ?_⟩
            by_cases bc : b = c
            · subst bc
              rcases hbk with z | z
              · exact absurd y2 z
              · exact ⟨lc, z.trans y3⟩
            · exact ⟨(lv b bc).mpr y2, by rw [me 23 (by omega) (by omega) (by omega) b bc]; exact y3⟩
  · intro _ l hl s hs10
    obtain ⟨o1, o2⟩ := hown l s hl hs10
    by_cases q : hasS μ2 S c l s
    · right
      obtain ⟨p1, p2, p3⟩ := o1 q
      refine ⟨p1, c, hc, p2, lc, q, fun d hd hld hsd => ?_⟩
      by_cases dc : d = c
      · exact dc
      · have hld' := (lv d dc).mp hld
        exact absurd ((hs d l s hd dc hld').mp hsd) (p3 d hd dc hld')
    · rcases o2 q with ⟨p1, p2⟩ | ⟨p1, e, he, ec, p2, p3, p4, p5⟩
      · left
        refine ⟨p1, fun hsS d hd hld => ?_⟩
        by_cases dc : d = c
        · subst dc; exact q
        · have hld' := (lv d dc).mp hld
          rw [hs d l s hd dc hld']
          exact p2 hsS d hd dc hld'
      · right
        refine ⟨p1, e, he, p2, (lv e ec).mpr p3, (hs e l s he ec p3).mpr p4, fun d hd hld hsd => ?_⟩
        by_cases dc : d = c
        · subst dc; exact absurd hsd q
        · have hld' := (lv d dc).mp hld
          exact p5 d hd dc hld' ((hs d l s hd dc hld').mp hsd)
  · obtain ⟨n, hn, en, h1, h2, h3⟩ := g7
    have e26 := mk 26 (by omega) (by omega) (by omega)
    have e27 := mk 27 (by omega) (by omega) (by omega)
    have e28 := mk 28 (by omega) (by omega) (by omega)
    have e29 := mk 29 (by omega) (by omega) (by omega)
    refine ⟨n, hn, by rw [m0 25 (by decide)]; exact en, fun j hj => ?_, by rw [e26, e27]; exact h2, fun e p he hp hle hv => ?_⟩
    · obtain ⟨e, p, v, q1, q2, q3, q4, q5, q6, q7, q8, q9, q10⟩ := h1 j hj
      have ec : e ≠ c := fun z => nol n en hn j hj (by rw [← z]; exact q5.1)
      refine ⟨e, p, v, q1, (lv e ec).mpr q2, q3, by rw [hh e ec]; exact q4, ?_, by rw [x18 e ec]; exact q6, by rw [e28]; exact q7, by rw [e29]; exact q8, by rw [e29, me 23 (by omega) (by omega) (by omega) e ec]; exact q9, by rw [hst e ec]; exact q10⟩
      unfold letM at q5 ⊢
      rw [e26, e27, e28, e29]
      exact q5
    · by_cases ec : e = c
      · subst ec
        exact absurd (x18c p hp) hv
      · rw [x18 e ec] at hv ⊢
        obtain ⟨j, hj, q5⟩ := h3 e p he hp ((lv e ec).mp hle) hv
        refine ⟨j, hj, ?_⟩
        unfold letM at q5 ⊢
        rw [e26, e27, e28, e29]
        exact q5
