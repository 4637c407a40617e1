/-! close -/
theorem mk_has {W H S T k : Nat} {σ μ : St} (h : RelP W H S T k σ μ) {c l s : Nat} (hc : c < 8) (hlv : live μ c) (hl : l < 54) (hs : s < 10) : (List.range (hpN μ c + 2)).any (fun p => (List.range S).any (fun t => (stN μ c).testBit t && decide (10 * l + s = 10 * nN (σ.1 17 c p) + (t + p) % S))) = true ↔ hasS μ S c l s := by
  obtain ⟨q, o, hS⟩ := h.of_live hc hlv
  have h10 := h.1.S10
  unfold hasS
  simp only [List.any_eq_true, List.mem_range, Bool.and_eq_true, decide_eq_true_eq]
  have lk : ∀ p, p < hpN μ c + 2 → ∃ l', l' < 54 ∧ μ.1 16 0 (8 * c + p) = nI l' ∧ nN (σ.1 17 c p) = l' := by
    intro p hp
    obtain ⟨l', h1, h2, -⟩ := o.2.2.2.2.2.2.1 p hp
    refine ⟨l', h1, h2, ?_⟩
    unfold nN
    rw [q.2.2.2.2.2.2.2.2.2.2.2.2.2.2.1 p hp, h2, clL (by omega)]
  constructor
  · rintro ⟨p, hp, t, ht, h1, h2⟩
    obtain ⟨l', a1, a2, a3⟩ := lk p hp
    rw [a3] at h2
    have hm : (t + p) % S < S := Nat.mod_lt _ hS
    refine ⟨p, t, hp, ht, h1, by omega, ?_⟩
    rw [a2]
    congr 1
    omega
  · rintro ⟨p, t, hp, ht, h1, h2, h3⟩
    obtain ⟨l', a1, a2, a3⟩ := lk p hp
    rw [a2] at h3
    have : l' = l := nI_inj (by omega) (by omega) h3
    exact ⟨p, hp, t, ht, h1, by rw [a3, h2, this]⟩
/-- the owners behind a mark of a live circuit -/
theorem mark_own {W H S T k : Nat} {σ μ σ' : St} (h : RelP W H S T k σ μ) {c : Nat} (hc : c < 8) (hlv : live μ c) (v : Int32) (k1 : σ'.1 1 = σ.1 1) (k2 : σ'.1 2 c 15 = σ.1 2 c 15) (k3 : σ'.1 2 c 6 = σ.1 2 c 6) (k4 : σ'.1 17 = σ.1 17) (k5 : σ'.1 16 = σ.1 16) : ∃ w, f_X1_mark σ' c v = some (s16 σ' w) ∧ ∀ l s, l < 54 → s < 10 → (hasS μ S c l s → w (10 * l + s) = v) ∧ (¬ hasS μ S c l s → w (10 * l + s) = σ.1 16 0 (10 * l + s)) := by
  obtain ⟨st, h1, h2, h3, e1, e2, e3, h4, h5⟩ := h.starts hc hlv
  obtain ⟨hp, g1, g2, f1, f2, f3⟩ := h.hops hc hlv
  obtain ⟨q, o, hS⟩ := h.of_live hc hlv
  refine ⟨_, mark_eq (by rw [k1]; exact h.2.2.2.1.2.2.1) ⟨hS, h5⟩ (k2.trans e2) h3 (k3.trans f2) g2 (fun p hp2 => ?_), fun l s hl hs => ?_⟩
  · obtain ⟨l', a1, a2, -⟩ := o.2.2.2.2.2.2.1 p (by omega)
    exact ⟨l', a1, by rw [k4]; exact (q.2.2.2.2.2.2.2.2.2.2.2.2.2.2.1 p (by omega)).trans a2⟩
  · have key := mk_has h hc hlv hl hs
    rw [f3, e3] at key
    rw [mkW_eq, k4, k5]
    constructor
    · intro hh
      rw [if_pos (key.mpr hh)]
    · intro hh
      rw [if_neg (fun z => hh (key.mp z))]
theorem close_rel {W H S T k c : Nat} {σ μ σ2 μ2 : St} (h : RelP W H S T k σ μ) (hc : c < 8) (hlv : live μ c) (x2 : ∀ e j, ¬ (e = c ∧ j = 1) → j ≠ 7 → σ2.1 2 e j = σ.1 2 e j) (x1 : σ2.1 2 c 1 = 0) (x7 : ∀ e, e < 8 → e ≠ c → live μ e → σ2.1 2 e 7 = μ2.1 23 0 e) (xa : ∀ a, a ≠ 2 → a ≠ 16 → σ2.1 a = σ.1 a) (xl : σ2.2.1 = σ.2.1)
    (xo : ∀ l s, l < 54 → s < 10 → (hasS μ S c l s → σ2.1 16 0 (10 * l + s) = -1) ∧ (¬ hasS μ S c l s → σ2.1 16 0 (10 * l + s) = σ.1 16 0 (10 * l + s))) (m9 : ∀ e, e ≠ c → μ2.1 9 0 e = μ.1 9 0 e) (m9c : μ2.1 9 0 c = 0)
    (m23 : ∀ e, e < 8 → live μ e → e ≠ c → (μ.1 23 0 e = nI c ∧ μ2.1 23 0 e = -1) ∨ (μ.1 23 0 e ≠ nI c ∧ μ2.1 23 0 e = μ.1 23 0 e)) (ma : ∀ a, a ≠ 9 → a ≠ 23 → μ2.1 a = μ.1 a)
    (nol : ∀ n, μ.1 0 0 25 = nI n → n ≤ 64 → ∀ j, j < n → μ.1 26 0 j ≠ nI c ∧ ∀ e, e < 8 → μ.1 26 0 j = nI e → μ.1 23 0 e ≠ nI c) : RelP W H S T k σ2 μ2 := by
  have lv : ∀ e, e < 8 → (live μ2 e ↔ e ≠ c ∧ live μ e) := by
    intro e he
    unfold live
    by_cases ec : e = c
    · subst ec
      rw [m9c]
      constructor
      · intro z; exact absurd z (by decide)
      · rintro ⟨z, -⟩; exact absurd rfl z
    · rw [m9 e ec]
      exact ⟨fun z => ⟨ec, z⟩, fun z => z.2⟩
  have hh : ∀ e, hpN μ2 e = hpN μ e := fun e => by unfold hpN; rw [ma 15 (by decide) (by decide)]
  have hst : ∀ e, stN μ2 e = stN μ e := fun e => by unfold stN; rw [ma 17 (by decide) (by decide)]
  have hs : ∀ S e l s, hasS μ2 S e l s = hasS μ S e l s := fun S e l s => by
    unfold hasS
    simp only [hh, hst]
    rw [ma 16 (by decide) (by decide)]
  obtain ⟨g1, g2, g3, g4, g5, g6, g7, g8, g9, g10⟩ := h
  refine ⟨g1, g2, g3.cg (by rw [xa 5 (by decide) (by decide)]) (xa 12 (by decide) (by decide)) (by rw [ma 0 (by decide) (by decide)]) (ma 8 (by decide) (by decide)), g4.cg (by rw [xa 4 (by decide) (by decide)]) (xa 1 (by decide) (by decide)) (by rw [xa 11 (by decide) (by decide)]) (xa 14 (by decide) (by decide)) (xa 15 (by decide) (by decide)) (fun j _ => by rw [ma 0 (by decide) (by decide)]) (fun a h1 h2 => ma a (by omega) (by omega)), ?_, ?_, ?_, g8.cg (by rw [xa 8 (by decide) (by decide)]) (xa 7 (by decide) (by decide)) xl (fun a h1 h2 => ma a (by omega) (by omega)) (by rw [ma 0 (by decide) (by decide)]), g9.cg (xa 0 (by decide) (by decide)) (fun a h1 h2 => ma a (by omega) (by omega)), by unfold R10 at g10 ⊢; rw [xa 10 (by decide) (by decide), xa 20 (by decide) (by decide), ma 0 (by decide) (by decide)]; exact g10⟩
  · intro e he
    obtain ⟨h1, h2, h3, h4⟩ := g5 e he
    by_cases ec : e = c
    · subst ec
      refine ⟨by rw [x2 e 0 (fun z => absurd z.2 (by decide)) (by decide)]; exact h1, by rw [m9c]; exact Or.inl rfl, by rw [x1, m9c], fun hl => absurd rfl ((lv e he).mp hl).1⟩
    · refine ⟨by rw [x2 e 0 (fun z => absurd z.2 (by decide)) (by decide)]; exact h1, by rw [m9 e ec]; exact h2, by rw [x2 e 1 (fun z => ec z.1) (by decide), m9 e ec]; exact h3, fun hl => ?_⟩
      have hle := ((lv e he).mp hl).2
      obtain ⟨k1, k2, k3⟩ := h4 hle
      refine ⟨?_, ?_, k3⟩
      · unfold REq at k1 ⊢
        have n1 : ∀ j, j ≠ 7 → σ2.1 2 e j = σ.1 2 e j := fun j hj => x2 e j (fun z => ec z.1) hj
        rw [hh, xa 17 (by decide) (by decide), xa 18 (by decide) (by decide), n1 2 (by decide), n1 3 (by decide), n1 4 (by decide), n1 5 (by decide), n1 6 (by decide), n1 8 (by decide), n1 9 (by decide), n1 10 (by decide), n1 11 (by decide), n1 12 (by decide), n1 13 (by decide), n1 14 (by decide), n1 15 (by decide), x7 e he ec hle,
          ma 10 (by decide) (by decide), ma 11 (by decide) (by decide), ma 12 (by decide) (by decide), ma 13 (by decide) (by decide), ma 14 (by decide) (by decide), ma 15 (by decide) (by decide), ma 16 (by decide) (by decide), ma 17 (by decide) (by decide), ma 18 (by decide) (by decide), ma 19 (by decide) (by decide), ma 20 (by decide) (by decide), ma 21 (by decide) (by decide), ma 22 (by decide) (by decide), ma 24 (by decide) (by decide)]
        obtain ⟨a1, a2, a3, a4, a5, a6, a7, a8, a9, a10, a11, a12, -, a14⟩ := k1
        exact ⟨a1, a2, a3, a4, a5, a6, a7, a8, a9, a10, a11, a12, rfl, a14⟩
      · unfold MOK at k2 ⊢
        rw [hh, hst, ma 10 (by decide) (by decide), ma 11 (by decide) (by decide), ma 12 (by decide) (by decide), ma 13 (by decide) (by decide), ma 15 (by decide) (by decide), ma 16 (by decide) (by decide), ma 17 (by decide) (by decide), ma 18 (by decide) (by decide), ma 21 (by decide) (by decide), ma 22 (by decide) (by decide), ma 24 (by decide) (by decide)]
        obtain ⟨a1, a2, a3, a4, a5, a6, a7, a8, a9, a10, a11, a12⟩ := k2
        refine ⟨a1, a2, a3, a4, a5, a6, a7, a8, a9, a10, a11, ?_⟩
        rcases m23 e he hle ec with ⟨z1, z2⟩ | ⟨z1, z2⟩
        · exact Or.inl z2
        · rw [z2]
          rcases a12 with y | ⟨b, hb, hbe, y1, y2, y3⟩
          · exact Or.inl y
          · right
            have hbc : b ≠ c := fun w => z1 (by rw [← w]; exact y1)
            refine ⟨b, hb, hbe, y1, (lv b hb).mpr ⟨hbc, y2⟩, ?_⟩
            rcases m23 b hb y2 hbc with ⟨w1, w2⟩ | ⟨w1, w2⟩
            · rw [y3] at w1
              exact absurd (nI_inj (by omega) (by omega) w1) ec
            · rw [w2]; exact y3
  · intro hS l hl s hs10
    obtain ⟨o1, o2⟩ := xo l s hl hs10
    rcases g6 hS l hl s hs10 with ⟨e, hn⟩ | ⟨hsS, d, hd, e, h1, h2, hu⟩
    · left
      refine ⟨?_, fun hsS e' he' hle => ?_⟩
      · by_cases q : hasS μ S c l s
        · exact o1 q
        · rw [o2 q]; exact e
      · rw [hs]
        exact hn hsS e' he' ((lv e' he').mp hle).2
    · by_cases q : hasS μ S c l s
      · left
        have hdc : c = d := hu c hc hlv q
        refine ⟨o1 q, fun _ e' he' hle => ?_⟩
        rw [hs]
        intro z
        have := hu e' he' ((lv e' he').mp hle).2 z
        exact ((lv e' he').mp hle).1 (by rw [this, ← hdc])
      · right
        have hdc : d ≠ c := fun z => q (by rw [← z]; exact h2)
        refine ⟨hsS, d, hd, by rw [o2 q]; exact e, (lv d hd).mpr ⟨hdc, h1⟩, by rw [hs]; exact h2, fun e' he' hle hh' => ?_⟩
        rw [hs] at hh'
        exact hu e' he' ((lv e' he').mp hle).2 hh'
  · obtain ⟨n, hn, en, h1, h2, h3⟩ := g7
    have e26 := ma 26 (by decide) (by decide)
    have e27 := ma 27 (by decide) (by decide)
    have e28 := ma 28 (by decide) (by decide)
    have e29 := ma 29 (by decide) (by decide)
    have e18 := xa 18 (by decide) (by decide)
    refine ⟨n, hn, by rw [ma 0 (by decide) (by decide)]; exact en, fun j hj => ?_, by rw [e26, e27]; exact h2, fun e p he hp hle hv => ?_⟩
    · obtain ⟨e, p, v, q1, q2, q3, q4, q5, q6, q7, q8, q9, q10⟩ := h1 j hj
      obtain ⟨l1, l2⟩ := nol n en hn j hj
      have ec : e ≠ c := fun z => l1 (by rw [← z]; exact q5.1)
      refine ⟨e, p, v, q1, (lv e q1).mpr ⟨ec, q2⟩, q3, by rw [hh]; exact q4, ?_, by rw [e18]; exact q6, by rw [e28]; exact q7, by rw [e29]; exact q8, ?_, by rw [hst]; exact q10⟩
      · unfold letM at q5 ⊢
        rw [e26, e27, e28, e29]
        exact q5
      · rw [e29]
        rcases q9 with z | z
        · exact Or.inl z
        · right
          rcases m23 e q1 q2 ec with ⟨w1, -⟩ | ⟨-, w2⟩
          · exact absurd w1 (l2 e q1 q5.1)
          · rw [w2]; exact z
    · rw [e18] at hv ⊢
      obtain ⟨j, hj, q5⟩ := h3 e p he hp ((lv e he).mp hle).2 hv
      refine ⟨j, hj, ?_⟩
      unfold letM at q5 ⊢
      rw [e26, e27, e28, e29]
      exact q5
theorem cnt_zero {f : Nat → Bool} {n : Nat} (h : cntI f n = 0) : ∀ j, j < n → f j = false := by
  intro j hj
  unfold cntI at h
  have := List.eq_nil_of_length_eq_zero h
  rw [List.filter_eq_nil_iff] at this
  have h2 := this j (List.mem_range.mpr hj)
  cases hq : f j
  · rfl
  · exact absurd hq h2
