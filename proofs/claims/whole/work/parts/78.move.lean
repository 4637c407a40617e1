/-! move -/
theorem mark_own2 {W H S T k : Nat} {σ μ σ' : St} (h : RelP W H S T k σ μ) {c : Nat} (hc : c < 8) (hlv : live μ c) (v : Int32) (k1 : σ'.1 1 = σ.1 1) (k2 : σ'.1 2 c 15 = σ.1 2 c 15) (k3 : σ'.1 2 c 6 = σ.1 2 c 6) (k4 : σ'.1 17 = σ.1 17) : ∃ w, f_X1_mark σ' c v = some (s16 σ' w) ∧ ∀ l s, l < 54 → s < 10 → (hasS μ S c l s → w (10 * l + s) = v) ∧ (¬ hasS μ S c l s → w (10 * l + s) = σ'.1 16 0 (10 * l + s)) := by
  obtain ⟨st, h1, h2, h3, e1, e2, e3, h4, h5⟩ := h.starts hc hlv
  obtain ⟨hp, g1, g2, f1, f2, f3⟩ := h.hops hc hlv
  obtain ⟨q, o, hS⟩ := h.of_live hc hlv
  refine ⟨_, mark_eq (by rw [k1]; exact h.2.2.2.1.2.2.1) ⟨hS, h5⟩ (k2.trans e2) h3 (k3.trans f2) g2 (fun p hp2 => ?_), fun l s hl hs => ?_⟩
  · obtain ⟨l', a1, a2, -⟩ := o.2.2.2.2.2.2.1 p (by omega)
    exact ⟨l', a1, by rw [k4]; exact (q.2.2.2.2.2.2.2.2.2.2.2.2.2.2.1 p (by omega)).trans a2⟩
  · have key := mk_has h hc hlv hl hs
    rw [f3, e3] at key
    rw [mkW_eq, k4]
    constructor
    · intro hh
      rw [if_pos (key.mpr hh)]
    · intro hh
      rw [if_neg (fun z => hh (key.mp z))]
theorem RelP.scr2 {W H S T k : Nat} {σ μ σ' μ' : St} (h : RelP W H S T k σ μ) (xk : ∀ a, a ≠ 6 → a ≠ 16 → a ≠ 19 → a ≠ 20 → σ'.1 a = σ.1 a) (xl : σ'.2 = σ.2) (x16 : ∀ l s, l < 54 → s < 10 → σ'.1 16 0 (10 * l + s) = σ.1 16 0 (10 * l + s)) (x20 : ∀ i, i < 9 → σ'.1 20 0 i = 0) (m : Scr μ' μ) : RelP W H S T k σ' μ' := by
  obtain ⟨g1, g2, g3, g4, g5, g6, g7, g8, g9, g10⟩ := h
  have m1 := m.MA
  refine ⟨g1, g2, g3.cg (by rw [xk 5 (by decide) (by decide) (by decide) (by decide)]) (xk 12 (by decide) (by decide) (by decide) (by decide)) (m.2 7 (by decide)) (m1 8 (by omega) (by omega)), g4.cg (by rw [xk 4 (by decide) (by decide) (by decide) (by decide)]) (xk 1 (by decide) (by decide) (by decide) (by decide)) (by rw [xk 11 (by decide) (by decide) (by decide) (by decide)]) (xk 14 (by decide) (by decide) (by decide) (by decide)) (xk 15 (by decide) (by decide) (by decide) (by decide)) (fun j hj => m.2 j (by omega)) (m1.w (by omega) (by omega)), g5.cg (xk 2 (by decide) (by decide) (by decide) (by decide)) (xk 17 (by decide) (by decide) (by decide) (by decide)) (xk 18 (by decide) (by decide) (by decide) (by decide)) (m1.w (by omega) (by omega)), ?_, g7.cg (xk 18 (by decide) (by decide) (by decide) (by decide)) (m1.w (by omega) (by omega)) (m1 23 (by omega) (by omega)) (m1.w (by omega) (by omega)) (m.2 25 (by decide)), g8.cg (by rw [xk 8 (by decide) (by decide) (by decide) (by decide)]) (xk 7 (by decide) (by decide) (by decide) (by decide)) (by rw [xl]) (m1.w (by omega) (by omega)) (m.2 30 (by decide)), g9.cg (xk 0 (by decide) (by decide) (by decide) (by decide)) (m1.w (by omega) (by omega)), ?_, x20⟩
  · have m9 := m1.w (c := 9) (d := 17) (by omega) (by omega)
    intro h0 l hl s hs
    rw [x16 l s hl hs]
    have := g6 h0 l hl s hs
    simp only [live.cg m9, hasS.cg m9]
    exact this
  · rw [xk 10 (by decide) (by decide) (by decide) (by decide), m.2 4 (by decide)]
    exact g10.1
theorem ok_move_Rel : ok_move Rel := by
  intro k σ μ hk ⟨W, H, S, T, hR0⟩ p1
  have hR := hR0.mono
  have n10 : ¬ (1 : Int32) = 0 := by decide
  rcases hR.circ p1 with ⟨hx, hm⟩ | ⟨c, hc, rfl, hl, hx, hm⟩
  · refine ⟨σ, μ, -101, ?_, ?_, W, H, S, T, hR⟩
    · simp only [f_X11_move, hx, Option.bind_some, onR_n]
    · simp only [f_X12_move, hm, Option.bind_some]; rfl
  obtain ⟨nn, hnn, en, -⟩ := hR.2.2.2.2.2.2.1
  obtain ⟨q, o, hS⟩ := hR.of_live hc hl
  have i1 : inb (nI c) 8 := inbL hc (by decide)
  have c1 : Int32.toNatClampNeg (nI c) = c := clL (by omega)
  have u1 := undX σ c
  have u2 := undM (c := c) hnn en
  have ud := hR.und (by omega) hc hl hnn en
  rw [ud] at u1
  have hle := cntI_le (fun j => decide (μ.1 26 0 j = nI c)) nn
  by_cases hz : cntI (fun j => decide (μ.1 26 0 j = nI c)) nn = 0
  · have nl := no_let hR (by omega) hc hl hnn en hz
    rw [hz] at u1 u2 ud
    have n18 : ∀ p, p < 8 → σ.1 18 c p = -1 := fun p hp => by
      have := cnt_zero ud p hp
      simpa using this
    have ng : ¬ 0 < nI 0 := by decide
    obtain ⟨⟨kd, -, kd4, ek⟩, ⟨a, b, ha, hb, hab, ea, eb⟩, ⟨n, n1, n4, en'⟩, o4, o5, o6, o7, o8, o9, o10, o11, o12⟩ := o
    have hchip := hR.1.chip (by omega)
    have hS4 := hchip.2.2
    have hg := hR.2.2.2.1
    have cn := (hR.2.2.2.2.1 c hc).1
    have cl1 : σ.1 2 c 1 = 1 := ((hR.2.2.2.2.1 c hc).2.2.1).trans hl
    obtain ⟨w, hw1, hw2⟩ := mark_own2 (σ' := σ) hR hc hl (-1) rfl rfl rfl rfl
    have ro := hR.2.2.2.2.2.1 hS
    have mg : MG W H S (fun l => μ.1 5 0 l) (fun l s => (ownO μ S (nI c) l s).isNone) (nI c) μ := ⟨hR.mok, hg.2.2.2.2.1, hg.2.2.2.2.2.1, fun _ _ => rfl, fun _ _ _ _ => rfl⟩
    -- the slots without those of the circuit
    have hbase : ∀ l s, l < 54 → s < 10 → (w (10 * l + s) = -1 ∧ (s < S → ∀ e, e < 8 → e ≠ c → live μ e → ¬ hasS μ S e l s)) ∨ (s < S ∧ ∃ e, e < 8 ∧ e ≠ c ∧ w (10 * l + s) = nI e ∧ live μ e ∧ hasS μ S e l s ∧ ∀ d, d < 8 → d ≠ c → live μ d → hasS μ S d l s → d = e) := by
      intro l s hl' hs
      obtain ⟨w1, w2⟩ := hw2 l s hl' hs
      by_cases y : hasS μ S c l s
      · left
        refine ⟨w1 y, fun hsS e he ec hle hse => ?_⟩
        rcases ro l hl' s hs with ⟨-, z⟩ | ⟨-, d, hd, -, -, -, z⟩
        · exact z hsS e he hle hse
        · exact ec ((z e he hle hse).trans (z c hc hl y).symm)
      · rw [w2 y]
        rcases ro l hl' s hs with ⟨z1, z⟩ | ⟨hsS, d, hd, z1, z2, z3, z⟩
        · exact Or.inl ⟨z1, fun hsS e he _ hle => z hsS e he hle⟩
        · exact Or.inr ⟨hsS, d, hd, fun v => y (by rw [← v]; exact z3), z1, z2, z3, fun d' hd' _ hl2 hs2 => z d' hd' hl2 hs2⟩
    have ox : ∀ l s, l < 54 → s < S → decide ((s16 σ w).1 16 0 (10 * l + s) = -1) = (ownO μ S (nI c) l s).isNone := by
      intro l s hl' hs
      rw [s16_w]
      rcases hbase l s hl' (by omega) with ⟨z1, z⟩ | ⟨-, e, he, ec, z1, z2, z3, z⟩
      · rw [decide_eq_true z1, ownO_none (fun e he hle hne => z hs e he (fun v => hne (by rw [v])) hle)]
        rfl
      · rw [z1, decide_eq_false (nI_nm1 (by omega))]
        cases ho : ownO μ S (nI c) l s with
        | none => exact absurd z3 (ownO_no (by rw [ho]; rfl) e he z2 (fun v => ec (nI_inj (by omega) (by omega) v)))
        | some _ => rfl
    obtain ⟨σ', μ', xt, x20, ms, hF⟩ := find_both (σ := s16 σ w) (kd := kd) (a := a) (b := b) (n := n) hR.1 hS4 ha hb ⟨n1, n4⟩ kd4 mg (by rw [s16_k (by decide)]; exact hg.2.2.1) (by rw [s16_k (by decide)]; exact hg.2.2.2.2.2.2.2.2.1) (by rw [s16_k (by decide)]; exact fun l hl => (hg.2.2.2.2.2.2.2.2.2.1 l hl).1) ox (by rw [s16_k (by decide)]; exact hR.2.2.2.2.2.2.2.2.2.2)
    have s2 : (s16 σ w).1 2 = σ.1 2 := s16_k (by decide)
    have xk : ∀ a, a ≠ 6 → a ≠ 16 → a ≠ 19 → a ≠ 20 → σ'.1 a = σ.1 a := fun i i6 i16 i19 i20 => (xt.1 i i6 i19 i20).trans (s16_k i16)
    have x16 : σ'.1 16 0 = w := by rw [xt.1 16 (by decide) (by decide) (by decide), s16_w]
    have r2 : σ.1 2 c 2 = nI kd := q.1.trans ek
    have r3 : σ.1 2 c 3 = nI a := q.2.1.trans ea
    have r4 : σ.1 2 c 4 = nI b := q.2.2.1.trans eb
    have r5 : σ.1 2 c 5 = nI n := q.2.2.2.1.trans en'
    rcases hF with ⟨z1, z2⟩ | ⟨d, x, ls, z1, z2, hF⟩
    · obtain ⟨w', hw1', hw2'⟩ := mark_own2 (σ' := σ') hR hc hl (nI c) (xk 1 (by decide) (by decide) (by decide) (by decide)) (by rw [xk 2 (by decide) (by decide) (by decide) (by decide)]) (by rw [xk 2 (by decide) (by decide) (by decide) (by decide)]) (xk 17 (by decide) (by decide) (by decide) (by decide))
      have e0 : σ'.1 2 c 0 = nI c := by rw [xk 2 (by decide) (by decide) (by decide) (by decide)]; exact cn
      refine ⟨s16 σ' w', μ', -103, ?_, ?_, W, H, S, T, ?_⟩
      · simp only [f_X11_move, hx, Option.bind_some, onR_s hc, u1, if_neg ng, hw1, s2, r2, r3, r4, r5, z1, if_true, e0, hw1']
      · simp only [f_X12_move, hm, Option.bind_some, if_neg n10, u2, if_neg ng, chk, if_pos i1, c1, ek, ea, eb, en', z2, if_true]
      · refine hR.scr2 (fun i i6 i16 i19 i20 => (s16_k i16).trans (xk i i6 i16 i19 i20)) ?_ (fun l s hl' hs => ?_) (fun i hi => by rw [s16_k (by decide)]; exact x20 i hi) ms
        · show σ'.2 = σ.2
          exact xt.2
        · rw [s16_w]
          obtain ⟨v1, v2⟩ := hw2' l s hl' hs
          obtain ⟨w1, w2⟩ := hw2 l s hl' hs
          by_cases y : hasS μ S c l s
          · rw [v1 y]
            rcases ro l hl' s hs with ⟨-, z⟩ | ⟨-, d, hd, e, -, -, z⟩
            · obtain ⟨p, t, -, -, -, a4, -⟩ := id y
              exact absurd y (z (by rw [← a4]; exact Nat.mod_lt _ hS) c hc hl)
            · rw [e, z c hc hl y]
          · rw [v2 y, x16, w2 y]
    · have hF' := hF
      obtain ⟨f1, f2, f3, f4, f5, f6⟩ := way_facts hR.1 hS4 ha hb ⟨n1, n4⟩ kd4 hF
      obtain ⟨d1, d6, hx0, hx1, -, e66, e67, e19, e45, -⟩ := hF
      have k2 : σ'.1 2 = σ.1 2 := xk 2 (by decide) (by decide) (by decide) (by decide)
      obtain ⟨σ2, g1, g2, g3, g4, g5, g6, g7, g8, g9⟩ := giveTo_eq (σ := σ') (S := S) (c := c) (d := d) (a := a) (b := b) (x := x) (ls := ls) ⟨hS, hS4.2⟩ (by rw [xk 1 (by decide) (by decide) (by decide) (by decide)]; exact hg.2.2.1) hc ⟨d1, d6⟩ hx1 (by rw [k2]; exact cn) (by rw [k2]; exact r3) (by rw [k2]; exact r4) e66 e67 e19 f1 (fun p hp => (f4 p hp).1)
      obtain ⟨μ2, l1, l2, l3, l4, l5, l6, l7⟩ := layWay_eq (c := c) (x := x) hc d6 e45
      have nx : ¬ nI x = -1 := nI_nm1 (by omega)
      have mm : ∀ i, i ≠ 0 → i ≠ 15 → i ≠ 16 → i ≠ 17 → i ≠ 46 → i ≠ 47 → μ2.1 i = μ.1 i := fun i i0 i15 i16 i17 i46 i47 => (l2 i i15 i16 i17).trans (ms.1 i i0 i46 i47)
      have hp2 : hpN μ2 c = d := by unfold hpN nN; rw [l4, clL (by omega)]
      have hst2 : stN μ2 c = x := by unfold stN nN; rw [l5, clL (by omega)]
      have h16 : ∀ p, p < d + 2 → μ2.1 16 0 (8 * c + p) = nI (rtL a b ls p) := fun p hp => by rw [l6 p hp, f6 p hp]
      refine ⟨σ2, μ2, nI d, ?_, ?_, W, H, S, T, ?_⟩
      · simp only [f_X11_move, hx, Option.bind_some, onR_s hc, u1, if_neg ng, hw1, s2, r2, r3, r4, r5, z1, if_neg n10, g1, g5]
      · simp only [f_X12_move, hm, Option.bind_some, if_neg n10, u2, if_neg ng, chk, if_pos i1, c1, ek, ea, eb, en', z2, if_neg nx, l1, l4]
      · refine lay_rel hR hc hS (fun e ec => by rw [(g3 e ec).1, k2]) (fun e ec => by rw [(g3 e ec).2, xk 17 (by decide) (by decide) (by decide) (by decide)]) (fun e ec => by rw [g2 18 (by decide) (by decide) (by decide), xk 18 (by decide) (by decide) (by decide) (by decide)]) (by rw [g4 0 (by decide) (by decide), k2]; exact cn) (by rw [g4 1 (by decide) (by decide), k2]; exact cl1) (fun i i2 i6 i16 i17 i18 i19 i20 => by rw [g2 i i2 i16 i17, xk i i6 i16 i19 i20]) (fun i hi => by rw [g2 20 (by decide) (by decide) (by decide)]; exact x20 i hi) (g9.trans xt.2) (fun p hp => by rw [g2 18 (by decide) (by decide) (by decide), xk 18 (by decide) (by decide) (by decide) (by decide)]; exact n18 p hp) (fun j hj => by rw [l2 0 (by decide) (by decide) (by decide)]; exact ms.2 j hj) (fun i i1 i2 i3 => mm i (by omega) (by omega) (by omega) (by omega) (by omega) (by omega)) (fun i i1 i2 i3 e ec => ?_) (fun e p ec hp => by rw [l7 e p ec hp, ms.1 16 (by decide) (by decide) (by decide)]) (by rw [mm 9 (by decide) (by decide) (by decide) (by decide) (by decide) (by decide)]; exact hl) ?_ ?_ (Or.inr (by rw [mm 23 (by decide) (by decide) (by decide) (by decide) (by decide) (by decide)])) nl ?_
        · by_cases y : i = 15 ∨ i = 17
          · rcases y with rfl | rfl
            · rw [(l3 e ec).1, ms.1 15 (by decide) (by decide) (by decide)]
            · rw [(l3 e ec).2, ms.1 17 (by decide) (by decide) (by decide)]
          · rw [mm i (by omega) (by omega) (by omega) (by omega) (by omega) (by omega)]
        · unfold REq at q ⊢
          rw [hp2, g5, g6, l4, l5, g4 2 (by decide) (by decide), g4 3 (by decide) (by decide), g4 4 (by decide) (by decide), g4 5 (by decide) (by decide), g4 13 (by decide) (by decide), g4 8 (by decide) (by decide), g4 11 (by decide) (by decide), g4 9 (by decide) (by decide), g4 10 (by decide) (by decide), g4 12 (by decide) (by decide), g4 7 (by decide) (by decide), g4 14 (by decide) (by decide), k2, mm 10 (by decide) (by decide) (by decide) (by decide) (by decide) (by decide), mm 11 (by decide) (by decide) (by decide) (by decide) (by decide) (by decide), mm 12 (by decide) (by decide) (by decide) (by decide) (by decide) (by decide), mm 13 (by decide) (by decide) (by decide) (by decide) (by decide) (by decide), mm 14 (by decide) (by decide) (by decide) (by decide) (by decide) (by decide), mm 18 (by decide) (by decide) (by decide) (by decide) (by decide) (by decide), mm 19 (by decide) (by decide) (by decide) (by decide) (by decide) (by decide), mm 20 (by decide) (by decide) (by decide) (by decide) (by decide) (by decide), mm 21 (by decide) (by decide) (by decide) (by decide) (by decide) (by decide), mm 22 (by decide) (by decide) (by decide) (by decide) (by decide) (by decide), mm 23 (by decide) (by decide) (by decide) (by decide) (by decide) (by decide), mm 24 (by decide) (by decide) (by decide) (by decide) (by decide) (by decide)]
          obtain ⟨b1, b2, b3, b4, b5, -, -, b8, b9, b10, b11, b12, b13, b14, -, -⟩ := q
          exact ⟨b1, b2, b3, b4, b5, rfl, rfl, b8, b9, b10, b11, b12, b13, b14, fun p hp => by rw [h16 p hp]; exact g7 p hp, fun p hp _ => by rw [g2 18 (by decide) (by decide) (by decide), xk 18 (by decide) (by decide) (by decide) (by decide)]; exact n18 p hp⟩
        · have m9 := mm 9 (by decide) (by decide) (by decide) (by decide) (by decide) (by decide)
          unfold MOK
          rw [hp2, hst2, l4, l5, mm 10 (by decide) (by decide) (by decide) (by decide) (by decide) (by decide), mm 11 (by decide) (by decide) (by decide) (by decide) (by decide) (by decide), mm 12 (by decide) (by decide) (by decide) (by decide) (by decide) (by decide), mm 13 (by decide) (by decide) (by decide) (by decide) (by decide) (by decide), mm 18 (by decide) (by decide) (by decide) (by decide) (by decide) (by decide), mm 21 (by decide) (by decide) (by decide) (by decide) (by decide) (by decide), mm 22 (by decide) (by decide) (by decide) (by decide) (by decide) (by decide), mm 23 (by decide) (by decide) (by decide) (by decide) (by decide) (by decide), mm 24 (by decide) (by decide) (by decide) (by decide) (by decide) (by decide)]
          refine ⟨⟨kd, by omega, kd4, ek⟩, ⟨a, b, ha, hb, hab, ea, eb⟩, ⟨n, n1, n4, en'⟩, ⟨d, d1, d6, rfl⟩, ⟨x, by omega, by omega, rfl⟩, by rw [f3]; exact en', fun p hp => ⟨rtL a b ls p, (f4 p hp).1, h16 p hp, (f4 p hp).2⟩, o8, o9, o10, o11, ?_⟩
          unfold live at o12 ⊢
          rw [m9]
          exact o12
        · refine hown_of (S := S) (c := c) (d := d) (x := x) (a := a) (b := b) (ls := ls) (fre := fun l s => (ownO μ S (nI c) l s).isNone) (but := nI c) (b16 := fun l s => w (10 * l + s)) hS4 (fun l s _ _ => rfl) (fun e he ec z => ec (nI_inj (by omega) (by omega) z)) hbase (fun p hp => (f4 p hp).1) f5 hp2 hst2 h16 (fun l s hl' hs => ?_)
          obtain ⟨v1, v2⟩ := g8 l s hl' hs
          exact ⟨v1, fun y => by rw [v2 y, x16]⟩
  · have ng : 0 < nI (cntI (fun j => decide (μ.1 26 0 j = nI c)) nn) := nI_lt (a := 0) (by omega) (by omega)
    refine ⟨σ, μ, -103, ?_, ?_, W, H, S, T, hR⟩
    · simp only [f_X11_move, hx, Option.bind_some, onR_s hc, u1, if_pos ng]
    · simp only [f_X12_move, hm, Option.bind_some, if_neg n10, u2, if_pos ng]
