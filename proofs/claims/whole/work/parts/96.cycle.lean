/-! a cycle -/
set_option maxHeartbeats 4000000 in
theorem cycle_both {W H S T k : Nat} {σ μ : St} (h : RelP W H S T k σ μ) (hS : 0 < S) (hT : T + 1 ≤ 40 * k) (hk : k ≤ 513) : ∃ σ' μ' r, f_X10_goOn σ = some (σ', r) ∧ f_X12_cycle μ = some μ' ∧ μ'.1 0 0 50 = μ.1 0 0 50 + r ∧ RelP W H S (T + 1) k σ' μ' := by
  obtain ⟨σ1, μ1, p1, p2, hM, p50⟩ := sends_both h hS hk
  have hw := hM.1
  have hM2 := hM
  obtain ⟨-, -, gPg, hg, gCi, gOw, ⟨nL, hnL, enL, -⟩, hs, gAr, g10⟩ := hM2
  have hs2 := hs
  obtain ⟨n, hn, ex, em, hpos, hl, hi, hd⟩ := hs2
  have sf := fun j (hj : j < n) => stray_facts hw hs ex hn hj
  have lf := fun j (hj : j < nL) => let_facts hM hk (Nat.le_refl 8) (show nL ≤ 100 by omega) enL hj
  have eT : μ1.1 0 0 3 = nI T := hg.2.2.2.2.2.2.2.1
  -- the links that letters use
  obtain ⟨μ2, u1, u2, u3⟩ := uses_eq (μ := μ1) (n := nL) (lk := lkN T μ1) hnL enL (fun j hj => by
    obtain ⟨f1, f2, f3, f4, f5, f6, f7, -, -, -, -, -, -, f14, f15, -⟩ := lf j hj
    refine ⟨f14, fun μ' hμ => linkOf_eq (T := T) (c := foN μ1 j) (p := plN T μ1 j) (by omega) f1 (by omega) f5 (by omega) ?_ ?_ ?_ ?_⟩
    · rw [hμ 26 (by decide)]; exact f6
    · rw [hμ 27 (by decide)]; exact f7
    · rw [hμ 0 (by decide)]; exact eT
    · rw [hμ 16 (by decide)]; exact f15)
  -- strays
  obtain ⟨σ2, x1, x2, x3, x4, x5, x6⟩ := moveStraysX (W := W) (H := H) (n := n) (σ := σ1) (u := uN μ1) (nx := nxN W μ1) (fr := fun l => !shB μ1 nL S T l) ex hn hl hi (fun o ho => (sf o ho).2.1) (fun j hj => by
    obtain ⟨-, -, b1, b2, f, d, hf, hd', e31, e32, e3, e4, e5, exn, e34, hW, hW3, h9⟩ := sf j hj
    refine ⟨b1, b2, fun σ' hσ hσ7 => ?_⟩
    have := nextXn (σ := σ') (i := σ1.2.1 j) (f := f) (d := d) hW hW3 (by rw [hσ 4 (by decide)]; exact hg.1) (by omega) (by omega) (by rw [hσ7 _ 3 (by decide)]; exact e3) (by rw [hσ7 _ 4 (by decide)]; exact e4) (by
      rw [hσ7 _ 5 (by decide), e5]
      rcases e34 with z | ⟨x, hx, z⟩
      · exact Or.inl z
      · exact Or.inr ⟨x, by omega, z⟩)
    rw [hσ7 _ 5 (by decide), e5, ← exn] at this
    exact this) (fun l hl' σ' hσ => freeS hM hk (Nat.le_refl 8) hnL hS hl' enL hσ) hg.2.2.2.2.2.2.2.2.1
  obtain ⟨μ3, y1, y2, y3, y4⟩ := moveStraysM (n := n) (μ := μ2) (u := uN μ1) (nx := nxN W μ1) (sh := shB μ1 nL S T) (by rw [u2 0 (by decide)]; exact em) hn (fun o ho => by rw [u2 33 (by decide)]; exact (sf o ho).1) (fun j hj => by
    obtain ⟨-, -, b1, b2, f, d, hf, hd', e31, e32, e3, e4, e5, exn, e34, hW, hW3, h9⟩ := sf j hj
    refine ⟨b1, fun μ' hμ => ?_⟩
    have hμ1 : ∀ a, a ≠ 6 → a ≠ 48 → a ≠ 49 → μ'.1 a = μ1.1 a := fun a a6 a48 a49 => (hμ a a48 a49).trans (u2 a a6)
    have := nextMn (μ := μ') (j := j) (f := f) (d := d) (by omega) hW hW3 (by rw [hμ1 0 (by decide) (by decide) (by decide)]; exact hg.2.2.2.2.1) (by omega) (by omega) (by rw [hμ1 31 (by decide) (by decide) (by decide)]; exact e31) (by rw [hμ1 32 (by decide) (by decide) (by decide)]; exact e32) (by
      rw [hμ1 34 (by decide) (by decide) (by decide)]
      rcases e34 with z | ⟨x, hx, z⟩
      · exact Or.inl z
      · exact Or.inr ⟨x, by omega, z⟩)
    rw [hμ1 34 (by decide) (by decide) (by decide), ← exn] at this
    exact this) (fun l hl' μ' hμ => shutM hM hk (Nat.le_refl 8) hnL hS hl' enL (fun a a6 a48 a49 => (hμ a a6 a48 a49).trans (u2 a a6)))
  have m3 : ∀ a, a ≠ 6 → a ≠ 48 → a ≠ 49 → μ3.1 a = μ1.1 a := fun a a6 a48 a49 => (y2 a a6 a48 a49).trans (u2 a a6)
  -- the reference's letters
  obtain ⟨μ4, z1, z2, z3, z4, z5, z6, z7, z8, z9⟩ := setLetters_eq (μ := μ3) (n := nL) (T := T) (fo := foN μ1) (pl := plN T μ1) (ld := ldN μ1) (tl := tlN μ1) (hp := hpN μ1) (bk := bkN μ1) (ar := arN T μ1) hnL (by omega) (by rw [m3 0 (by decide) (by decide) (by decide)]; exact enL) (by rw [m3 0 (by decide) (by decide) (by decide)]; exact eT) (fun j hj => by
    obtain ⟨f1, f2, f3, f4, f5, f6, -⟩ := lf j hj
    rw [m3 26 (by decide) (by decide) (by decide)]
    exact ⟨f1, f6⟩) (fun j hj => by
    obtain ⟨f1, f2, f3, f4, f5, f6, f7, -⟩ := lf j hj
    rw [m3 27 (by decide) (by decide) (by decide)]
    exact ⟨f5, by omega, f7⟩) (fun j hj => by
    obtain ⟨f1, f2, f3, f4, f5, f6, f7, f8, -⟩ := lf j hj
    rw [m3 28 (by decide) (by decide) (by decide)]
    exact f8) (fun j hj => by
    obtain ⟨f1, f2, f3, f4, f5, f6, f7, f8, f9, f10, f11, -⟩ := lf j hj
    rw [m3 29 (by decide) (by decide) (by decide)]
    exact ⟨f11, f10⟩) (fun j hj => by
    obtain ⟨f1, f2, f3, f4, -⟩ := lf j hj
    obtain ⟨hp, -, -, e15, -, e3⟩ := hM.hops f1 f2
    rw [m3 15 (by decide) (by decide) (by decide), e3]
    exact ⟨by omega, e15⟩) (fun j hj => by
    obtain ⟨f1, f2, -, -, -, -, -, -, -, -, -, f12, -⟩ := lf j hj
    rcases f12 with z | z
    · exact Or.inl z
    · right
      rw [m3 23 (by decide) (by decide) (by decide)]
      rcases (hM.of_live f1 f2).2.1.2.2.2.2.2.2.2.2.2.2.2 with y | ⟨b, hb, -, y, -⟩
      · exact absurd y z
      · have : bkN μ1 (foN μ1 j) = b := by unfold bkN nN; rw [if_neg z, y, clL (by omega)]
        rw [this]
        exact ⟨hb, y⟩) (fun _ => rfl)
  have m4 : ∀ a, a ≠ 0 → a ≠ 6 → a ≠ 19 → a ≠ 20 → a ≠ 22 → (a < 26 ∨ 29 < a) → a ≠ 48 → a ≠ 49 → μ4.1 a = μ1.1 a := fun a a0 a6 a19 a20 a22 a26 a48 a49 => (z2 a a0 a19 a20 a22 a26).trans (m3 a a6 a48 a49)
  have m40 : ∀ i, i ≠ 25 → i ≠ 50 → μ4.1 0 0 i = μ1.1 0 0 i := fun i i1 i2 => (z3 i i1 i2).trans (by rw [m3 0 (by decide) (by decide) (by decide)])
  have k2 : ∀ a, a ≠ 7 → a ≠ 15 → σ2.1 a = σ1.1 a := x2
  -- strays that went out
  obtain ⟨σ3, μ5, w1, w2, wAr, w4, w5, w6, w7, w8, w9, w10, w11, w12, w13, w14⟩ := outs_both (W := W) (H := H) (S := S) (T := T) (n := n) (σ := σ2) (μ := μ4) (nx := nxN W μ1) (u := uN μ1) (mv := fun j => frst n (uN μ1) (nxN W μ1) j && !shB μ1 nL S T (nxN W μ1 j)) (atV := fun j => if (frst n (uN μ1) (nxN W μ1) j && !shB μ1 nL S T (nxN W μ1 j)) then endV W H (nxN W μ1 j) else μ1.1 34 0 j) hw hn (by rw [k2 8 (by decide) (by decide)]; exact ex) (by rw [m40 30 (by decide) (by decide)]; exact em) (by rw [k2 1 (by decide) (by decide)]; exact hg.2.2.2.1) (by rw [m40 3 (by decide) (by decide)]; exact eT) (by rw [m40 0 (by decide) (by decide)]; exact hg.2.2.2.2.1) (by rw [m40 1 (by decide) (by decide)]; exact hg.2.2.2.2.2.1) (by rw [x3]; exact hl) (by rw [x3]; exact hi) (fun j hj => by
    obtain ⟨s33, s0, b1, b2, -⟩ := sf j hj
    obtain ⟨-, -, a3, -, -, -, a7, -⟩ := hd j hj
    rw [x3, x4 _ 0 (by decide) (by decide) (by decide), x4 _ 6 (by decide) (by decide) (by decide), (x5 j hj).2, m4 35 (by decide) (by decide) (by decide) (by decide) (by decide) (by decide) (by decide) (by decide)]
    refine ⟨s0, ?_, a7⟩
    cases (frst n (uN μ1) (nxN W μ1) j && !shB μ1 nL S T (nxN W μ1 j))
    · rw [if_neg (by decide), Bool.false_and]; exact a3
    · rw [if_pos rfl, Bool.true_and, (en_ok hw b1 b2).1]) (fun j hj => by
    obtain ⟨s33, s0, b1, b2, -⟩ := sf j hj
    obtain ⟨y48, y49⟩ := y3 j hj
    rw [m4 33 (by decide) (by decide) (by decide) (by decide) (by decide) (by decide) (by decide) (by decide), m4 34 (by decide) (by decide) (by decide) (by decide) (by decide) (by decide) (by decide) (by decide), z2 48 (by decide) (by decide) (by decide) (by decide) (by decide), z2 49 (by decide) (by decide) (by decide) (by decide) (by decide)]
    exact ⟨s33, y48, y49, b1, b2, rfl⟩) (by
    obtain ⟨⟨r1, r2, r3⟩, r4, r5, r6⟩ := gAr
    unfold RAr
    rw [k2 0 (by decide) (by decide), m4 36 (by decide) (by decide) (by decide) (by decide) (by decide) (by decide) (by decide) (by decide), m4 37 (by decide) (by decide) (by decide) (by decide) (by decide) (by decide) (by decide) (by decide), m4 38 (by decide) (by decide) (by decide) (by decide) (by decide) (by decide) (by decide) (by decide)]
    exact ⟨⟨r1, r2, r3⟩, r4, r5, r6⟩)
  have k3 : ∀ a, a ≠ 0 → a ≠ 7 → a ≠ 8 → a ≠ 15 → σ3.1 a = σ1.1 a := fun a a0 a7 a8 a15 => (w4 a a0 a8).trans (k2 a a7 a15)
  -- the class's letters
  obtain ⟨σ4, v1, v2, v3, v4, v5, v6, v7, v8, v9, v10⟩ := moveLetters_eq (σ := σ3) (lv := lvB μ1) (hp := hpN μ1) (G := gN σ1 μ1) (D := dN σ1 μ1) (lkx := fun c p => nN (σ1.1 17 c p)) (bko := bkO μ1) (fun c hc => by
    rw [k3 2 (by decide) (by decide) (by decide) (by decide), (gCi c hc).2.2.1]
    unfold lvB
    rcases (gCi c hc).2.1 with z | z
    · rw [z]; rfl
    · rw [z]; rfl) (fun c hc hlc => by
    obtain ⟨hp, h1, h6, -, e6, e3⟩ := hM.hops hc (lvB_live.mp hlc)
    rw [k3 2 (by decide) (by decide) (by decide) (by decide), e3]
    exact ⟨e6, h1, h6⟩) (fun c hc hlc p hp => by
    obtain ⟨q, o, -⟩ := hM.of_live hc (lvB_live.mp hlc)
    obtain ⟨l', a1, a2, -⟩ := o.2.2.2.2.2.2.1 p hp
    have e17 := q.2.2.2.2.2.2.2.2.2.2.2.2.2.2.1 p hp
    have : nN (σ1.1 17 c p) = l' := by unfold nN; rw [e17, a2, clL (by omega)]
    rw [k3 17 (by decide) (by decide) (by decide) (by decide), this, e17, a2]
    exact ⟨a1, rfl⟩) (fun c hc hlc => by
    rw [k3 18 (by decide) (by decide) (by decide) (by decide)]
    unfold gN dN
    by_cases q : VN σ1 μ1 c = -1
    · left
      exact ⟨q, if_pos q, if_pos q⟩
    · right
      obtain ⟨hp, -, hp6, -, -, e3⟩ := hM.hops hc (lvB_live.mp hlc)
      obtain ⟨n', hn', en', -, -, h3⟩ := hM.2.2.2.2.2.2.1
      have : n' = nL := nI_inj (by omega) (by omega) (en'.symm.trans enL)
      subst this
      obtain ⟨j, hj, l1, l2, l3, l4⟩ := h3 c (hpN μ1 c + 1) hc (by omega) (lvB_live.mp hlc) q
      obtain ⟨f1, f2, f3, f4, f5, f6, f7, f8, f9, f10, f11, f12, f13, -⟩ := lf j hj
      have zc : foN μ1 j = c := by unfold foN nN; rw [l1, clL (by omega)]
      have zp : plN T μ1 j = hpN μ1 c + 1 := by unfold plN nN; rw [l3, clL (by omega)]; omega
      rw [zc, zp] at f13
      have eV : nN (VN σ1 μ1 c) = 2 * tlN μ1 j + ldN μ1 j := by unfold VN nN; rw [f13, clL (by omega)]
      rw [if_neg q, if_neg q, eV, f13]
      refine ⟨by omega, by omega, ?_⟩
      congr 1
      omega) (fun c hc hlc => by
    obtain ⟨q, o, -⟩ := hM.of_live hc (lvB_live.mp hlc)
    rw [k3 2 (by decide) (by decide) (by decide) (by decide), q.2.2.2.2.2.2.2.2.2.2.2.2.1]
    unfold bkO
    rcases o.2.2.2.2.2.2.2.2.2.2.2 with y | ⟨b, hb, hbc, y, lb, -⟩
    · exact Or.inl ⟨y, if_pos y⟩
    · right
      refine ⟨b, hb, hbc, lvB_live.mpr lb, y, ?_⟩
      rw [if_neg (by rw [y]; exact nI_nm1 (by omega)), y]
      unfold nN
      rw [clL (by omega)])
  -- the end
  have aU : afterU μ2 = some (si μ5 0 0 3 (nI (T + 1))) := by
    unfold afterU
    rw [y1, Option.bind_some, z1, Option.bind_some, w2, Option.bind_some, bnd_eq, w11 3 (by decide) (by decide), m40 3 (by decide) (by decide), eT, nI_1]
  have gsm : ∀ c, c < 8 → live μ1 c → gN σ1 μ1 c = sumN (fun j => if foN μ1 j = c then (if arN T μ1 j then ldN μ1 j else 0) else 0) nL ∧ dN σ1 μ1 c = sumN (fun j => if foN μ1 j = c then (if arN T μ1 j then tlN μ1 j else 0) else 0) nL := fun c hc hlc => gsum hM hk hnL enL hc hlc
  have cm : sumN (fun c => if lvB μ1 c then gN σ1 μ1 c else 0) 8 = sumN (fun j => if arN T μ1 j then ldN μ1 j else 0) nL := totsum hM hk hnL enL _ _ (fun c hc hlc => (gsm c hc hlc).1)
  refine ⟨si σ4 1 0 2 (nI (T + 1)), si μ5 0 0 3 (nI (T + 1)), nI (n - (stay (fun j => (frst n (uN μ1) (nxN W μ1) j && !shB μ1 nL S T (nxN W μ1 j)) && decide (nxN W μ1 j % 6 = 1)) n).length) + nI (sumN (fun c => if lvB μ1 c then gN σ1 μ1 c else 0) 8), ?_, (p2.trans u1).trans aU, ?_, ?_⟩
  · unfold f_X10_goOn
    rw [p1, Option.bind_some, x1, Option.bind_some, w1, Option.bind_some]
    dsimp only
    rw [v1, Option.bind_some]
    dsimp only
    rw [bnd_eq, v2 1 (by decide) (by decide) (by decide), k3 1 (by decide) (by decide) (by decide) (by decide), hg.2.2.2.1, nI_1]
  · rw [si_j (by decide), w13, z5, m3 0 (by decide) (by decide) (by decide), p50, cm, Int32.add_assoc, Int32.add_comm (nI (sumN _ nL))]
  -- the relation
  have kσ : ∀ a, a ≠ 0 → a ≠ 1 → a ≠ 2 → a ≠ 7 → a ≠ 8 → a ≠ 15 → a ≠ 18 → (si σ4 1 0 2 (nI (T + 1))).1 a = σ1.1 a := fun a a0 a1 a2 a7 a8 a15 a18 => (si_k a1).trans ((v2 a a2 a15 a18).trans (k3 a a0 a7 a8 a15))
  have kμ : ∀ a, a ≠ 0 → a ≠ 6 → a ≠ 19 → a ≠ 20 → a ≠ 22 → a < 26 → (si μ5 0 0 3 (nI (T + 1))).1 a = μ1.1 a := fun a a0 a6 a19 a20 a22 a26 => (si_k a0).trans ((w10 a a0 (by omega)).trans (m4 a a0 a6 a19 a20 a22 (by omega) (by omega) (by omega)))
  have k0 : ∀ i, i ≠ 3 → i ≠ 25 → i ≠ 30 → i ≠ 50 → (si μ5 0 0 3 (nI (T + 1))).1 0 0 i = μ1.1 0 0 i := fun i i3 i25 i30 i50 => (si_j i3).trans ((w11 i i30 i50).trans (m40 i i25 i50))
  have m9 : MA (si μ5 0 0 3 (nI (T + 1))) μ1 9 17 := fun a a1 a2 => kμ a (by omega) (by omega) (by omega) (by omega) (by omega) (by omega)
  have f2 : ∀ c j, j ≠ 9 → j ≠ 11 → j ≠ 12 → (si σ4 1 0 2 (nI (T + 1))).1 2 c j = σ1.1 2 c j := fun c j j9 j11 j12 => by rw [si_k (by decide), v4 c j j9 j11 j12, k3 2 (by decide) (by decide) (by decide) (by decide)]
  have pick : ∀ c, c < 8 → live μ1 c → sumN (fun c' => if lvB μ1 c' then (if c = c' then gN σ1 μ1 c' else 0) else 0) 8 = gN σ1 μ1 c := by
    intro c hc hlc
    have e : sumN (fun c' => if lvB μ1 c' then (if c = c' then gN σ1 μ1 c' else 0) else 0) 8 = sumN (fun c' => if c' = c then gN σ1 μ1 c else 0) 8 := by
      refine sumN_cg (fun c' _ => ?_)
      by_cases q : c' = c
      · subst q
        rw [lvB_live.mpr hlc, if_pos rfl, if_pos rfl]
      · have q' : ¬ c = c' := fun z => q z.symm
        rw [if_neg q, if_neg q']
        split <;> rfl
    rw [e, sumN_at, if_pos hc]
  have come : ∀ c, c < 8 → live μ1 c → sumN (fun j => if arN T μ1 j then (if c = foN μ1 j then ldN μ1 j else 0) else 0) nL = gN σ1 μ1 c := by
    intro c hc hlc
    rw [(gsm c hc hlc).1]
    refine sumN_cg (fun j _ => ?_)
    by_cases q : foN μ1 j = c
    · rw [if_pos q, if_pos q.symm]
    · have q' : ¬ c = foN μ1 j := fun z => q z.symm
      rw [if_neg q, if_neg q']
      split <;> rfl
  have cred : ∀ c, c < 8 → sumN (fun c' => if lvB μ1 c' then (if bkO μ1 c' = some c then dN σ1 μ1 c' else 0) else 0) 8 = sumN (fun j => if arN T μ1 j then (if c = bkN μ1 (foN μ1 j) then tlN μ1 j else 0) else 0) nL := by
    intro c hc
    have bi : ∀ c', bkO μ1 c' = some c ↔ c = bkN μ1 c' := by
      intro c'
      unfold bkO bkN
      by_cases q : μ1.1 23 0 c' = -1
      · rw [if_pos q, if_pos q]
        exact ⟨fun z => (by cases z), fun z => (by omega)⟩
      · rw [if_neg q, if_neg q]
        exact ⟨fun z => (by injection z with z; exact z.symm), fun z => (by rw [z])⟩
    refine totsum hM hk hnL enL (fun c' => if bkO μ1 c' = some c then dN σ1 μ1 c' else 0) (fun j => if arN T μ1 j then (if c = bkN μ1 (foN μ1 j) then tlN μ1 j else 0) else 0) (fun c' hc' hl' => ?_)
    by_cases q : c = bkN μ1 c'
    · show (if bkO μ1 c' = some c then dN σ1 μ1 c' else 0) = _
      rw [if_pos ((bi c').mpr q), (gsm c' hc' hl').2]
      refine sumN_cg (fun j _ => ?_)
      by_cases w : foN μ1 j = c'
      · rw [if_pos w, if_pos w, w, if_pos q]
      · rw [if_neg w, if_neg w]
    · show (if bkO μ1 c' = some c then dN σ1 μ1 c' else 0) = _
      rw [if_neg (fun z => q ((bi c').mp z))]
      symm
      refine sumN_zero (fun j _ => ?_)
      by_cases w : foN μ1 j = c'
      · rw [if_pos w, w, if_neg q]
        split <;> rfl
      · rw [if_neg w]
  refine ⟨hw, hT, gPg.cg (by rw [kσ 5 (by decide) (by decide) (by decide) (by decide) (by decide) (by decide) (by decide)]) (kσ 12 (by decide) (by decide) (by decide) (by decide) (by decide) (by decide) (by decide)) (k0 7 (by decide) (by decide) (by decide) (by decide)) (kμ 8 (by decide) (by decide) (by decide) (by decide) (by decide) (by decide)), ?_, ?_, gOw.cg (kσ 16 (by decide) (by decide) (by decide) (by decide) (by decide) (by decide) (by decide)) m9, ?_, ?_, wAr.cg (by rw [si_k (by decide), v2 0 (by decide) (by decide) (by decide)]) (fun a a1 a2 => si_k (by omega)), by unfold R10; rw [kσ 10 (by decide) (by decide) (by decide) (by decide) (by decide) (by decide) (by decide), kσ 20 (by decide) (by decide) (by decide) (by decide) (by decide) (by decide) (by decide), k0 4 (by decide) (by decide) (by decide) (by decide)]; exact g10⟩
  · obtain ⟨a1, a2, a3, a4, a5, a6, a7, a8, a9, a10, a11⟩ := hg
    refine ⟨by rw [kσ 4 (by decide) (by decide) (by decide) (by decide) (by decide) (by decide) (by decide)]; exact a1, by rw [kσ 4 (by decide) (by decide) (by decide) (by decide) (by decide) (by decide) (by decide)]; exact a2, ?_, si_eq, by rw [k0 0 (by decide) (by decide) (by decide) (by decide)]; exact a5, by rw [k0 1 (by decide) (by decide) (by decide) (by decide)]; exact a6, by rw [k0 2 (by decide) (by decide) (by decide) (by decide)]; exact a7, si_eq, by rw [kσ 11 (by decide) (by decide) (by decide) (by decide) (by decide) (by decide) (by decide)]; exact a9, by rw [kσ 14 (by decide) (by decide) (by decide) (by decide) (by decide) (by decide) (by decide), kμ 5 (by decide) (by decide) (by decide) (by decide) (by decide) (by decide)]; exact a10, fun l hl' => ?_⟩
    · rw [si_j (by decide), v2 1 (by decide) (by decide) (by decide), k3 1 (by decide) (by decide) (by decide) (by decide)]; exact a3
    · obtain ⟨b1, ⟨x, -, bx, b2⟩, b3⟩ := a11 l hl'
      have eA : (si σ4 1 0 2 (nI (T + 1))).1 15 0 l = μ1.1 6 0 l + nI (sumN (fun j => if l = lkN T μ1 j then 1 else 0) nL + sumN (fun j => if (frst n (uN μ1) (nxN W μ1) j && !shB μ1 nL S T (nxN W μ1 j)) then (if l = nxN W μ1 j then 1 else 0) else 0) n) := by
        rw [si_k (by decide), v7 l, k3 18 (by decide) (by decide) (by decide) (by decide), usesum hM hk hnL enL l, w4 15 (by decide) (by decide), x6 l, b1, adda, Nat.add_comm]
      have eB : (si μ5 0 0 3 (nI (T + 1))).1 6 0 l = μ1.1 6 0 l + nI (sumN (fun j => if l = lkN T μ1 j then 1 else 0) nL + sumN (fun j => if (frst n (uN μ1) (nxN W μ1) j && !shB μ1 nL S T (nxN W μ1 j)) then (if l = nxN W μ1 j then 1 else 0) else 0) n) := by
        rw [si_k (by decide), w10 6 (by decide) (by decide), z2 6 (by decide) (by decide) (by decide) (by decide) (by decide), y4 l hl', u3 l, adda]
      have lA := use_le hM hk hnL enL l
      have lB : sumN (fun j => if (frst n (uN μ1) (nxN W μ1) j && !shB μ1 nL S T (nxN W μ1 j)) then (if l = nxN W μ1 j then 1 else 0) else 0) n ≤ 12 := by
        refine Nat.le_trans (sumN_le (b := 1) (fun j _ => ?_)) (by omega)
        split
        · split <;> omega
        · omega
      rw [eA, eB]
      refine ⟨rfl, ?_, fun z => ?_⟩
      · rw [b2, nI_add]
        exact ⟨_, by omega, by omega, rfl⟩
      · rw [b3 z, sumN_zero (fun j hj => ?_), sumN_zero (fun j hj => ?_)]
        · rfl
        · rw [if_neg (fun y : l = nxN W μ1 j => (sf j hj).2.2.2.1 (by rw [← y]; exact z))]
          split <;> rfl
        · rw [if_neg (fun y : l = lkN T μ1 j => (lf j hj).2.2.2.2.2.2.2.2.2.2.2.2.2.2.2.1 (by rw [← y]; exact z))]
  · intro c hc
    obtain ⟨h1, h2, h3, h4⟩ := gCi c hc
    refine ⟨by rw [f2 c 0 (by decide) (by decide) (by decide)]; exact h1, by rw [m9 9 (by omega) (by omega)]; exact h2, by rw [f2 c 1 (by decide) (by decide) (by decide), m9 9 (by omega) (by omega)]; exact h3, fun hlc => ?_⟩
    rw [live.cg m9] at hlc
    obtain ⟨q1, q2, q3⟩ := h4 hlc
    refine ⟨?_, ?_, q3⟩
    · have e9 : (si σ4 1 0 2 (nI (T + 1))).1 2 c 9 = σ1.1 2 c 9 + nI (gN σ1 μ1 c) := by rw [si_k (by decide), v8 c, pick c hc hlc, k3 2 (by decide) (by decide) (by decide) (by decide)]
      have e12 : (si σ4 1 0 2 (nI (T + 1))).1 2 c 12 = σ1.1 2 c 12 + nI (gN σ1 μ1 c) := by rw [si_k (by decide), v9 c, pick c hc hlc, k3 2 (by decide) (by decide) (by decide) (by decide)]
      have e11 : (si σ4 1 0 2 (nI (T + 1))).1 2 c 11 = σ1.1 2 c 11 + nI (sumN (fun j => if arN T μ1 j then (if c = bkN μ1 (foN μ1 j) then tlN μ1 j else 0) else 0) nL) := by rw [si_k (by decide), v10 c, cred c hc, k3 2 (by decide) (by decide) (by decide) (by decide)]
      have e20 : (si μ5 0 0 3 (nI (T + 1))).1 20 0 c = μ1.1 20 0 c + nI (gN σ1 μ1 c) := by rw [si_k (by decide), w10 20 (by decide) (by decide), z6 c, come c hc hlc, m3 20 (by decide) (by decide) (by decide)]
      have e22 : (si μ5 0 0 3 (nI (T + 1))).1 22 0 c = μ1.1 22 0 c + nI (gN σ1 μ1 c) := by rw [si_k (by decide), w10 22 (by decide) (by decide), z7 c, come c hc hlc, m3 22 (by decide) (by decide) (by decide)]
      have e19 : (si μ5 0 0 3 (nI (T + 1))).1 19 0 c = μ1.1 19 0 c + nI (sumN (fun j => if arN T μ1 j then (if c = bkN μ1 (foN μ1 j) then tlN μ1 j else 0) else 0) nL) := by rw [si_k (by decide), w10 19 (by decide) (by decide), z8 c, m3 19 (by decide) (by decide) (by decide)]
      unfold REq at q1 ⊢
      rw [hpN.cg m9, e9, e12, e11, e20, e22, e19, m9 10 (by omega) (by omega), m9 11 (by omega) (by omega), m9 12 (by omega) (by omega), m9 13 (by omega) (by omega), m9 14 (by omega) (by omega), m9 15 (by omega) (by omega), m9 16 (by omega) (by omega), m9 17 (by omega) (by omega), kμ 18 (by decide) (by decide) (by decide) (by decide) (by decide) (by decide), kμ 21 (by decide) (by decide) (by decide) (by decide) (by decide) (by decide), kμ 23 (by decide) (by decide) (by decide) (by decide) (by decide) (by decide), kμ 24 (by decide) (by decide) (by decide) (by decide) (by decide) (by decide), f2 c 2 (by decide) (by decide) (by decide), f2 c 3 (by decide) (by decide) (by decide), f2 c 4 (by decide) (by decide) (by decide), f2 c 5 (by decide) (by decide) (by decide), f2 c 13 (by decide) (by decide) (by decide), f2 c 6 (by decide) (by decide) (by decide), f2 c 15 (by decide) (by decide) (by decide), f2 c 8 (by decide) (by decide) (by decide), f2 c 10 (by decide) (by decide) (by decide), f2 c 7 (by decide) (by decide) (by decide), f2 c 14 (by decide) (by decide) (by decide), kσ 17 (by decide) (by decide) (by decide) (by decide) (by decide) (by decide) (by decide)]
      obtain ⟨a1, a2, a3, a4, a5, a6, a7, a8, a9, a10, a11, a12, a13, a14, a15, a16⟩ := q1
      refine ⟨a1, a2, a3, a4, a5, a6, a7, a8, by rw [a9], by rw [a10], a11, by rw [a12], a13, a14, a15, fun p hp hp2 => ?_⟩
      rw [si_k (by decide), (v6 c hc (lvB_live.mpr hlc)).2.2 p hp2, k3 18 (by decide) (by decide) (by decide) (by decide)]
      exact a16 p hp hp2
    · unfold MOK at q2 ⊢
      simp only [live.cg m9]
      rw [hpN.cg m9, stN.cg m9, m9 10 (by omega) (by omega), m9 11 (by omega) (by omega), m9 12 (by omega) (by omega), m9 13 (by omega) (by omega), m9 15 (by omega) (by omega), m9 16 (by omega) (by omega), m9 17 (by omega) (by omega), kμ 18 (by decide) (by decide) (by decide) (by decide) (by decide) (by decide), kμ 21 (by decide) (by decide) (by decide) (by decide) (by decide) (by decide), kμ 23 (by decide) (by decide) (by decide) (by decide) (by decide) (by decide), kμ 24 (by decide) (by decide) (by decide) (by decide) (by decide) (by decide)]
      obtain ⟨a1, a2, a3, a4, a5, a6, a7, a8, a9, ⟨o, -, o1, o2⟩, a11, a12⟩ := q2
      refine ⟨a1, a2, a3, a4, a5, a6, a7, a8, a9, ⟨o, by omega, by omega, o2⟩, fun z => ?_, a12⟩
      rw [o2] at z
      have := nI_inj (by omega) (by omega) z
      omega
  · refine lets_next hM hk hnL enL m9 (kμ 23 (by decide) (by decide) (by decide) (by decide) (by decide) (by decide)) (by rw [si_j (by decide), w11 25 (by decide) (by decide)]; exact z4) (fun i hi' a a1 a2 => ?_) (fun c hc hlc => ?_)
    · rw [si_k (by omega), w10 a (by omega) (by omega), z9 i hi' a a1 a2, m3 a (by omega) (by omega) (by omega)]
    · obtain ⟨b1, b2, b3⟩ := v6 c hc (lvB_live.mpr hlc)
      rw [si_k (by decide)]
      rw [k3 18 (by decide) (by decide) (by decide) (by decide)] at b2 b3
      exact ⟨b1, b2, b3⟩
  · have sle := stay_le (fun j => (frst n (uN μ1) (nxN W μ1) j && !shB μ1 nL S T (nxN W μ1 j)) && decide (nxN W μ1 j % 6 = 1)) n
    have e7 : (si σ4 1 0 2 (nI (T + 1))).1 7 = σ2.1 7 := by rw [si_k (by decide), v2 7 (by decide) (by decide) (by decide), w4 7 (by decide) (by decide)]
    have eL : (si σ4 1 0 2 (nI (T + 1))).2.1 = σ3.2.1 := by
      show σ4.2.1 = _
      rw [v3]
    refine ⟨(stay (fun j => (frst n (uN μ1) (nxN W μ1) j && !shB μ1 nL S T (nxN W μ1 j)) && decide (nxN W μ1 j % 6 = 1)) n).length, by omega, by rw [si_k (by decide), v2 8 (by decide) (by decide) (by decide)]; exact w5, by rw [si_j (by decide)]; exact w12, fun z => hpos (by omega), by rw [eL]; exact w7, by rw [eL]; exact w8, fun i hi' => ?_⟩
    obtain ⟨j1, j2⟩ := stay_get hi'
    have l9 := w9 i hi'
    obtain ⟨t1, t2, t3, t4, t5⟩ := w14 i hi' _ rfl
    rw [eL, e7, l9, x3, si_k (show 33 ≠ 0 by decide), si_k (show 31 ≠ 0 by decide), si_k (show 32 ≠ 0 by decide), si_k (show 34 ≠ 0 by decide), si_k (show 35 ≠ 0 by decide), t1, t2, t3, t4, t5]
    generalize (stay (fun j => (frst n (uN μ1) (nxN W μ1) j && !shB μ1 nL S T (nxN W μ1 j)) && decide (nxN W μ1 j % 6 = 1)) n).getD i 0 = j at j1 j2 ⊢
    obtain ⟨s33, s0, b1, b2, -⟩ := sf j j1
    obtain ⟨a1, a2, a3, a4, a5, a6, a7, a8, a9, a10⟩ := hd j j1
    rw [x4 _ 0 (by decide) (by decide) (by decide), x4 _ 3 (by decide) (by decide) (by decide), x4 _ 4 (by decide) (by decide) (by decide), x4 _ 6 (by decide) (by decide) (by decide), (x5 j j1).1, (x5 j j1).2, m4 31 (by decide) (by decide) (by decide) (by decide) (by decide) (by decide) (by decide) (by decide), m4 32 (by decide) (by decide) (by decide) (by decide) (by decide) (by decide) (by decide) (by decide), m4 33 (by decide) (by decide) (by decide) (by decide) (by decide) (by decide) (by decide) (by decide), m4 35 (by decide) (by decide) (by decide) (by decide) (by decide) (by decide) (by decide) (by decide), a6]
    obtain ⟨c1, c2⟩ := en_ok hw b1 b2
    cases hmv : (frst n (uN μ1) (nxN W μ1) j && !shB μ1 nL S T (nxN W μ1 j))
    · rw [if_neg (by decide), if_neg (by decide)]
      exact ⟨a1, a2, a3, a4, a5, rfl, a7, a8, a9, a10⟩
    · rw [hmv, Bool.true_and] at j2
      have nj := of_decide_eq_false j2
      obtain ⟨c3, c4⟩ := c2 nj
      rw [if_pos rfl, if_pos rfl, c1, j2]
      refine ⟨a1, a2, rfl, a4, a5, rfl, a7, a8, a9, Or.inr ⟨nxL W H (nxN W μ1 j), by omega, by omega, c4⟩⟩
