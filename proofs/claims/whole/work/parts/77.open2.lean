theorem begin_eq {μ : St} {c : Nat} (hc : c < 8) : f_X12_begin μ (nI c) = some (si (si (si (si (si (si (si (si μ 9 0 c 1) 18 0 c 0) 19 0 c (μ.1 14 0 c)) 20 0 c 0) 21 0 c 0) 22 0 c 0) 23 0 c (-1)) 24 0 c (μ.1 0 0 3)) := by
  have i1 : inb (nI c) 8 := inbL hc (by decide)
  have c1 : Int32.toNatClampNeg (nI c) = c := clL (by omega)
  simp (decide := true) only [f_X12_begin, chk, if_pos i1, c1, bnd, si_k]
/-- the state of the reference behind open -/
def openM (μ : St) (c : Nat) (kd a b n w t : Int32) : St := si (si (si (si (si (si (si (si (si (si (si (si (si μ 10 0 c kd) 11 0 c a) 12 0 c b) 14 0 c w) 13 0 c n) 9 0 c 1) 18 0 c 0) 19 0 c w) 20 0 c 0) 21 0 c 0) 22 0 c 0) 23 0 c (-1)) 24 0 c t
theorem openM_k {μ : St} {c : Nat} {kd a b n w t : Int32} {i : Nat} (h : i < 9 ∨ 24 < i ∨ 15 ≤ i ∧ i ≤ 17) : (openM μ c kd a b n w t).1 i = μ.1 i := by
  unfold openM
  rw [si_k (by omega), si_k (by omega), si_k (by omega), si_k (by omega), si_k (by omega), si_k (by omega), si_k (by omega), si_k (by omega), si_k (by omega), si_k (by omega), si_k (by omega), si_k (by omega), si_k (by omega)]
theorem openM_e {μ : St} {c : Nat} {kd a b n w t : Int32} {i e : Nat} (h : e ≠ c) : (openM μ c kd a b n w t).1 i 0 e = μ.1 i 0 e := by
  unfold openM
  rw [si_j h, si_j h, si_j h, si_j h, si_j h, si_j h, si_j h, si_j h, si_j h, si_j h, si_j h, si_j h, si_j h]
theorem openM_c {μ : St} {c : Nat} {kd a b n w t : Int32} : (openM μ c kd a b n w t).1 9 0 c = 1 ∧ (openM μ c kd a b n w t).1 10 0 c = kd ∧ (openM μ c kd a b n w t).1 11 0 c = a ∧ (openM μ c kd a b n w t).1 12 0 c = b ∧ (openM μ c kd a b n w t).1 13 0 c = n ∧ (openM μ c kd a b n w t).1 14 0 c = w ∧ (openM μ c kd a b n w t).1 18 0 c = 0 ∧ (openM μ c kd a b n w t).1 19 0 c = w ∧ (openM μ c kd a b n w t).1 20 0 c = 0 ∧ (openM μ c kd a b n w t).1 21 0 c = 0 ∧ (openM μ c kd a b n w t).1 22 0 c = 0 ∧ (openM μ c kd a b n w t).1 23 0 c = -1 ∧ (openM μ c kd a b n w t).1 24 0 c = t := by
  unfold openM
  refine ⟨?_, ?_, ?_, ?_, ?_, ?_, ?_, ?_, ?_, ?_, ?_, ?_, ?_⟩
  all_goals simp (decide := true) only [si_k, si_eq]
theorem rng {p : Int32} {lo hi : Nat} (K1 K2 : Int32) (e1 : K1.toInt = lo) (e2 : K2.toInt = hi) (h1 : K1 ≤ p) (h2 : p ≤ K2) : ∃ n, lo ≤ n ∧ n ≤ hi ∧ p = nI n := by
  rw [i_le, e1] at h1
  rw [i_le, e2] at h2
  exact ⟨p.toInt.toNat, by omega, by omega, of_toInt (by omega)⟩
/-- a circuit is opened: the ways, the starts, the new state -/
theorem open_found {W H S T k c kd a b n w d x : Nat} {ls : List Nat} {σ μ σ' μ' : St} (hR : RelP W H S T k σ μ) (hS : 4 ≤ S ∧ S ≤ 10) (hc : c < 8) (hnl : ¬ live μ c) (ha : a < W * H) (hb : b < W * H) (hab : a ≠ b) (hn : 1 ≤ n ∧ n ≤ 4) (hk : kd ≤ 4) (xt : XT σ' σ) (x20 : ∀ i, i < 9 → σ'.1 20 0 i = 0) (ms : Scr μ' μ) (hF : FW W H S (fun l => μ.1 5 0 l) (fun l s => (ownO μ S (-1) l s).isNone) kd a b n σ' μ' d x ls) :
    ∃ σ2 μ2, ((f_X2_set σ' c (nI kd) (nI a) (nI b) (nI n) (nI w) (σ'.1 1 0 2)).bind fun σ10 => (f_X6_giveTo σ10 c).bind fun σ12 => some (σ12, σ12.1 2 c 0)) = some (σ2, nI c) ∧ f_X12_layWay μ' (nI c) (nI x) = some μ2 ∧ μ2.1 0 0 3 = nI T ∧ RelP W H S T k σ2 (openM μ2 c (nI kd) (nI a) (nI b) (nI n) (nI w) (nI T)) := by
  have h9 := hR.1.WH.2.2
  obtain ⟨f1, f2, f3, f4, f5, f6⟩ := way_facts hR.1 hS ha hb hn hk hF
  obtain ⟨d1, d6, hx0, hx, -, e66, e67, e19, e45, -⟩ := hF
  have hg := hR.2.2.2.1
  have xk : ∀ a, a ≠ 6 → a ≠ 19 → a ≠ 20 → σ'.1 a = σ.1 a := xt.1
  have eT : σ'.1 1 0 2 = nI T := by rw [xk 1 (by decide) (by decide) (by decide)]; exact hg.2.2.2.1
  obtain ⟨σ1, s1, s2, s3, s4, s5, v0, v1, v2, v3, v4, v5, v13, v14, v7, v8, v11, v9, v10, v12⟩ := set_eq (σ := σ') (c := c) (p1 := nI kd) (p2 := nI a) (p3 := nI b) (p4 := nI n) (p5 := nI w) (p6 := nI T)
  have v0' : σ1.1 2 c 0 = nI c := by rw [v0, xk 2 (by decide) (by decide) (by decide)]; exact (hR.2.2.2.2.1 c hc).1
  obtain ⟨σ2, g1, g2, g3, g4, g5, g6, g7, g8, g9⟩ := giveTo_eq (σ := σ1) (S := S) (c := c) (d := d) (a := a) (b := b) (x := x) (ls := ls) ⟨by omega, hS.2⟩ (by rw [s2 1 (by decide) (by decide), xk 1 (by decide) (by decide) (by decide)]; exact hg.2.2.1) hc ⟨d1, d6⟩ hx v0' v3 v4 (by rw [s2 6 (by decide) (by decide)]; exact e66) (by rw [s2 6 (by decide) (by decide)]; exact e67) (by rw [s2 19 (by decide) (by decide)]; exact e19) f1 (fun p hp => (f4 p hp).1)
  obtain ⟨μ2, l1, l2, l3, l4, l5, l6, l7⟩ := layWay_eq (c := c) (x := x) hc d6 e45
  have m03 : μ2.1 0 0 3 = nI T := by rw [l2 0 (by decide) (by decide) (by decide), ms.2 3 (by decide)]; exact hg.2.2.2.2.2.2.2.1
  obtain ⟨o9, o10, o11, o12, o13, o14, o18, o19, o20, o21, o22, o23, o24⟩ := openM_c (μ := μ2) (c := c) (kd := nI kd) (a := nI a) (b := nI b) (n := nI n) (w := nI w) (t := nI T)
  have k15 := openM_k (μ := μ2) (c := c) (kd := nI kd) (a := nI a) (b := nI b) (n := nI n) (w := nI w) (t := nI T) (i := 15) (by omega)
  have k16 := openM_k (μ := μ2) (c := c) (kd := nI kd) (a := nI a) (b := nI b) (n := nI n) (w := nI w) (t := nI T) (i := 16) (by omega)
  have k17 := openM_k (μ := μ2) (c := c) (kd := nI kd) (a := nI a) (b := nI b) (n := nI n) (w := nI w) (t := nI T) (i := 17) (by omega)
  refine ⟨σ2, μ2, ?_, l1, m03, ?_⟩
  · rw [eT, s1, Option.bind_some, g1, Option.bind_some, g4 0 (by decide) (by decide), v0']
  have hp2 : hpN (openM μ2 c (nI kd) (nI a) (nI b) (nI n) (nI w) (nI T)) c = d := by unfold hpN nN; rw [k15, l4, clL (by omega)]
  have hst2 : stN (openM μ2 c (nI kd) (nI a) (nI b) (nI n) (nI w) (nI T)) c = x := by unfold stN nN; rw [k17, l5, clL (by omega)]
  have h16 : ∀ p, p < d + 2 → (openM μ2 c (nI kd) (nI a) (nI b) (nI n) (nI w) (nI T)).1 16 0 (8 * c + p) = nI (rtL a b ls p) := fun p hp => by rw [k16, l6 p hp, f6 p hp]
  have x2s : ∀ p, x ≤ 2 ^ S - 1 := fun _ => by omega
  refine lay_rel hR hc (by omega) (fun e ec => ?_) (fun e ec => ?_) (fun e ec => ?_) (by rw [g4 0 (by decide) (by decide)]; exact v0') (by rw [g4 1 (by decide) (by decide)]; exact v1) (fun i i2 i6 i16 i17 i18 i19 i20 => by rw [g2 i i2 i16 i17, s2 i i2 i18, xk i i6 i19 i20]) (fun i hi => by rw [g2 20 (by decide) (by decide) (by decide), s2 20 (by decide) (by decide)]; exact x20 i hi) (g9.trans (s5.trans xt.2)) (fun p hp => by rw [g2 18 (by decide) (by decide) (by decide)]; exact s4 p hp) (fun j hj => by rw [openM_k (by omega), l2 0 (by decide) (by decide) (by decide)]; exact ms.2 j hj) (fun i i1 i2 i3 => by rw [openM_k (by omega), l2 i (by omega) (by omega) (by omega)]; exact ms.1 i (by omega) (by omega) (by omega)) (fun i i1 i2 i3 e ec => ?_) (fun e p ec hp => ?_) o9 ?_ ?_ (Or.inl hnl) ?_ ?_
  · rw [(g3 e ec).1, (s3 e ec).1, xk 2 (by decide) (by decide) (by decide)]
  · rw [(g3 e ec).2, s2 17 (by decide) (by decide), xk 17 (by decide) (by decide) (by decide)]
  · rw [g2 18 (by decide) (by decide) (by decide), (s3 e ec).2, xk 18 (by decide) (by decide) (by decide)]
  · rw [openM_e ec]
    have q := ms.1 i (by omega) (by omega) (by omega)
    by_cases y : i = 15 ∨ i = 17
    · rcases y with rfl | rfl
      · rw [(l3 e ec).1, q]
      · rw [(l3 e ec).2, q]
    · rw [l2 i (by omega) (by omega) (by omega), q]
  · rw [k16, l7 e p ec hp, ms.1 16 (by decide) (by decide) (by decide)]
  · unfold REq
    rw [hp2, o10, o11, o12, o13, o14, k15, l4, k17, l5, o18, o19, o20, o21, o22, o23, o24, g5, g6, g4 2 (by decide) (by decide), g4 3 (by decide) (by decide), g4 4 (by decide) (by decide), g4 5 (by decide) (by decide), g4 13 (by decide) (by decide), g4 8 (by decide) (by decide), g4 11 (by decide) (by decide), g4 9 (by decide) (by decide), g4 10 (by decide) (by decide), g4 12 (by decide) (by decide), g4 7 (by decide) (by decide), g4 14 (by decide) (by decide)]
    exact ⟨v2, v3, v4, v5, v13, rfl, rfl, v8, v11, v9, v10, v12, v7, v14, fun p hp => by rw [h16 p hp]; exact g7 p hp, fun p hp _ => by rw [g2 18 (by decide) (by decide) (by decide)]; exact s4 p hp⟩
  · unfold MOK
    rw [hp2, hst2, o10, o11, o12, o13, k15, l4, k17, l5, o18, o21, o22, o23, o24]
    refine ⟨⟨kd, by omega, hk, rfl⟩, ⟨a, b, ha, hb, hab, rfl, rfl⟩, ⟨n, hn.1, hn.2, rfl⟩, ⟨d, d1, d6, rfl⟩, ⟨x, by omega, by omega, rfl⟩, by rw [f3], fun p hp => ⟨rtL a b ls p, (f4 p hp).1, h16 p hp, (f4 p hp).2⟩, ⟨0, by omega, by omega, rfl⟩, ⟨0, by omega, by omega, rfl⟩, ⟨T, by omega, by omega, rfl⟩, fun _ => rfl, Or.inl rfl⟩
  · intro nn en hnn j hj z
    obtain ⟨n', hn', en', h1, -⟩ := hR.2.2.2.2.2.2.1
    have e : n' = nn := nI_inj (by omega) (by omega) (en'.symm.trans en)
    subst e
    obtain ⟨e, p, v, q1, q2, -, -, q5, -⟩ := h1 j hj
    have : e = c := nI_inj (by omega) (by omega) (q5.1.symm.trans z)
    subst this
    exact hnl q2
  · refine hown_of (S := S) (c := c) (d := d) (x := x) (a := a) (b := b) (ls := ls) (fre := fun l s => (ownO μ S (-1) l s).isNone) (but := -1) (b16 := fun l s => σ.1 16 0 (10 * l + s)) hS (fun l s _ _ => rfl) (fun e he _ => nI_nm1 (by omega)) (fun l s hl hs => ?_) (fun p hp => (f4 p hp).1) f5 hp2 hst2 h16 (fun l s hl hs => ?_)
    · rcases hR.2.2.2.2.2.1 (by omega) l hl s hs with ⟨e, z⟩ | ⟨y, e, he, e1, e2, e3, e4⟩
      · exact Or.inl ⟨e, fun hs e he _ hl => z hs e he hl⟩
      · exact Or.inr ⟨y, e, he, fun z => hnl (by rw [← z]; exact e2), e1, e2, e3, fun d hd _ => e4 d hd⟩
    · obtain ⟨z1, z2⟩ := g8 l s hl hs
      refine ⟨z1, fun y => ?_⟩
      rw [z2 y, s2 16 (by decide) (by decide), xk 16 (by decide) (by decide) (by decide)]
theorem ok_open_Rel : ok_open Rel := by
  intro k σ μ hk ⟨W, H, S, T, hR0⟩ p1 p2 p3 p4 p5
  have hR := hR0.mono
  have n10 : ¬ (1 : Int32) = 0 := by decide
  obtain ⟨t1, t2⟩ := isThere_eq hR
  by_cases hS : 0 < S
  · rw [if_pos hS] at t1 t2
    rcases hR.router p2 with ⟨hx, hm⟩ | ⟨a, ha, ha9, rfl, hx, hm⟩
    · refine ⟨σ, μ, -101, ?_, ?_, W, H, S, T, hR⟩
      · simp only [f_X11_open, t1, hx, Option.bind_some, if_neg n10]; rfl
      · simp only [f_X12_open, t2, hm, Option.bind_some, if_neg n10]; rfl
    rcases hR.router p3 with ⟨hx2, hm2⟩ | ⟨b, hb, hb9, rfl, hx2, hm2⟩
    · refine ⟨σ, μ, -101, ?_, ?_, W, H, S, T, hR⟩
      · simp only [f_X11_open, t1, hx, hx2, Option.bind_some, if_neg n10]; rfl
      · simp only [f_X12_open, t2, hm, hm2, Option.bind_some, if_neg n10]; rfl
    by_cases hab : nI a = nI b
    · refine ⟨σ, μ, -101, ?_, ?_, W, H, S, T, hR⟩
      · simp only [f_X11_open, t1, hx, hx2, Option.bind_some, if_neg n10, if_pos hab]
      · simp only [f_X12_open, t2, hm, hm2, Option.bind_some, if_neg n10, if_pos hab]
    by_cases hk1 : 0 ≤ p1 ∧ p1 ≤ 4
    · by_cases hn1 : 1 ≤ p4 ∧ p4 ≤ 4
      · by_cases hw1 : 1 ≤ p5 ∧ p5 ≤ 15
        · obtain ⟨kd, -, kd4, rfl⟩ := rng (lo := 0) (hi := 4) 0 4 (by decide) (by decide) hk1.1 hk1.2
          obtain ⟨n, n1, n4, rfl⟩ := rng (lo := 1) (hi := 4) 1 4 (by decide) (by decide) hn1.1 hn1.2
          obtain ⟨w, w1, w2, rfl⟩ := rng (lo := 1) (hi := 15) 1 15 (by decide) (by decide) hw1.1 hw1.2
          have nw : ¬ (15 : Int32) < nI w := Int32.not_lt.mpr hw1.2
          have ik : f_X11_isKind (nI kd) = some 1 := by rw [isKind_eq, if_pos hk1]
          have wi1 := within_in hk1.1 hk1.2
          have wi2 := within_in hn1.1 hn1.2
          have wi3 := within_in hw1.1 hw1.2
          have hchip := hR.1.chip (by omega)
          rcases free_both hR with ⟨y1, y2⟩ | ⟨c, hc, hnl, y1, y2⟩
          · refine ⟨σ, μ, -104, ?_, ?_, W, H, S, T, hR⟩
            · simp only [f_X11_open, t1, hx, hx2, Option.bind_some, if_neg n10, if_neg hab, ik, if_pos hn1.1, if_pos hn1.2, if_pos hw1.1, if_neg nw, y1, onR_n]
            · simp only [f_X12_open, t2, hm, hm2, Option.bind_some, if_neg n10, if_neg hab, wi1, wi2, wi3, y2, if_true]
          · have n8 : ¬ nI c = 8 := neL 8 8 rfl (by omega) (by omega) (by decide)
            have hg := hR.2.2.2.1
            have mg : MG W H S (fun l => μ.1 5 0 l) (fun l s => (ownO μ S (-1) l s).isNone) (-1) μ := ⟨hR.mok, hg.2.2.2.2.1, hg.2.2.2.2.2.1, fun _ _ => rfl, fun _ _ _ _ => rfl⟩
            have ox : ∀ l s, l < 54 → s < S → decide (σ.1 16 0 (10 * l + s) = -1) = (ownO μ S (-1) l s).isNone := by
              intro l s hl hs
              rw [hR.owner hS hl hs]
              cases ho : ownO μ S (-1) l s with
              | none => rfl
              | some e =>
                have he : e < 8 := List.mem_range.mp (List.mem_of_find?_eq_some ho)
                exact decide_eq_false (nI_nm1 (by omega))
            obtain ⟨σ', μ', xt, x20, ms, hF⟩ := find_both (kd := kd) (a := a) (b := b) (n := n) hR.1 hchip.2.2 ha hb ⟨n1, n4⟩ kd4 mg hg.2.2.1 hg.2.2.2.2.2.2.2.2.1 (fun l hl => (hg.2.2.2.2.2.2.2.2.2.1 l hl).1) ox hR.2.2.2.2.2.2.2.2.2.2
            rcases hF with ⟨z1, z2⟩ | ⟨d, x, ls, z1, z2, hF⟩
            · refine ⟨σ', μ', -103, ?_, ?_, W, H, S, T, hR.scr xt x20 ms⟩
              · simp only [f_X11_open, t1, hx, hx2, Option.bind_some, if_neg n10, if_neg hab, ik, if_pos hn1.1, if_pos hn1.2, if_pos hw1.1, if_neg nw, y1, onR_s hc, z1, if_true]
              · simp only [f_X12_open, t2, hm, hm2, Option.bind_some, if_neg n10, if_neg hab, wi1, wi2, wi3, y2, if_neg n8, z2, if_true]
            · have nx : ¬ nI x = -1 := nI_nm1 (by have := hF.2.2.2.1; omega)
              have i1 : inb (nI c) 8 := inbL hc (by decide)
              have c1 : Int32.toNatClampNeg (nI c) = c := clL (by omega)
              obtain ⟨σ2, μ2, q1, q2, q3, q4⟩ := open_found (w := w) hR hchip.2.2 hc hnl ha hb (fun z => hab (by rw [z])) ⟨n1, n4⟩ kd4 xt x20 ms hF
              refine ⟨σ2, openM μ2 c (nI kd) (nI a) (nI b) (nI n) (nI w) (nI T), nI c, ?_, ?_, W, H, S, T, q4⟩
              · simp only [f_X11_open, t1, hx, hx2, Option.bind_some, if_neg n10, if_neg hab, ik, if_pos hn1.1, if_pos hn1.2, if_pos hw1.1, if_neg nw, y1, onR_s hc, z1]
                exact q1
              · simp only [f_X12_open, t2, hm, hm2, Option.bind_some, if_neg n10, if_neg hab, wi1, wi2, wi3, y2, if_neg n8, z2, if_neg nx, q2, chk, if_pos i1, c1, bnd, begin_eq hc]
                simp (decide := true) only [si_k, si_eq, q3, openM]
        · refine ⟨σ, μ, -102, ?_, ?_, W, H, S, T, hR⟩
          · simp only [f_X11_open, t1, hx, hx2, Option.bind_some, if_neg n10, if_neg hab, isKind_eq, if_pos hk1, if_pos hn1.1, if_pos hn1.2]
            by_cases q : 1 ≤ p5
            · rw [if_pos q, if_pos (Int32.not_le.mp (fun z => hw1 ⟨q, z⟩))]
            · rw [if_neg q]
          · simp only [f_X12_open, t2, hm, hm2, Option.bind_some, if_neg n10, if_neg hab, within_in hk1.1 hk1.2, within_in hn1.1 hn1.2, within_out hw1, if_true]
      · refine ⟨σ, μ, -102, ?_, ?_, W, H, S, T, hR⟩
        · simp only [f_X11_open, t1, hx, hx2, Option.bind_some, if_neg n10, if_neg hab, isKind_eq, if_pos hk1]
          by_cases q : 1 ≤ p4
          · rw [if_pos q, if_neg (fun z => hn1 ⟨q, z⟩)]
          · rw [if_neg q]
        · simp only [f_X12_open, t2, hm, hm2, Option.bind_some, if_neg n10, if_neg hab, within_in hk1.1 hk1.2, within_out hn1, if_true]
    · refine ⟨σ, μ, -102, ?_, ?_, W, H, S, T, hR⟩
      · simp only [f_X11_open, t1, hx, hx2, Option.bind_some, if_neg n10, if_neg hab, isKind_eq, if_neg hk1, if_true]
      · simp only [f_X12_open, t2, hm, hm2, Option.bind_some, if_neg n10, if_neg hab, within_out hk1, if_true]
  · rw [if_neg hS] at t1 t2
    refine ⟨σ, μ, -103, ?_, ?_, W, H, S, T, hR⟩
    · simp only [f_X11_open, t1, Option.bind_some]; rfl
    · simp only [f_X12_open, t2, Option.bind_some]; rfl
