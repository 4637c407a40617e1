theorem RelP.find {W H S T k : Nat} {σ μ : St} (h : RelP W H S T k σ μ) {b : Nat} (hb : b < 8) (lb : live μ b) : f_X3_find σ (nI b) = some (some b) := by
  have e : σ.1 2 b 1 = 1 := (h.2.2.2.2.1 b hb).2.2.1.trans lb
  unfold f_X3_find
  rw [if_pos (leL 0 0 rfl (Nat.zero_le b) (by omega)), if_neg (nleL 8 8 rfl hb (by decide)), clL (by omega)]
  simp only [chk, if_pos (inbL hb (show 8 < 2 ^ 31 by decide)), e]
  rfl
theorem no_let {W H S T k : Nat} {σ μ : St} (h : RelP W H S T k σ μ) (hk : k ≤ 513) {n c : Nat} (hc : c < 8) (hl : live μ c) (hn : n ≤ 64) (en : μ.1 0 0 25 = nI n) (hz : cntI (fun j => decide (μ.1 26 0 j = nI c)) n = 0) : ∀ n', μ.1 0 0 25 = nI n' → n' ≤ 64 → ∀ j, j < n' → μ.1 26 0 j ≠ nI c := by
  intro n' en' hn' j hj
  have : n' = n := nI_inj (by omega) (by omega) (en'.symm.trans en)
  subst this
  have := cnt_zero hz j hj
  exact of_decide_eq_false this
set_option maxHeartbeats 1000000 in
theorem ok_close_Rel : ok_close Rel := by
  intro k σ μ hk ⟨W, H, S, T, hR0⟩ p1
  have hR := hR0.mono
  have n10 : ¬ (1 : Int32) = 0 := by decide
  rcases hR.circ p1 with ⟨hx, hm⟩ | ⟨c, hc, rfl, hl, hx, hm⟩
  · refine ⟨σ, μ, -101, ?_, ?_, W, H, S, T, hR⟩
    · simp only [f_X11_close, hx, Option.bind_some, onR_n]
    · simp only [f_X12_close, hm, Option.bind_some]; rfl
  · obtain ⟨n, hn, en, -⟩ := hR.2.2.2.2.2.2.1
    obtain ⟨q, o, -⟩ := hR.of_live hc hl
    have i1 : inb (nI c) 8 := inbL hc (by decide)
    have c1 : Int32.toNatClampNeg (nI c) = c := clL (by omega)
    have b1 : σ.1 2 c 7 = μ.1 23 0 c := q.2.2.2.2.2.2.2.2.2.2.2.2.1
    have q8 : σ.1 2 c 8 = μ.1 18 0 c := q.2.2.2.2.2.2.2.1
    have u1 := undX σ c
    have u2 := undM (c := c) hn en
    rw [hR.und (by omega) hc hl hn en] at u1
    have hle := cntI_le (fun j => decide (μ.1 26 0 j = nI c)) n
    by_cases hz : cntI (fun j => decide (μ.1 26 0 j = nI c)) n = 0
    · have nl := no_let hR (by omega) hc hl hn en hz
      rw [hz] at u1 u2
      have l0 : nI 0 ≤ 0 := by decide
      rcases o.2.2.2.2.2.2.2.2.2.2.2 with z | ⟨b, hb, hbc, z, lb, zb⟩
      · have fx : f_X3_find σ (-1) = some none := by
          rcases hR.circ (-1) with ⟨y, -⟩ | ⟨d, hd, y, -⟩
          · exact y
          · exact absurd y.symm (nI_nm1 (by omega))
        obtain ⟨w, hw, ho⟩ := mark_own (σ' := σ) hR hc hl (-1) rfl rfl rfl rfl rfl
        have e8 : (si (s16 σ w) 2 c 1 0).1 2 c 8 = μ.1 18 0 c := by rw [si_j (show 8 ≠ 1 by decide), s16_k (by decide)]; exact q8
        refine ⟨si (s16 σ w) 2 c 1 0, si μ 9 0 c 0, μ.1 18 0 c, ?_, ?_, W, H, S, T, ?_⟩
        · simp only [f_X11_close, hx, Option.bind_some, onR_s hc, b1, z, fx, onR_n, u1, if_pos l0, hw, bnd, e8]
        · simp only [f_X12_close, hm, Option.bind_some, if_neg n10, chk, if_pos i1, c1, u2, if_pos l0, z, if_true, bnd, si_k (show 18 ≠ 9 by decide)]
        · refine close_rel hR hc hl (fun e j h1 h7 => ?_) si_eq (fun e he ec hle => ?_) (fun a a1 a2 => by rw [si_k a1, s16_k a2]) rfl (fun l s hl2 hs2 => ?_) (fun e ec => si_j ec) si_eq (fun e he hle ec => ?_) (fun a a1 a2 => si_k a1) (fun n' en' hn' j hj => ⟨nl n' en' hn' j hj, fun e he ej hb => ?_⟩)
          · by_cases ec : e = c
            · subst ec
              rw [si_j (fun y => h1 ⟨rfl, y⟩), s16_k (by decide)]
            · rw [si_i ec, s16_k (by decide)]
          · rw [si_i ec, s16_k (by decide), si_k (show 23 ≠ 9 by decide)]
            exact (hR.of_live he hle).1.2.2.2.2.2.2.2.2.2.2.2.2.1
          · rw [si_k (show 16 ≠ 2 by decide), s16_w]
            exact ho l s hl2 hs2
          · right
            refine ⟨fun y => ?_, by rw [si_k (show 23 ≠ 9 by decide)]⟩
            rcases (hR.of_live he hle).2.1.2.2.2.2.2.2.2.2.2.2.2 with y2 | ⟨b, hb, hbe, y2, lb, yb⟩
            · rw [y2] at y; exact nI_nm1 (show c < 2 ^ 31 by omega) y.symm
            · rw [y2] at y
              have : b = c := nI_inj (by omega) (by omega) y
              subst this
              rw [z] at yb
              exact nI_nm1 (show e < 2 ^ 31 by omega) yb.symm
          · obtain ⟨n2, hn2, en2, h1, -⟩ := hR.2.2.2.2.2.2.1
            have : n' = n2 := nI_inj (by omega) (by omega) (en'.symm.trans en2)
            subst this
            obtain ⟨e', p, v, q1, q2, -, -, q5, -⟩ := h1 j hj
            have ee : e' = e := nI_inj (by omega) (by omega) (q5.1.symm.trans ej)
            subst ee
            rcases (hR.of_live he q2).2.1.2.2.2.2.2.2.2.2.2.2.2 with y2 | ⟨b, hb', hbe, y2, lb, yb⟩
            · rw [y2] at hb; exact nI_nm1 (show c < 2 ^ 31 by omega) hb.symm
            · rw [y2] at hb
              have : b = c := nI_inj (by omega) (by omega) hb
              subst this
              rw [z] at yb
              exact nI_nm1 (show e' < 2 ^ 31 by omega) yb.symm
      · have i2 : inb (nI b) 8 := inbL hb (by decide)
        have c2 : Int32.toNatClampNeg (nI b) = b := clL (by omega)
        have nb : ¬ nI b = -1 := nI_nm1 (by omega)
        have fx : f_X3_find σ (nI b) = some (some b) := hR.find hb lb
        have v1 := undX σ b
        have v2 := undM (c := b) hn en
        rw [hR.und (by omega) hb lb hn en] at v1
        have hle2 := cntI_le (fun j => decide (μ.1 26 0 j = nI b)) n
        by_cases hz2 : cntI (fun j => decide (μ.1 26 0 j = nI b)) n = 0
        · have nl2 := no_let hR (by omega) hb lb hn en hz2
          rw [hz2] at v1 v2
          have ng : ¬ 0 < nI 0 := by decide
          obtain ⟨w, hw, ho⟩ := mark_own (σ' := si σ 2 b 7 (-1)) hR hc hl (-1) (si_k (by decide)) (si_j (by decide)) (si_j (by decide)) (si_k (by decide)) (si_k (by decide))
          have e8 : (si (s16 (si σ 2 b 7 (-1)) w) 2 c 1 0).1 2 c 8 = μ.1 18 0 c := by rw [si_j (show 8 ≠ 1 by decide), s16_k (by decide), si_j (show 8 ≠ 7 by decide)]; exact q8
          refine ⟨si (s16 (si σ 2 b 7 (-1)) w) 2 c 1 0, si (si μ 23 0 b (-1)) 9 0 c 0, μ.1 18 0 c, ?_, ?_, W, H, S, T, ?_⟩
          · simp only [f_X11_close, hx, Option.bind_some, onR_s hc, b1, z, fx, onR_s hb, u1, if_pos l0, v1, if_neg ng, hw, bnd, e8]
          · simp only [f_X12_close, hm, Option.bind_some, if_neg n10, chk, if_pos i1, c1, u2, if_pos l0, z, if_neg nb, v2, if_neg ng, if_pos i2, c2, bnd, si_k (show 18 ≠ 9 by decide), si_k (show 18 ≠ 23 by decide)]
          · refine close_rel hR hc hl (fun e j h1 h7 => ?_) si_eq (fun e he ec hle => ?_) (fun a a1 a2 => by rw [si_k a1, s16_k a2, si_k a1]) rfl (fun l s hl2 hs2 => ?_) (fun e ec => by rw [si_j ec, si_k (by decide)]) si_eq (fun e he hle ec => ?_) (fun a a1 a2 => by rw [si_k a1, si_k a2]) (fun n' en' hn' j hj => ⟨nl n' en' hn' j hj, fun e he ej hb2 => ?_⟩)
            · by_cases ec : e = c
              · subst ec
                rw [si_j (fun y => h1 ⟨rfl, y⟩), s16_k (by decide), si_j h7]
              · rw [si_i ec, s16_k (by decide), si_j h7]
            · rw [si_i ec, s16_k (by decide), si_k (show 23 ≠ 9 by decide)]
              by_cases eb : e = b
              · subst eb
                rw [si_eq, si_eq]
              · rw [si_i eb, si_j eb]
                exact (hR.of_live he hle).1.2.2.2.2.2.2.2.2.2.2.2.2.1
            · rw [si_k (show 16 ≠ 2 by decide), s16_w]
              exact ho l s hl2 hs2
            · rw [si_k (show 23 ≠ 9 by decide)]
              by_cases eb : e = b
              · subst eb
                exact Or.inl ⟨zb, si_eq⟩
              · right
                refine ⟨fun y => ?_, si_j eb⟩
                rcases (hR.of_live he hle).2.1.2.2.2.2.2.2.2.2.2.2.2 with y2 | ⟨b', hb', hbe, y2, lb', yb⟩
                · rw [y2] at y; exact nI_nm1 (show c < 2 ^ 31 by omega) y.symm
                · rw [y2] at y
                  have : b' = c := nI_inj (by omega) (by omega) y
                  subst this
                  rw [z] at yb
                  exact eb (nI_inj (by omega) (by omega) yb.symm)
            · obtain ⟨n2, hn2, en2, h1, -⟩ := hR.2.2.2.2.2.2.1
              have : n' = n2 := nI_inj (by omega) (by omega) (en'.symm.trans en2)
              subst this
              obtain ⟨e', p, v, q1, q2, -, -, q5, -⟩ := h1 j hj
              have ee : e' = e := nI_inj (by omega) (by omega) (q5.1.symm.trans ej)
              subst ee
              rcases (hR.of_live he q2).2.1.2.2.2.2.2.2.2.2.2.2.2 with y2 | ⟨b', hb', hbe, y2, lb', yb⟩
              · rw [y2] at hb2; exact nI_nm1 (show c < 2 ^ 31 by omega) hb2.symm
              · rw [y2] at hb2
                have : b' = c := nI_inj (by omega) (by omega) hb2
                subst this
                rw [z] at yb
                have : b = e' := nI_inj (by omega) (by omega) yb
                subst this
                exact nl2 n' en' hn' j hj ej
        · have ng : 0 < nI (cntI (fun j => decide (μ.1 26 0 j = nI b)) n) := nI_lt (a := 0) (by omega) (by omega)
          refine ⟨σ, μ, -103, ?_, ?_, W, H, S, T, hR⟩
          · simp only [f_X11_close, hx, Option.bind_some, onR_s hc, b1, z, fx, onR_s hb, u1, if_pos l0, v1, if_pos ng]
          · simp only [f_X12_close, hm, Option.bind_some, if_neg n10, chk, if_pos i1, c1, u2, if_pos l0, z, if_neg nb, v2, if_pos ng, bnd]
    · have l0 : ¬ nI (cntI (fun j => decide (μ.1 26 0 j = nI c)) n) ≤ 0 := nI_nle (Nat.pos_of_ne_zero hz) (by omega)
      refine ⟨σ, μ, -103, ?_, ?_, W, H, S, T, hR⟩
      · simp only [f_X11_close, hx, Option.bind_some, onR_s hc, u1, if_neg l0]
        rcases hR.circ (σ.1 2 c 7) with ⟨y, -⟩ | ⟨d, hd, -, -, y2, -⟩
        · simp only [y, Option.bind_some, onR_n]
        · simp only [y2, Option.bind_some, onR_s hd]
      · simp only [f_X12_close, hm, Option.bind_some, if_neg n10, chk, if_pos i1, c1, u2, if_neg l0, bnd]
