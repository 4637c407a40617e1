/-! strays: their next link, a stray that comes -/
def nxl (W f d : Nat) (a : Int32) : Nat :=
  if a = -1 then 6 * f
  else if nN a = d then 6 * nN a + 1
  else if nN a % W = d % W then (if nN a < d then 6 * nN a + 4 else 6 * nN a + 2)
  else if nN a % W < d % W then 6 * nN a + 3
  else 6 * nN a + 5
theorem si_l {σ : St} {a b c : Nat} {v : Int32} : (si σ a b c v).2 = σ.2 := rfl
theorem nx_a (W : Nat) (h4 : W < 4) (x : Nat) (hx : x < 9) (d : Nat) (hd : d < 9) (h0 : 0 < W) (h1 : x % W = d % W) (h2 : x ≠ d) : x / W < d / W ↔ x < d := by
  have : W = 1 ∨ W = 2 ∨ W = 3 := by omega
  rcases this with rfl | rfl | rfl <;> omega
theorem nx_b : ∀ a, a < 3 → ∀ b, b < 3 → (nI a - nI b = 0 ↔ b = a) ∧ (0 < nI a - nI b ↔ b < a) := by decide
theorem six (a b : Nat) : 6 * nI a + nI b = nI (6 * a + b) := by
  rw [show (6 : Int32) = nI 6 from rfl, nI_mul, nI_add]
theorem nextXn {σ : St} {i W f d : Nat} (hW : 0 < W) (hW3 : W ≤ 3) (eW : σ.1 4 1 0 = nI W) (hf : f < 9) (hd : d < 9) (e3 : σ.1 7 i 3 = nI f) (e4 : σ.1 7 i 4 = nI d) (e5 : σ.1 7 i 5 = -1 ∨ ∃ x, x < 9 ∧ σ.1 7 i 5 = nI x) : f_X8_linkAhead σ i = some (nI (nxl W f d (σ.1 7 i 5))) := by
  unfold f_X8_linkAhead nxl
  rcases e5 with e | ⟨x, hx, e⟩
  · rw [e, if_pos rfl, if_pos rfl, e3]
    show some (6 * nI f + nI 0) = _
    rw [six]
    rfl
  · have nx : nN (nI x) = x := clL (by omega)
    have m1 := Nat.mod_lt x hW
    have m2 := Nat.mod_lt d hW
    rw [e, if_neg (nI_nm1 (by omega)), if_neg (nI_nm1 (by omega)), nx, e4]
    by_cases q : x = d
    · subst q
      rw [if_pos rfl, if_pos rfl]
      show some (6 * nI x + nI 1) = _
      rw [six]
    · rw [if_neg (fun z => q (nI_inj (by omega) (by omega) z)), if_neg q]
      have hn1 : ¬ nI W < 1 := nltL 1 1 rfl hW (by omega)
      have hn0 : ¬ nI W = 0 := neL 0 0 rfl (by omega) (by omega) (by decide)
      have c1 : f_X4_column σ 1 (nI d) = some (nI (d % W)) := by
        simp only [f_X4_column, eW, if_neg hn1, chk, if_pos hn0, nI_rem (show d < 2 ^ 31 by omega) (show W < 2 ^ 31 by omega)]
      have c2 : f_X4_column σ 1 (nI x) = some (nI (x % W)) := by
        simp only [f_X4_column, eW, if_neg hn1, chk, if_pos hn0, nI_rem (show x < 2 ^ 31 by omega) (show W < 2 ^ 31 by omega)]
      have r1 : f_X4_row σ 1 (nI d) = some (nI (d / W)) := by
        simp only [f_X4_row, eW, if_neg hn1, chk, if_pos hn0, nI_div (show d < 2 ^ 31 by omega) (show W < 2 ^ 31 by omega)]
      have r2 : f_X4_row σ 1 (nI x) = some (nI (x / W)) := by
        simp only [f_X4_row, eW, if_neg hn1, chk, if_pos hn0, nI_div (show x < 2 ^ 31 by omega) (show W < 2 ^ 31 by omega)]
      have b := nx_b (d % W) (by omega) (x % W) (by omega)
      have dl : d / W ≤ d := Nat.div_le_self d W
      have xl : x / W ≤ x := Nat.div_le_self x W
      simp only [f_X8_portAhead, e4, e, c1, c2, r1, r2, Option.bind_some, b.1, b.2, nI_ltI (show x / W < 2 ^ 31 by omega) (show d / W < 2 ^ 31 by omega)]
      by_cases q1 : x % W = d % W
      · rw [if_pos q1, if_pos q1]
        have a := nx_a W (by omega) x hx d hd hW q1 q
        by_cases q2 : x < d
        · rw [if_pos (a.mpr q2), if_pos q2]
          show some (6 * nI x + nI 4) = _
          rw [six]
        · rw [if_neg (fun z => q2 (a.mp z)), if_neg q2]
          show some (6 * nI x + nI 2) = _
          rw [six]
      · rw [if_neg q1, if_neg q1]
        by_cases q2 : x % W < d % W
        · rw [if_pos q2, if_pos q2]
          show some (6 * nI x + nI 3) = _
          rw [six]
        · rw [if_neg q2, if_neg q2]
          show some (6 * nI x + nI 5) = _
          rw [six]
theorem nextMn {μ : St} {j W f d : Nat} (hj : j < 12) (hW : 0 < W) (hW3 : W ≤ 3) (eW : μ.1 0 0 0 = nI W) (hf : f < 9) (hd : d < 9) (e3 : μ.1 31 0 j = nI f) (e4 : μ.1 32 0 j = nI d) (e5 : μ.1 34 0 j = -1 ∨ ∃ x, x < 9 ∧ μ.1 34 0 j = nI x) : f_X12_nextLink μ (nI j) = some (nI (nxl W f d (μ.1 34 0 j))) := by
  have i1 : inb (nI j) 12 := inbL hj (by decide)
  have c1 : Int32.toNatClampNeg (nI j) = j := clL (by omega)
  have hn0 : ¬ nI W = 0 := neL 0 0 rfl (by omega) (by omega) (by decide)
  simp only [f_X12_nextLink, chk, if_pos i1, c1, bnd, eW, if_pos hn0, e3, e4]
  unfold nxl
  rcases e5 with e | ⟨x, hx, e⟩
  · rw [e, if_pos rfl, if_pos rfl, show (6 : Int32) = nI 6 from rfl, nI_mul]
  · have nx : nN (nI x) = x := clL (by omega)
    have m1 := Nat.mod_lt x hW
    have m2 := Nat.mod_lt d hW
    rw [e, if_neg (nI_nm1 (by omega)), if_neg (nI_nm1 (by omega)), nx]
    simp only [nI_rem (show x < 2 ^ 31 by omega) (show W < 2 ^ 31 by omega), nI_rem (show d < 2 ^ 31 by omega) (show W < 2 ^ 31 by omega), nI_ltI (show x < 2 ^ 31 by omega) (show d < 2 ^ 31 by omega), nI_ltI (show x % W < 2 ^ 31 by omega) (show d % W < 2 ^ 31 by omega), nI_eq (show x < 2 ^ 31 by omega) (show d < 2 ^ 31 by omega), nI_eq (show x % W < 2 ^ 31 by omega) (show d % W < 2 ^ 31 by omega)]
    by_cases q : x = d
    · rw [if_pos q, if_pos q, ← six]; rfl
    · rw [if_neg q, if_neg q]
      by_cases q1 : x % W = d % W
      · rw [if_pos q1, if_pos q1]
        by_cases q2 : x < d
        · rw [if_pos q2, if_pos q2, ← six]; rfl
        · rw [if_neg q2, if_neg q2, ← six]; rfl
      · rw [if_neg q1, if_neg q1]
        by_cases q2 : x % W < d % W
        · rw [if_pos q2, if_pos q2, ← six]; rfl
        · rw [if_neg q2, if_neg q2, ← six]; rfl
theorem RelP.router {W H S T k : Nat} {σ μ : St} (h : RelP W H S T k σ μ) (p : Int32) : (f_X4_hasRouter σ 1 p = some 0 ∧ f_X12_isRouter μ p = some 0) ∨ ∃ a, a < W * H ∧ a < 9 ∧ p = nI a ∧ f_X4_hasRouter σ 1 p = some 1 ∧ f_X12_isRouter μ p = some 1 := by
  have g := h.2.2.2.1
  have h9 : W * H ≤ 9 := h.1.WH.2.2
  have z0 : isZ 0 := Or.inl rfl
  have z1 : isZ 1 := Or.inr rfl
  by_cases h0 : 0 ≤ p
  · by_cases h1 : p < nI (W * H)
    · have h1' := h1
      rw [i_lt, nI_toInt (show W * H < 2 ^ 31 by omega)] at h1'
      obtain ⟨a, ha, rfl⟩ := nat_of (hi := 9) h0 (by omega)
      rw [nI_toInt (show a < 2 ^ 31 by omega)] at h1'
      have ha2 : a < W * H := by omega
      right
      refine ⟨a, ha2, by omega, rfl, ?_, ?_⟩
      · simp only [f_X4_hasRouter, if_pos h0, routersX_eq g, Option.bind_some, if_pos h1, if_pos (ltL 9 9 rfl (show a < 9 by omega) (by decide))]
      · have : nI a ≤ nI (W * H) - 1 := by
          rw [show (1 : Int32) = nI 1 from rfl, nI_sub (by omega)]
          exact nI_le (by omega) (by omega)
        simp only [f_X12_isRouter, routers_eq g, Option.bind_some, within_in h0 this, chk, if_pos z1]
    · left
      constructor
      · simp only [f_X4_hasRouter, if_pos h0, routersX_eq g, Option.bind_some, if_neg h1]
      · have : ¬ (0 ≤ p ∧ p ≤ nI (W * H) - 1) := by
          rintro ⟨-, z⟩
          apply h1
          by_cases q : W * H = 0
          · rw [q] at z
            rw [i_le] at z h0
            have e1 : (nI 0 - 1).toInt = -1 := by decide
            have e2 : (0 : Int32).toInt = 0 := by decide
            omega
          · rw [show (1 : Int32) = nI 1 from rfl, nI_sub (by omega), i_le, nI_toInt (by omega)] at z
            rw [i_lt, nI_toInt (by omega)]
            omega
        simp only [f_X12_isRouter, routers_eq g, Option.bind_some, within_out this, chk, if_pos z0]
  · left
    constructor
    · simp only [f_X4_hasRouter, if_neg h0]
    · simp only [f_X12_isRouter, routers_eq g, Option.bind_some, within_out (fun z : 0 ≤ p ∧ p ≤ nI (W * H) - 1 => h0 z.1), chk, if_pos z0]
/-- only the strays have changed -/
theorem RelP.st {W H S T k : Nat} {σ μ σ2 μ2 : St} (h : RelP W H S T k σ μ) (xa : ∀ a, a ≠ 7 → a ≠ 8 → a ≠ 0 → σ2.1 a = σ.1 a) (m0 : ∀ j, j ≠ 30 → μ2.1 0 0 j = μ.1 0 0 j) (ma : ∀ a, a ≠ 0 → (a < 31 ∨ 38 < a) → μ2.1 a = μ.1 a) (hs : RSt W H T σ2 μ2) (hr : RAr σ2 μ2) : RelP W H S T k σ2 μ2 := by
  obtain ⟨g1, g2, g3, g4, g5, g6, g7, g8, g9, g10⟩ := h
  have m9 : MA μ2 μ 9 24 := fun a b c => ma a (by omega) (by omega)
  refine ⟨g1, g2, g3.cg (by rw [xa 5 (by decide) (by decide) (by decide)]) (xa 12 (by decide) (by decide) (by decide)) (m0 7 (by decide)) (ma 8 (by decide) (by decide)), g4.cg (by rw [xa 4 (by decide) (by decide) (by decide)]) (xa 1 (by decide) (by decide) (by decide)) (by rw [xa 11 (by decide) (by decide) (by decide)]) (xa 14 (by decide) (by decide) (by decide)) (xa 15 (by decide) (by decide) (by decide)) (fun j hj => m0 j (by omega)) (fun a b c => ma a (by omega) (by omega)),
    g5.cg (xa 2 (by decide) (by decide) (by decide)) (xa 17 (by decide) (by decide) (by decide)) (xa 18 (by decide) (by decide) (by decide)) m9, g6.cg (xa 16 (by decide) (by decide) (by decide)) (m9.w (by omega) (by omega)), g7.cg (xa 18 (by decide) (by decide) (by decide)) (m9.w (by omega) (by omega)) (m9 23 (by omega) (by omega)) (fun a b c => ma a (by omega) (by omega)) (m0 25 (by decide)), hs, hr, by unfold R10 at g10 ⊢; rw [xa 10 (by decide) (by decide) (by decide), xa 20 (by decide) (by decide) (by decide), m0 4 (by decide)]; exact g10⟩
/-- a stray that comes -/
theorem RelP.comes {W H S T k : Nat} {σ μ : St} (h : RelP W H S T k σ μ) {n a b : Nat} {p3 : Int32} (ha : a < W * H) (hb : b < W * H) (h3 : isZ p3) (hn : n < 12) (en : σ.1 8 0 0 = nI n) : ∃ σ2 μ2, f_X9_add σ (nI a) (nI b) p3 = some (σ2, 1) ∧ f_X12_comes μ (nI a) (nI b) p3 = some μ2 ∧ RelP W H S T k σ2 μ2 ∧ σ2.1 8 0 0 = nI (n + 1) ∧ μ2.1 0 0 30 = nI (n + 1) ∧ (∀ a, a ≠ 7 → a ≠ 8 → σ2.1 a = σ.1 a) ∧ (∀ j, j ≠ 0 → σ2.1 8 0 j = σ.1 8 0 j) ∧ σ2.2 = σ.2 ∧ μ2.2 = μ.2 ∧ (∀ j, j ≠ 30 → μ2.1 0 0 j = μ.1 0 0 j) ∧ (∀ a, a ≠ 0 → (a < 31 ∨ 35 < a) → μ2.1 a = μ.1 a) := by
  obtain ⟨g1, g2, g3, g4, g5, g6, g7, ⟨n', hn', en', em, r1, r2, r3, r4⟩, g9, g10⟩ := h
  have : n' = n := nI_inj (by omega) (by omega) (en'.symm.trans en)
  subst this
  have i1 : inb (nI n') 12 := inbL hn (by decide)
  have c1 : Int32.toNatClampNeg (nI n') = n' := clL (by omega)
  have hi := r2 n' hn
  have eT : σ.1 1 0 2 = nI T := g4.2.2.2.1
  have mT : μ.1 0 0 3 = nI T := g4.2.2.2.2.2.2.2.1
  have e31 : p3 &&& 1 = p3 := by rcases h3 with z | z <;> rw [z] <;> decide
  refine ⟨si (si (si (si (si (si (si σ 7 (σ.2.1 n') 3 (nI a)) 7 (σ.2.1 n') 4 (nI b)) 7 (σ.2.1 n') 0 p3) 7 (σ.2.1 n') 1 0) 7 (σ.2.1 n') 5 (-1)) 7 (σ.2.1 n') 6 (nI T)) 8 0 0 (nI (n' + 1)), si (si (si (si (si (si μ 31 0 n' (nI a)) 32 0 n' (nI b)) 33 0 n' p3) 34 0 n' (-1)) 35 0 n' (nI T)) 0 0 30 (nI (n' + 1)), ?_, ?_, ?_, si_eq, si_eq, fun a h7 h8 => ?_, fun j hj => by rw [si_j hj, si_k (by decide), si_k (by decide), si_k (by decide), si_k (by decide), si_k (by decide), si_k (by decide)], rfl, rfl, fun j hj => ?_, fun a h0 hr => ?_⟩
  · simp only [f_X9_add, en, if_pos (leL 0 0 rfl (Nat.zero_le n') (by omega)), if_neg (nleL 12 12 rfl hn (by decide)), chk, if_pos i1, c1, if_pos hi, f_X8_set, bnd, if_pos h3, Option.bind_some, eT]
    simp (decide := true) only [si_k, en, nI_1]
  · simp only [f_X12_comes, em, chk, if_pos i1, c1, bnd]
    simp (decide := true) only [si_k, em, if_pos i1, c1, mT, e31, nI_1]
  · refine RelP.st ⟨g1, g2, g3, g4, g5, g6, g7, ⟨n', hn', en', em, r1, r2, r3, r4⟩, g9, g10⟩ (fun a h7 h8 _ => ?_) (fun j hj => ?_) (fun a h0 hr => ?_) ⟨n' + 1, by omega, si_eq, si_eq, fun _ => by omega, r2, r3, fun j hj => ?_⟩ ?_
    · rw [si_k h8, si_k h7, si_k h7, si_k h7, si_k h7, si_k h7, si_k h7]
    · rw [si_j hj]
      simp (decide := true) only [si_k]
    · rw [si_k h0, si_k (by omega), si_k (by omega), si_k (by omega), si_k (by omega), si_k (by omega)]
    · by_cases q : j = n'
      · subst q
        show _ = _ ∧ _ ∧ _ = _ ∧ _ = _ ∧ _ = _ ∧ _ = _ ∧ _ = _ ∧ _
        have y31 : (si (si (si (si (si (si μ 31 0 j (nI a)) 32 0 j (nI b)) 33 0 j p3) 34 0 j (-1)) 35 0 j (nI T)) 0 0 30 (nI (j + 1))).1 31 0 j = nI a := by simp (decide := true) only [si_k, si_eq]
        have y32 : (si (si (si (si (si (si μ 31 0 j (nI a)) 32 0 j (nI b)) 33 0 j p3) 34 0 j (-1)) 35 0 j (nI T)) 0 0 30 (nI (j + 1))).1 32 0 j = nI b := by simp (decide := true) only [si_k, si_eq]
        have y33 : (si (si (si (si (si (si μ 31 0 j (nI a)) 32 0 j (nI b)) 33 0 j p3) 34 0 j (-1)) 35 0 j (nI T)) 0 0 30 (nI (j + 1))).1 33 0 j = p3 := by simp (decide := true) only [si_k, si_eq]
        have y34 : (si (si (si (si (si (si μ 31 0 j (nI a)) 32 0 j (nI b)) 33 0 j p3) 34 0 j (-1)) 35 0 j (nI T)) 0 0 30 (nI (j + 1))).1 34 0 j = -1 := by simp (decide := true) only [si_k, si_eq]
        have y35 : (si (si (si (si (si (si μ 31 0 j (nI a)) 32 0 j (nI b)) 33 0 j p3) 34 0 j (-1)) 35 0 j (nI T)) 0 0 30 (nI (j + 1))).1 35 0 j = nI T := by simp (decide := true) only [si_k, si_eq]
        rw [y31, y32, y33, y34, y35]
        refine ⟨?_, h3, ?_, ?_, ?_, ?_, ?_, ⟨a, by omega, by omega, rfl⟩, ⟨b, by omega, by omega, rfl⟩, Or.inl rfl⟩ <;> simp (decide := true) only [si_l, si_k, si_j, si_eq]
      · have qi : σ.2.1 j ≠ σ.2.1 n' := fun z => q (r3 j n' (by omega) hn z)
        have := r4 j (by omega)
        show (si (si (si (si (si (si (si σ 7 (σ.2.1 n') 3 (nI a)) 7 (σ.2.1 n') 4 (nI b)) 7 (σ.2.1 n') 0 p3) 7 (σ.2.1 n') 1 0) 7 (σ.2.1 n') 5 (-1)) 7 (σ.2.1 n') 6 (nI T)) 8 0 0 (nI (n' + 1))).1 7 (σ.2.1 j) 0 = _ ∧ _
        have x7 : (si (si (si (si (si (si (si σ 7 (σ.2.1 n') 3 (nI a)) 7 (σ.2.1 n') 4 (nI b)) 7 (σ.2.1 n') 0 p3) 7 (σ.2.1 n') 1 0) 7 (σ.2.1 n') 5 (-1)) 7 (σ.2.1 n') 6 (nI T)) 8 0 0 (nI (n' + 1))).1 7 (σ.2.1 j) = σ.1 7 (σ.2.1 j) := by
          funext c
          rw [si_k (by decide), si_i qi, si_i qi, si_i qi, si_i qi, si_i qi, si_i qi]
        have ym : ∀ e, e ≠ 0 → (si (si (si (si (si (si μ 31 0 n' (nI a)) 32 0 n' (nI b)) 33 0 n' p3) 34 0 n' (-1)) 35 0 n' (nI T)) 0 0 30 (nI (n' + 1))).1 e 0 j = μ.1 e 0 j := fun e he => by
          rw [si_k he, si_j q, si_j q, si_j q, si_j q, si_j q]
        show _ = _ ∧ _ ∧ (si (si (si (si (si (si (si σ 7 (σ.2.1 n') 3 (nI a)) 7 (σ.2.1 n') 4 (nI b)) 7 (σ.2.1 n') 0 p3) 7 (σ.2.1 n') 1 0) 7 (σ.2.1 n') 5 (-1)) 7 (σ.2.1 n') 6 (nI T)) 8 0 0 (nI (n' + 1))).1 7 (σ.2.1 j) 1 = _ ∧ (si (si (si (si (si (si (si σ 7 (σ.2.1 n') 3 (nI a)) 7 (σ.2.1 n') 4 (nI b)) 7 (σ.2.1 n') 0 p3) 7 (σ.2.1 n') 1 0) 7 (σ.2.1 n') 5 (-1)) 7 (σ.2.1 n') 6 (nI T)) 8 0 0 (nI (n' + 1))).1 7 (σ.2.1 j) 3 = _ ∧ (si (si (si (si (si (si (si σ 7 (σ.2.1 n') 3 (nI a)) 7 (σ.2.1 n') 4 (nI b)) 7 (σ.2.1 n') 0 p3) 7 (σ.2.1 n') 1 0) 7 (σ.2.1 n') 5 (-1)) 7 (σ.2.1 n') 6 (nI T)) 8 0 0 (nI (n' + 1))).1 7 (σ.2.1 j) 4 = _ ∧ (si (si (si (si (si (si (si σ 7 (σ.2.1 n') 3 (nI a)) 7 (σ.2.1 n') 4 (nI b)) 7 (σ.2.1 n') 0 p3) 7 (σ.2.1 n') 1 0) 7 (σ.2.1 n') 5 (-1)) 7 (σ.2.1 n') 6 (nI T)) 8 0 0 (nI (n' + 1))).1 7 (σ.2.1 j) 5 = _ ∧ (si (si (si (si (si (si (si σ 7 (σ.2.1 n') 3 (nI a)) 7 (σ.2.1 n') 4 (nI b)) 7 (σ.2.1 n') 0 p3) 7 (σ.2.1 n') 1 0) 7 (σ.2.1 n') 5 (-1)) 7 (σ.2.1 n') 6 (nI T)) 8 0 0 (nI (n' + 1))).1 7 (σ.2.1 j) 6 = _ ∧ _
        rw [x7, ym 31 (by decide), ym 32 (by decide), ym 33 (by decide), ym 34 (by decide), ym 35 (by decide)]
        exact this
    · unfold RAr at g9 ⊢
      simp (decide := true) only [si_k]
      exact g9
  · rw [si_k h8, si_k h7, si_k h7, si_k h7, si_k h7, si_k h7, si_k h7]
  · rw [si_j hj]
    simp (decide := true) only [si_k]
  · rw [si_k h0, si_k (by omega), si_k (by omega), si_k (by omega), si_k (by omega), si_k (by omega)]
theorem ok_stray_Rel : ok_stray Rel := by
  intro k σ μ hk ⟨W, H, S, T, hR0⟩ p1 p2 p3 h3
  have hR := hR0.mono
  have n10 : ¬ (1 : Int32) = 0 := by decide
  obtain ⟨t1, t2⟩ := isThere_eq hR
  by_cases hS : 0 < S
  · rw [if_pos hS] at t1 t2
    rcases hR.router p1 with ⟨hx, hm⟩ | ⟨a, ha, ha9, rfl, hx, hm⟩
    · refine ⟨σ, μ, -101, ?_, ?_, W, H, S, T, hR⟩
      · simp only [f_X11_stray, t1, hx, Option.bind_some, if_neg n10]; rfl
      · simp only [f_X12_stray, t2, hm, Option.bind_some, if_neg n10]; rfl
    · rcases hR.router p2 with ⟨hx2, hm2⟩ | ⟨b, hb, hb9, rfl, hx2, hm2⟩
      · refine ⟨σ, μ, -101, ?_, ?_, W, H, S, T, hR⟩
        · simp only [f_X11_stray, t1, hx, hx2, Option.bind_some, if_neg n10]; rfl
        · simp only [f_X12_stray, t2, hm, hm2, Option.bind_some, if_neg n10]; rfl
      · obtain ⟨n, hn, en, em, -⟩ := hR.2.2.2.2.2.2.2.1
        by_cases q : n = 12
        · subst q
          refine ⟨σ, μ, -104, ?_, ?_, W, H, S, T, hR⟩
          · have : f_X9_add σ (nI a) (nI b) p3 = some (σ, 0) := by
              simp only [f_X9_add, en]; rfl
            simp only [f_X11_stray, t1, hx, hx2, Option.bind_some, if_neg n10, this]; rfl
          · simp only [f_X12_stray, t2, hm, hm2, Option.bind_some, if_neg n10, em]; rfl
        · obtain ⟨σ2, μ2, a1, a2, a3, a4, a5, -⟩ := hR.comes ha hb h3 (show n < 12 by omega) en
          refine ⟨σ2, μ2, nI (n + 1), ?_, ?_, W, H, S, T, a3⟩
          · simp only [f_X11_stray, t1, hx, hx2, Option.bind_some, if_neg n10, a1, a4]
          · have : ¬ nI n = 12 := neL 12 12 rfl q (by omega) (by decide)
            simp only [f_X12_stray, t2, hm, hm2, Option.bind_some, if_neg n10, em, if_neg this, a2, a5]
  · rw [if_neg hS] at t1 t2
    refine ⟨σ, μ, -103, ?_, ?_, W, H, S, T, hR⟩
    · simp only [f_X11_stray, t1, Option.bind_some]; rfl
    · simp only [f_X12_stray, t2, Option.bind_some]; rfl
