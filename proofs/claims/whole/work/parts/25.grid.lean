/-! loops; the grid; links -/
theorem loopM {A R : Type} (f : Nat → A → Int32 → Option R) (res : Nat → Nat → A → Option R) (N : Nat) (hs : ∀ n m t a, t + (m + 1) = N → (∀ b, f n b (nI (t + 1)) = res m (t + 1) b) → f (n + 1) a (nI t) = res (m + 1) t a) (he : ∀ n a, f (n + 1) a (nI N) = res 0 N a) :
    ∀ m t n a, t + m = N → m < n → f n a (nI t) = res m t a := by
  intro m
  induction m with
  | zero =>
    intro t n a h1 h2
    obtain ⟨n, rfl⟩ : ∃ j, n = j + 1 := ⟨n - 1, by omega⟩
    rw [show t = N by omega]
    exact he n a
  | succ m ih =>
    intro t n a h1 h2
    obtain ⟨n, rfl⟩ : ∃ j, n = j + 1 := ⟨n - 1, by omega⟩
    exact hs n m t a h1 (fun b => ih (t + 1) n b (by omega) (by omega))
theorem FU_lt {N : Nat} (h : N < 5000) : N < FU := h
def bz (b : Bool) : Int32 := if b then 1 else 0
theorem bz_0 (b : Bool) : bz b = 0 ↔ b = false := by cases b <;> decide
theorem bz_Z (b : Bool) : isZ (bz b) := by cases b <;> decide
theorem isLN {l : Nat} (h : l < 54) : f_X11_isLinkNumber (nI l) = some 1 := by
  unfold f_X11_isLinkNumber
  rw [if_pos (nI_pos' (by omega)), if_pos (ltL 54 54 rfl h (by decide))]
theorem isLN_no {p : Int32} (h : ¬ (0 ≤ p ∧ p < 54)) : f_X11_isLinkNumber p = some 0 := by
  unfold f_X11_isLinkNumber
  by_cases h1 : 0 ≤ p
  · rw [if_pos h1, if_neg (fun z => h ⟨h1, z⟩)]
  · rw [if_neg h1]
theorem link_of {p : Int32} (h : 0 ≤ p ∧ p < 54) : ∃ l, l < 54 ∧ p = nI l := by
  have h2 := h.2
  rw [i_lt, show (54 : Int32).toInt = 54 from by decide] at h2
  obtain ⟨n, h3, h4⟩ := nat_of (hi := 53) h.1 (by omega)
  exact ⟨n, by omega, h4⟩
theorem hasLink_eq {σ : St} {i l : Nat} (h : l < 54) : f_X4_hasLink σ i (nI l) = some (if σ.1 11 i l = -2 then 0 else 1) := by
  simp only [f_X4_hasLink, isLN h, Option.bind_some, chk, if_pos (inbL h (show 54 < 2 ^ 31 by decide)), clL (show l < 2 ^ 31 by omega), show ¬ (1 : Int32) = 0 from by decide, if_false]
  split <;> rfl
theorem hasLink_no {σ : St} {i : Nat} {p : Int32} (h : ¬ (0 ≤ p ∧ p < 54)) : f_X4_hasLink σ i p = some 0 := by
  simp only [f_X4_hasLink, isLN_no h, Option.bind_some]
  rfl
set_option maxHeartbeats 2000000 in
theorem leads_eq : ∀ W, W < 4 → ∀ H, H < 4 → ∀ l, l < 54 → (2 ≤ W ∧ 2 ≤ H ∧ l / 6 < W * H) → f_X12_leadsTo (nI (l / 6)) (nI (l % 6)) (nI W) (nI H) = some (if endV W H l = -2 then -1 else endV W H l) := by decide +kernel
theorem okWHS.WH {W H S : Nat} (h : okWHS W H S) : W < 4 ∧ H < 4 ∧ W * H ≤ 9 := by
  rcases h with ⟨rfl, rfl, rfl⟩ | ⟨rfl | rfl, rfl | rfl, -⟩ <;> omega
theorem okWHS.chip {W H S : Nat} (h : okWHS W H S) (h0 : 0 < W * H) : (W = 2 ∨ W = 3) ∧ (H = 2 ∨ H = 3) ∧ 4 ≤ S ∧ S ≤ 10 := by
  rcases h with ⟨rfl, rfl, rfl⟩ | h
  · omega
  · exact h
theorem endV_in {W H l : Nat} (h : endV W H l ≠ -2) : l / 6 < W * H := by
  unfold endV at h
  by_cases q : W * H ≤ l / 6
  · rw [if_pos q] at h; exact absurd rfl h
  · omega
theorem leads_at {W H S : Nat} (hw : okWHS W H S) {l : Nat} (hl : l < 54) (h : l / 6 < W * H) : f_X12_leadsTo (nI (l / 6)) (nI (l % 6)) (nI W) (nI H) = some (if endV W H l = -2 then -1 else endV W H l) := by
  have hc := hw.chip (by omega)
  have h2 := hw.WH
  exact leads_eq W h2.1 H h2.2.1 l hl ⟨by omega, by omega, h⟩
theorem div6 {l : Nat} (h : l < 54) : nI l / 6 = nI (l / 6) := nI_div (b := 6) (by omega) (by decide)
theorem rem6 {l : Nat} (h : l < 54) : remI (nI l) 6 = nI (l % 6) := nI_rem (b := 6) (by omega) (by decide)
theorem endV_io {W H l : Nat} (hl : l < 54) (h : l / 6 < W * H) (h2 : l % 6 < 2) : endV W H l ≠ -2 := by
  unfold endV
  rw [if_neg (by omega)]
  by_cases q : l % 6 = 0
  · rw [if_pos q]
    intro z
    have e := congrArg Int32.toInt z
    rw [nI_toInt (by omega), show (-2 : Int32).toInt = -2 from by decide] at e
    omega
  · rw [if_neg q, if_pos (by omega)]
    decide
theorem routers_eq {W H S T : Nat} {σ μ : St} (hg : RGr W H S T σ μ) : f_X12_routers μ = some (nI (W * H)) := by
  unfold f_X12_routers
  rw [hg.2.2.2.2.1, hg.2.2.2.2.2.1, nI_mul]
theorem routersX_eq {W H S T : Nat} {σ μ : St} (hg : RGr W H S T σ μ) : f_X4_routers σ 1 = some (nI (W * H)) := by
  unfold f_X4_routers
  rw [hg.1, hg.2.1, nI_mul]
theorem isLink_eq {W H S T : Nat} {σ μ : St} (hw : okWHS W H S) (hg : RGr W H S T σ μ) {l : Nat} (hl : l < 54) : f_X12_isLink μ (nI l) = some (if endV W H l = -2 then 0 else 1) := by
  have h9 := hw.WH.2.2
  have h6 : (6 : Int32) * nI (W * H) - 1 = nI (6 * (W * H)) - nI 1 := by rw [show (6 : Int32) = nI 6 from rfl, nI_mul]; rfl
  simp only [f_X12_isLink, routers_eq hg, Option.bind_some]
  by_cases hc : l / 6 < W * H
  · rw [within_in (nI_pos' (by omega)) (by rw [h6, nI_sub (by omega)]; exact nI_le (by omega) (by omega))]
    simp only [Option.bind_some, show ¬ (1 : Int32) = 0 from by decide, if_false, rem6 hl, div6 hl, hg.2.2.2.2.1, hg.2.2.2.2.2.1]
    by_cases h2 : 2 ≤ l % 6
    · rw [if_pos (leL 2 2 rfl h2 (by omega)), leads_at hw hl hc]
      simp only [Option.bind_some]
      by_cases e : endV W H l = -2
      · rw [if_pos e, if_pos e, if_pos rfl]
      · rw [if_neg e, if_neg e, if_neg]
        intro z
        have : l % 6 ≠ 0 ∧ l % 6 ≠ 1 := by omega
        unfold endV at z e
        rw [if_neg (by omega), if_neg this.1, if_neg this.2] at z e
        have hW4 := hw.WH.1
        have hz : ∀ n : Nat, n < 100 → nI n ≠ -1 := fun n hn => nI_nm1 (by omega)
        (repeat' split at z) <;> first | exact hz _ (by omega) z | exact absurd z (by decide)
    · rw [if_neg (nleL 2 2 rfl (by omega) (by decide)), if_neg (endV_io hl hc (by omega))]
  · rw [within_out]
    · simp only [Option.bind_some, if_true]
      unfold endV
      rw [if_pos (show W * H ≤ l / 6 by omega), if_pos rfl]
    · intro z
      have z2 := z.2
      rw [h6, i_le, nI_toInt (by omega), Int32.toInt_sub, nI_toInt (by omega), nI_toInt (by decide), Int.bmod_eq_of_le (by omega) (by omega)] at z2
      omega
theorem isLink_no {W H S T : Nat} {σ μ : St} (hw : okWHS W H S) (hg : RGr W H S T σ μ) {p : Int32} (h : ¬ (0 ≤ p ∧ p < 54)) : f_X12_isLink μ p = some 0 := by
  have h9 := hw.WH.2.2
  have h6 : (6 : Int32) * nI (W * H) - 1 = nI (6 * (W * H)) - nI 1 := by rw [show (6 : Int32) = nI 6 from rfl, nI_mul]; rfl
  simp only [f_X12_isLink, routers_eq hg, Option.bind_some]
  rw [within_out]
  · rfl
  · intro z
    apply h
    refine ⟨z.1, ?_⟩
    have z2 := z.2
    rw [h6, i_le, Int32.toInt_sub, nI_toInt (by omega), nI_toInt (by decide), Int.bmod_eq_of_le (by omega) (by omega)] at z2
    rw [i_lt, show (54 : Int32).toInt = 54 from by decide]
    omega
/-- a number names a link, or none, on both sides alike -/
theorem RelP.link {W H S T k : Nat} {σ μ : St} (h : RelP W H S T k σ μ) (p : Int32) :
    (f_X4_hasLink σ 1 p = some 0 ∧ f_X12_isLink μ p = some 0) ∨ ∃ l, l < 54 ∧ p = nI l ∧ endV W H l ≠ -2 ∧ f_X4_hasLink σ 1 p = some 1 ∧ f_X12_isLink μ p = some 1 := by
  obtain ⟨hw, -, -, hg, -⟩ := h
  by_cases h1 : 0 ≤ p ∧ p < 54
  · obtain ⟨l, hl, rfl⟩ := link_of h1
    by_cases e : endV W H l = -2
    · left
      rw [hasLink_eq hl, hg.2.2.2.2.2.2.2.2.1 l hl, isLink_eq hw hg hl, if_pos e]
      exact ⟨rfl, rfl⟩
    · right
      refine ⟨l, hl, rfl, e, ?_, ?_⟩
      · rw [hasLink_eq hl, hg.2.2.2.2.2.2.2.2.1 l hl, if_neg e]
      · rw [isLink_eq hw hg hl, if_neg e]
  · left
    exact ⟨hasLink_no h1, isLink_no hw hg h1⟩
theorem isBroken_eq {σ : St} {l : Nat} (h : l < 54) : f_X1_isBroken σ (nI l) = some (if σ.1 14 0 l = 0 then 0 else 1) := by
  simp only [f_X1_isBroken, isLN h, Option.bind_some, chk, if_pos (inbL h (show 54 < 2 ^ 31 by decide)), clL (show l < 2 ^ 31 by omega), show ¬ (1 : Int32) = 0 from by decide, if_false]
  split <;> rfl
theorem endOf_eq {σ : St} {i l : Nat} (h : l < 54) (h2 : σ.1 11 i l ≠ -2) : f_X4_endOf σ i (nI l) = some (σ.1 11 i l) := by
  simp only [f_X4_endOf, hasLink_eq h, if_neg h2, Option.bind_some, chk, if_pos (inbL h (show 54 < 2 ^ 31 by decide)), clL (show l < 2 ^ 31 by omega), show ¬ (1 : Int32) = 0 from by decide, if_false]
