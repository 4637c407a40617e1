theorem si_k' {σ : St} {k i j a b : Nat} {v : Int32} (h : a ≠ k) : (si σ k i j v).1 a b = σ.1 a b := by rw [si_k h]
/-! the page is read -/
def KX (σ σ2 : St) : Prop := σ2.2 = σ.2 ∧ (∀ a, a ≠ 4 → a ≠ 5 → a ≠ 11 → a ≠ 13 → σ2.1 a = σ.1 a) ∧ σ2.1 4 1 = σ.1 4 1 ∧ σ2.1 11 1 = σ.1 11 1 ∧ σ2.1 5 0 0 = σ.1 5 0 0
def KM (μ μ2 : St) : Prop := μ2.2 = μ.2 ∧ (∀ a, a ≠ 0 → a ≠ 44 → μ2.1 a = μ.1 a) ∧ ∀ j, j < 39 → μ2.1 0 0 j = μ.1 0 0 j
theorem KX.refl (σ : St) : KX σ σ := ⟨rfl, fun _ _ _ _ _ => rfl, rfl, rfl, rfl⟩
theorem KM.refl (σ : St) : KM σ σ := ⟨rfl, fun _ _ _ => rfl, fun _ _ => rfl⟩
theorem KX.tr {a b c : St} (h : KX a b) (g : KX b c) : KX a c := ⟨g.1.trans h.1, fun x h1 h2 h3 h4 => (g.2.1 x h1 h2 h3 h4).trans (h.2.1 x h1 h2 h3 h4), g.2.2.1.trans h.2.2.1, g.2.2.2.1.trans h.2.2.2.1, g.2.2.2.2.trans h.2.2.2.2⟩
theorem KM.tr {a b c : St} (h : KM a b) (g : KM b c) : KM a c := ⟨g.1.trans h.1, fun x h1 h2 => (g.2.1 x h1 h2).trans (h.2.1 x h1 h2), fun j hj => (g.2.2 j hj).trans (h.2.2 j hj)⟩
theorem KX.s5 {σ : St} {j : Nat} {v : Int32} (hj : 0 ≠ j) : KX σ (si σ 5 0 j v) := ⟨rfl, fun a _ h _ _ => si_k h, si_k' (by decide), si_k' (by decide), si_j hj⟩
theorem KX.s13 {σ : St} {j : Nat} {v : Int32} : KX σ (si σ 13 0 j v) := ⟨rfl, fun a _ _ _ h => si_k h, si_k' (by decide), si_k' (by decide), by rw [si_k (by decide)]⟩
theorem KM.s0 {μ : St} {j : Nat} {v : Int32} (hj : 39 ≤ j) : KM μ (si μ 0 0 j v) := ⟨rfl, fun a h _ => si_k h, fun i hi => si_j (by omega)⟩
theorem KM.s44 {μ : St} {j : Nat} {v : Int32} : KM μ (si μ 44 0 j v) := ⟨rfl, fun a _ h => si_k h, fun i hi => by rw [si_k (by decide)]⟩
theorem KX.rel {W H S T k : Nat} {σ μ σ2 μ2 : St} (h : RelP W H S T k σ μ) (x : KX σ σ2) (m : KM μ μ2) : RelP W H S T k σ2 μ2 := by
  obtain ⟨x1, x2, x3, x4, x5⟩ := x
  have xa : ∀ a, a ≠ 4 ∧ a ≠ 5 ∧ a ≠ 11 ∧ a ≠ 13 → σ2.1 a = σ.1 a := fun a h => x2 a h.1 h.2.1 h.2.2.1 h.2.2.2
  exact h.cg x5 (xa 12 (by decide)) x3 (xa 1 (by decide)) x4 (fun a _ _ => xa a (by omega)) (xa 2 (by decide)) (by rw [xa 8 (by decide)]) (xa 7 (by decide)) (by rw [x1]) (xa 0 (by decide)) (xa 10 (by decide)) m.2.2 (fun a _ _ => m.2.1 a (by omega) (by omega))
def Zb (μ : St) : Prop := ∀ l, l < 54 → μ.1 44 0 l = 0
def GR (W H : Nat) (σ μ : St) : Prop := W2 W ∧ W2 H ∧ σ.1 5 0 1 = nI W ∧ σ.1 5 0 2 = nI H ∧ σ.1 4 0 0 = nI W ∧ σ.1 4 0 1 = nI H ∧ μ.1 0 0 40 = nI W ∧ μ.1 0 0 41 = nI H ∧
  ∀ l, l < 54 → σ.1 11 0 l = endV W H l ∧ isZ (μ.1 44 0 l) ∧ σ.1 13 0 l = bz (inN W H l && decide (μ.1 44 0 l = 0)) ∧ (μ.1 44 0 l ≠ 0 → inN W H l = true)
def Rd (v g : Nat) (σ μ : St) : Prop := μ.1 0 0 39 = nI g ∧
  ((g = 0 ∧ v = 0 ∧ σ.1 5 0 3 = 0 ∧ Zb μ) ∨
   ((g = 1 ∧ v = 1 ∨ g = 2 ∧ v = 2) ∧ σ.1 5 0 3 = 0 ∧ Zb μ ∧ ∃ W, W2 W ∧ σ.1 5 0 1 = nI W ∧ μ.1 0 0 40 = nI W) ∨
   (g = 3 ∧ v = 3 ∧ σ.1 5 0 3 = 0 ∧ Zb μ ∧ ∃ W H, W2 W ∧ W2 H ∧ σ.1 5 0 1 = nI W ∧ σ.1 5 0 2 = nI H ∧ μ.1 0 0 40 = nI W ∧ μ.1 0 0 41 = nI H) ∨
   (g = 4 ∧ v = 4 ∧ σ.1 5 0 3 = 0 ∧ ∃ W H, GR W H σ μ) ∨
   (g = 5 ∧ v = 5 ∧ σ.1 5 0 3 = 1 ∧ μ.1 0 0 42 = 10 ∧ ∃ W H, GR W H σ μ) ∨
   (∃ W H S q, GR W H σ μ ∧ 4 ≤ S ∧ S ≤ 10 ∧ σ.1 5 0 3 = nI S ∧ μ.1 0 0 42 = nI S ∧ 6 ≤ g ∧ g ≤ 8 ∧ v = (if S = 10 then 6 else 5) + 3 * q + (g - 6) ∧ (g = 8 → ∃ a, a < W * H ∧ σ.1 5 0 8 = nI a ∧ μ.1 0 0 43 = nI a)))
/-- one letter is taken alike -/
def TK (v : Nat) (σ μ : St) (c : Int32) : Prop := ∃ σ2 μ2 b, f_X5_takes σ (nI v) c = some (σ2, b) ∧ f_X12_takes μ c = some (μ2, b) ∧ KX σ σ2 ∧ KM μ μ2 ∧ isZ b ∧ (b = 1 → ∃ g, Rd (v + 1) g σ2 μ2)
theorem goes0 (μ : St) (g : Int32) : f_X12_goes μ 0 g = some (si μ 0 0 39 (μ.1 0 0 39), 0) := by
  unfold f_X12_goes chk bnd
  rw [if_pos rfl]
  exact if_pos (Or.inl rfl)
theorem goes1 (μ : St) (g : Int32) : f_X12_goes μ 1 g = some (si μ 0 0 39 g, 1) := by
  unfold f_X12_goes chk bnd
  rw [if_neg (by decide)]
  exact if_pos (Or.inr rfl)
theorem chkT {α : Type} {inst : Decidable True} (a : Option α) : @chk α True inst a = a := if_pos trivial
theorem chkz0 {α : Type} (a : Option α) : chk (isZ 0) a = a := if_pos (Or.inl rfl)
theorem chkz1 {α : Type} (a : Option α) : chk (isZ 1) a = a := if_pos (Or.inr rfl)
theorem w23 (y : Int32) : f_X12_within y 2 3 = some (if y = 2 ∨ y = 3 then 1 else 0) := by
  rw [within_eq]
  congr 1
  have : (2 ≤ y ∧ y ≤ 3) ↔ (y = 2 ∨ y = 3) := by
    rw [i_le, i_le, i_eq, i_eq, show (2 : Int32).toInt = 2 from by decide, show (3 : Int32).toInt = 3 from by decide]
    omega
  by_cases q : y = 2 ∨ y = 3
  · rw [if_pos q, if_pos (this.mpr q)]
  · rw [if_neg q, if_neg (fun z => q (this.mp z))]
theorem w49 (y : Int32) : (4 ≤ y ∧ y ≤ 9) → ∃ S, 4 ≤ S ∧ S ≤ 9 ∧ y = nI S := by
  rintro ⟨h1, h2⟩
  rw [i_le, show (4 : Int32).toInt = 4 from by decide] at h1
  rw [i_le, show (9 : Int32).toInt = 9 from by decide] at h2
  exact ⟨y.toInt.toNat, by omega, by omega, of_toInt (by omega)⟩
theorem Zb.of {μ μ2 : St} (h : Zb μ) (e : μ2.1 44 = μ.1 44) : Zb μ2 := fun l hl => by rw [e]; exact h l hl
theorem tk0 {σ μ : St} (h : Rd 0 0 σ μ) (c : Int32) : TK 0 σ μ c := by
  obtain ⟨hg, h⟩ := h
  have hz : σ.1 5 0 3 = 0 ∧ Zb μ := by
    rcases h with ⟨-, -, a, b⟩ | ⟨a, -⟩ | ⟨a, -⟩ | ⟨a, -⟩ | ⟨a, -⟩ | ⟨_, _, _, _, _, _, _, _, _, a, -⟩
    · exact ⟨a, b⟩
    all_goals omega
  have hx : f_X5_takes σ (nI 0) c = if c - 48 = 2 ∨ c - 48 = 3 then some (si σ 5 0 1 (c - 48), 1) else some (si σ 5 0 1 (c - 48), 0) := by
    simp (decide := true) only [f_X5_takes, bnd, if_true, if_false, si_eq]
    by_cases q2 : c - 48 = 2
    · rw [if_pos q2, if_pos (Or.inl q2)]
    · by_cases q3 : c - 48 = 3
      · rw [if_neg q2, if_pos q3, if_pos (Or.inr q3)]
      · rw [if_neg q2, if_neg q3, if_neg (fun z => z.elim q2 q3)]
  by_cases q : c - 48 = 2 ∨ c - 48 = 3
  · have hm : f_X12_takes μ c = some (si (si μ 0 0 40 (c - 48)) 0 0 39 1, 1) := by
      simp (decide := true) only [f_X12_takes, hg, bnd, if_true, if_false, w23, if_pos q, Option.bind_some, goes1, chkz1, chkT]
    rw [if_pos q] at hx
    refine ⟨_, _, 1, hx, hm, KX.s5 (by decide), (KM.s0 (by decide)).tr (KM.s0 (by decide)), Or.inr rfl, fun _ => ⟨1, si_eq, Or.inr (Or.inl ⟨Or.inl ⟨rfl, rfl⟩, by rw [si_j (by decide)]; exact hz.1, hz.2.of (by rw [si_k (by decide), si_k (by decide)]), ?_⟩)⟩⟩
    rcases q with q | q
    · exact ⟨2, Or.inl rfl, by rw [si_eq, q]; rfl, by rw [si_j (by decide), si_eq, q]; rfl⟩
    · exact ⟨3, Or.inr rfl, by rw [si_eq, q]; rfl, by rw [si_j (by decide), si_eq, q]; rfl⟩
  · have hm : f_X12_takes μ c = some (si (si μ 0 0 40 (c - 48)) 0 0 39 ((si μ 0 0 40 (c - 48)).1 0 0 39), 0) := by
      simp (decide := true) only [f_X12_takes, hg, bnd, if_true, if_false, w23, if_neg q, Option.bind_some, goes0, chkz0, chkT]
    rw [if_neg q] at hx
    exact ⟨_, _, 0, hx, hm, KX.s5 (by decide), (KM.s0 (by decide)).tr (KM.s0 (by decide)), Or.inl rfl, fun z => absurd z (by decide)⟩
theorem tk1 {σ μ : St} (h : Rd 1 1 σ μ) (c : Int32) : TK 1 σ μ c := by
  obtain ⟨hg, h⟩ := h
  obtain ⟨z3, zb, W, hW, e1, e2⟩ : σ.1 5 0 3 = 0 ∧ Zb μ ∧ ∃ W, W2 W ∧ σ.1 5 0 1 = nI W ∧ μ.1 0 0 40 = nI W := by
    rcases h with ⟨a, -⟩ | ⟨-, h⟩ | ⟨a, -⟩ | ⟨a, -⟩ | ⟨a, -⟩ | ⟨_, _, _, _, _, _, _, _, _, a, -⟩
    · omega
    · exact h
    all_goals omega
  by_cases q : c = 120
  · have hx : f_X5_takes σ (nI 1) c = some (σ, 1) := by simp (decide := true) only [f_X5_takes, if_true, if_false, if_pos q]
    have hm : f_X12_takes μ c = some (si μ 0 0 39 2, 1) := by
      simp (decide := true) only [f_X12_takes, hg, if_true, if_false, if_pos q, Option.bind_some, goes1, chkz1, chkT]
    exact ⟨_, _, 1, hx, hm, KX.refl σ, KM.s0 (by decide), Or.inr rfl, fun _ => ⟨2, si_eq, Or.inr (Or.inl ⟨Or.inr ⟨rfl, rfl⟩, z3, zb.of (by rw [si_k (by decide)]), W, hW, e1, by rw [si_j (by decide)]; exact e2⟩)⟩⟩
  · have hx : f_X5_takes σ (nI 1) c = some (σ, 0) := by simp (decide := true) only [f_X5_takes, if_true, if_false, if_neg q]
    have hm : f_X12_takes μ c = some (si μ 0 0 39 (μ.1 0 0 39), 0) := by
      simp (decide := true) only [f_X12_takes, hg, if_true, if_false, if_neg q, Option.bind_some, goes0, chkz0, chkT]
    exact ⟨_, _, 0, hx, hm, KX.refl σ, KM.s0 (by decide), Or.inl rfl, fun z => absurd z (by decide)⟩
theorem tk2 {σ μ : St} (h : Rd 2 2 σ μ) (c : Int32) : TK 2 σ μ c := by
  obtain ⟨hg, h⟩ := h
  obtain ⟨z3, zb, W, hW, e1, e2⟩ : σ.1 5 0 3 = 0 ∧ Zb μ ∧ ∃ W, W2 W ∧ σ.1 5 0 1 = nI W ∧ μ.1 0 0 40 = nI W := by
    rcases h with ⟨a, -⟩ | ⟨-, h⟩ | ⟨a, -⟩ | ⟨a, -⟩ | ⟨a, -⟩ | ⟨_, _, _, _, _, _, _, _, _, a, -⟩
    · omega
    · exact h
    all_goals omega
  have hx : f_X5_takes σ (nI 2) c = if c - 48 = 2 ∨ c - 48 = 3 then some (si σ 5 0 2 (c - 48), 1) else some (si σ 5 0 2 (c - 48), 0) := by
    simp (decide := true) only [f_X5_takes, bnd, if_true, if_false, si_eq]
    by_cases q2 : c - 48 = 2
    · rw [if_pos q2, if_pos (Or.inl q2)]
    · by_cases q3 : c - 48 = 3
      · rw [if_neg q2, if_pos q3, if_pos (Or.inr q3)]
      · rw [if_neg q2, if_neg q3, if_neg (fun z => z.elim q2 q3)]
  by_cases q : c - 48 = 2 ∨ c - 48 = 3
  · have hm : f_X12_takes μ c = some (si (si μ 0 0 41 (c - 48)) 0 0 39 3, 1) := by
      simp (decide := true) only [f_X12_takes, hg, bnd, if_true, if_false, w23, if_pos q, Option.bind_some, goes1, chkz1, chkT]
    rw [if_pos q] at hx
    obtain ⟨H, hH, eH⟩ : ∃ H, W2 H ∧ c - 48 = nI H := by
      rcases q with q | q
      · exact ⟨2, Or.inl rfl, q⟩
      · exact ⟨3, Or.inr rfl, q⟩
    exact ⟨_, _, 1, hx, hm, KX.s5 (by decide), (KM.s0 (by decide)).tr (KM.s0 (by decide)), Or.inr rfl, fun _ => ⟨3, si_eq, Or.inr (Or.inr (Or.inl ⟨rfl, rfl, by rw [si_j (by decide)]; exact z3, zb.of (by rw [si_k (by decide), si_k (by decide)]), W, H, hW, hH, by rw [si_j (by decide)]; exact e1, by rw [si_eq]; exact eH, by rw [si_j (by decide), si_j (by decide)]; exact e2, by rw [si_j (by decide), si_eq]; exact eH⟩))⟩⟩
  · have hm : f_X12_takes μ c = some (si (si μ 0 0 41 (c - 48)) 0 0 39 ((si μ 0 0 41 (c - 48)).1 0 0 39), 0) := by
      simp (decide := true) only [f_X12_takes, hg, bnd, if_true, if_false, w23, if_neg q, Option.bind_some, goes0, chkz0, chkT]
    rw [if_neg q] at hx
    exact ⟨_, _, 0, hx, hm, KX.s5 (by decide), (KM.s0 (by decide)).tr (KM.s0 (by decide)), Or.inl rfl, fun z => absurd z (by decide)⟩
theorem lay_eq {σ : St} {W H : Nat} (hW : W2 W) (hH : W2 H) (e1 : σ.1 5 0 1 = nI W) (e2 : σ.1 5 0 2 = nI H) : ∃ σ2, f_X5_layGrid σ = some σ2 ∧ KX σ σ2 ∧ σ2.1 5 = σ.1 5 ∧ σ2.1 4 0 0 = nI W ∧ σ2.1 4 0 1 = nI H ∧ (∀ l, l < 54 → σ2.1 11 0 l = endV W H l) ∧ ∀ l, l < 54 → σ2.1 13 0 l = bz (inN W H l) := by
  obtain ⟨s, hs, ⟨g1, g2, g3⟩, g4, g5, g6⟩ := gset_eq (σ := σ) (i := 0) hW hH
  unfold f_X5_layGrid
  rw [e1, e2, hs, Option.bind_some]
  refine loopP (fun n σ v => f_X5_layGrid_L17 n σ v) (fun r => ∃ σ2, r = some σ2 ∧ KX σ σ2 ∧ σ2.1 5 = σ.1 5 ∧ σ2.1 4 0 0 = nI W ∧ σ2.1 4 0 1 = nI H ∧ (∀ l, l < 54 → σ2.1 11 0 l = endV W H l) ∧ ∀ l, l < 54 → σ2.1 13 0 l = bz (inN W H l)) 54 (fun t s => KX σ s ∧ s.1 5 = σ.1 5 ∧ s.1 4 0 0 = nI W ∧ s.1 4 0 1 = nI H ∧ (∀ l, l < 54 → s.1 11 0 l = endV W H l) ∧ ∀ l, l < t → s.1 13 0 l = bz (inN W H l)) ?_ ?_ 54 0 FU s (by omega) (FU_lt (by omega)) ?_
  · rintro n t s ht ⟨k1, k2, k3, k4, k5, k6⟩ ih
    show ∃ σ2, f_X5_layGrid_L17b (f_X5_layGrid_L17 n) s (nI t) = some σ2 ∧ _
    have i1 : inb (nI t) 54 := inbL ht (by decide)
    have c1 : Int32.toNatClampNeg (nI t) = t := clL (by omega)
    have l1 : nI t < 54 := ltL 54 54 rfl ht (by decide)
    unfold f_X5_layGrid_L17b chk bnd
    rw [if_pos l1, hasInner_eq (k5 t ht) ht, Option.bind_some, if_pos i1, c1, bz_and, nI_1]
    refine ih _ ⟨k1.tr KX.s13, by rw [si_k (by decide)]; exact k2, by rw [si_k (by decide)]; exact k3, by rw [si_k (by decide)]; exact k4, fun l hl => by rw [si_k (by decide)]; exact k5 l hl, fun l hl => ?_⟩
    by_cases q : l = t
    · subst q
      rw [si_eq]
    · rw [si_j q]
      exact k6 l (by omega)
  · rintro n s ⟨k1, k2, k3, k4, k5, k6⟩
    exact ⟨s, rfl, k1, k2, k3, k4, k5, k6⟩
  · exact ⟨⟨g1, fun a a1 a2 a3 a4 => g2 a a1 a3, (g3 1 (by decide)).1, (g3 1 (by decide)).2, by rw [g2 5 (by decide) (by decide)]⟩, g2 5 (by decide) (by decide), g4, g5, g6, fun l hl => absurd hl (Nat.not_lt_zero l)⟩
theorem tk3 {σ μ : St} (h : Rd 3 3 σ μ) (c : Int32) : TK 3 σ μ c := by
  obtain ⟨hg, h⟩ := h
  obtain ⟨z3, zb, W, H, hW, hH, e1, e2, e3, e4⟩ : σ.1 5 0 3 = 0 ∧ Zb μ ∧ ∃ W H, W2 W ∧ W2 H ∧ σ.1 5 0 1 = nI W ∧ σ.1 5 0 2 = nI H ∧ μ.1 0 0 40 = nI W ∧ μ.1 0 0 41 = nI H := by
    rcases h with ⟨a, -⟩ | ⟨a, -⟩ | ⟨-, -, h⟩ | ⟨a, -⟩ | ⟨a, -⟩ | ⟨_, _, _, _, _, _, _, _, _, a, -⟩
    · omega
    · omega
    · exact h
    all_goals omega
  obtain ⟨σ2, hl, k1, k2, k3, k4, k5, k6⟩ := lay_eq hW hH e1 e2
  by_cases q : c = 58
  · have hx : f_X5_takes σ (nI 3) c = some (σ2, 1) := by simp (decide := true) only [f_X5_takes, if_true, if_false, hl, Option.bind_some, if_pos q]
    have hm : f_X12_takes μ c = some (si μ 0 0 39 4, 1) := by
      simp (decide := true) only [f_X12_takes, hg, if_true, if_false, if_pos q, Option.bind_some, goes1, chkz1, chkT]
    refine ⟨_, _, 1, hx, hm, k1, KM.s0 (by decide), Or.inr rfl, fun _ => ⟨4, si_eq, Or.inr (Or.inr (Or.inr (Or.inl ⟨rfl, rfl, by rw [k2]; exact z3, W, H, hW, hH, by rw [k2]; exact e1, by rw [k2]; exact e2, k3, k4, by rw [si_j (by decide)]; exact e3, by rw [si_j (by decide)]; exact e4, fun l hl2 => ?_⟩)))⟩⟩
    have e44 : (si μ 0 0 39 4).1 44 0 l = 0 := by rw [si_k (by decide)]; exact zb l hl2
    rw [e44]
    exact ⟨k5 l hl2, Or.inl rfl, by rw [k6 l hl2, decide_eq_true rfl, Bool.and_true], fun z => absurd rfl z⟩
  · have hx : f_X5_takes σ (nI 3) c = some (σ2, 0) := by simp (decide := true) only [f_X5_takes, if_true, if_false, hl, Option.bind_some, if_neg q]
    have hm : f_X12_takes μ c = some (si μ 0 0 39 (μ.1 0 0 39), 0) := by
      simp (decide := true) only [f_X12_takes, hg, if_true, if_false, if_neg q, Option.bind_some, goes0, chkz0, chkT]
    exact ⟨_, _, 0, hx, hm, k1, KM.s0 (by decide), Or.inl rfl, fun z => absurd z (by decide)⟩
theorem GR.cg {W H : Nat} {σ μ σ2 μ2 : St} (h : GR W H σ μ) (a1 : σ2.1 5 0 1 = σ.1 5 0 1) (a2 : σ2.1 5 0 2 = σ.1 5 0 2) (a3 : σ2.1 4 0 = σ.1 4 0) (a4 : σ2.1 11 0 = σ.1 11 0) (a5 : σ2.1 13 0 = σ.1 13 0) (b1 : μ2.1 0 0 40 = μ.1 0 0 40) (b2 : μ2.1 0 0 41 = μ.1 0 0 41) (b3 : μ2.1 44 0 = μ.1 44 0) : GR W H σ2 μ2 := by
  unfold GR at h ⊢
  rw [a1, a2, a3, a4, a5, b1, b2, b3]
  exact h
theorem tk4 {σ μ : St} (h : Rd 4 4 σ μ) (c : Int32) : TK 4 σ μ c := by
  obtain ⟨hg, h⟩ := h
  obtain ⟨z3, W, H, hG⟩ : σ.1 5 0 3 = 0 ∧ ∃ W H, GR W H σ μ := by
    rcases h with ⟨a, -⟩ | ⟨a, -⟩ | ⟨a, -⟩ | ⟨-, -, h⟩ | ⟨a, -⟩ | ⟨_, _, _, _, _, _, _, _, _, a, -⟩
    · omega
    · omega
    · omega
    · exact h
    all_goals omega
  by_cases q : c - 48 = 1
  · have hx : f_X5_takes σ (nI 4) c = some (si σ 5 0 3 (c - 48), 1) := by simp (decide := true) only [f_X5_takes, bnd, if_true, if_false, si_eq, if_pos q]
    have hm : f_X12_takes μ c = some (si (si μ 0 0 42 10) 0 0 39 5, 1) := by
      simp (decide := true) only [f_X12_takes, hg, bnd, if_true, if_false, if_pos q, Option.bind_some, goes1, chkz1, chkT]
    refine ⟨_, _, 1, hx, hm, KX.s5 (by decide), (KM.s0 (by decide)).tr (KM.s0 (by decide)), Or.inr rfl, fun _ => ⟨5, si_eq, Or.inr (Or.inr (Or.inr (Or.inr (Or.inl ⟨rfl, rfl, by rw [si_eq]; exact q, by rw [si_j (by decide), si_eq], W, H, hG.cg (si_j (by decide)) (si_j (by decide)) (si_k' (by decide)) (si_k' (by decide)) (si_k' (by decide)) ?_ ?_ ?_⟩))))⟩⟩
    · rw [si_j (by decide), si_j (by decide)]
    · rw [si_j (by decide), si_j (by decide)]
    · rw [si_k (by decide), si_k (by decide)]
  · by_cases z : 4 ≤ c - 48 ∧ c - 48 ≤ 9
    · obtain ⟨S, s1, s2, eS⟩ := w49 _ z
      have hx : f_X5_takes σ (nI 4) c = some (si σ 5 0 3 (c - 48), 1) := by simp (decide := true) only [f_X5_takes, bnd, if_true, if_false, si_eq, if_neg q, if_pos z.1, if_pos z.2]
      have hm : f_X12_takes μ c = some (si (si μ 0 0 42 (c - 48)) 0 0 39 6, 1) := by
        simp (decide := true) only [f_X12_takes, hg, bnd, if_true, if_false, if_neg q, within_in z.1 z.2, Option.bind_some, goes1, chkz1, chkT]
      refine ⟨_, _, 1, hx, hm, KX.s5 (by decide), (KM.s0 (by decide)).tr (KM.s0 (by decide)), Or.inr rfl, fun _ => ⟨6, si_eq, Or.inr (Or.inr (Or.inr (Or.inr (Or.inr ⟨W, H, S, 0, hG.cg (si_j (by decide)) (si_j (by decide)) (si_k' (by decide)) (si_k' (by decide)) (si_k' (by decide)) ?_ ?_ ?_, s1, by omega, by rw [si_eq]; exact eS, by rw [si_j (by decide), si_eq]; exact eS, by omega, by omega, by rw [if_neg (by omega)], fun z => by omega⟩))))⟩⟩
      · rw [si_j (by decide), si_j (by decide)]
      · rw [si_j (by decide), si_j (by decide)]
      · rw [si_k (by decide), si_k (by decide)]
    · have hx : f_X5_takes σ (nI 4) c = some (si σ 5 0 3 (c - 48), 0) := by
        simp (decide := true) only [f_X5_takes, bnd, if_true, if_false, si_eq, if_neg q]
        by_cases z4 : 4 ≤ c - 48
        · rw [if_pos z4, if_neg (fun y => z ⟨z4, y⟩)]
        · rw [if_neg z4]
      have hm : f_X12_takes μ c = some (si (si μ 0 0 42 (c - 48)) 0 0 39 ((si μ 0 0 42 (c - 48)).1 0 0 39), 0) := by
        simp (decide := true) only [f_X12_takes, hg, bnd, if_true, if_false, if_neg q, within_out z, Option.bind_some, goes0, chkz0, chkT]
      exact ⟨_, _, 0, hx, hm, KX.s5 (by decide), (KM.s0 (by decide)).tr (KM.s0 (by decide)), Or.inl rfl, fun z => absurd z (by decide)⟩
theorem tk5 {σ μ : St} (h : Rd 5 5 σ μ) (c : Int32) : TK 5 σ μ c := by
  obtain ⟨hg, h⟩ := h
  obtain ⟨z3, z42, W, H, hG⟩ : σ.1 5 0 3 = 1 ∧ μ.1 0 0 42 = 10 ∧ ∃ W H, GR W H σ μ := by
    rcases h with ⟨a, -⟩ | ⟨a, -⟩ | ⟨a, -⟩ | ⟨a, -⟩ | ⟨-, -, h⟩ | ⟨_, _, _, _, _, _, _, _, _, a, -⟩
    · omega
    · omega
    · omega
    · omega
    · exact h
    all_goals omega
  have e0 : c - 48 = 0 ↔ c = 48 := by
    constructor
    · intro y
      have : c - 48 + 48 = 0 + 48 := by rw [y]
      rw [Int32.sub_add_cancel] at this
      exact this
    · intro y; rw [y]; decide
  by_cases q : c = 48
  · have hx : f_X5_takes σ (nI 5) c = some (si σ 5 0 3 10, 1) := by simp (decide := true) only [f_X5_takes, f_X5_takesZero, bnd, if_true, if_false, z3, if_pos q, Option.bind_some, chkz1, chkT]
    have hm : f_X12_takes μ c = some (si μ 0 0 39 6, 1) := by
      simp (decide := true) only [f_X12_takes, hg, if_true, if_false, if_pos (e0.mpr q), Option.bind_some, goes1, chkz1, chkT]
    refine ⟨_, _, 1, hx, hm, KX.s5 (by decide), KM.s0 (by decide), Or.inr rfl, fun _ => ⟨6, si_eq, Or.inr (Or.inr (Or.inr (Or.inr (Or.inr ⟨W, H, 10, 0, hG.cg (si_j (by decide)) (si_j (by decide)) (si_k' (by decide)) (si_k' (by decide)) (si_k' (by decide)) (si_j (by decide)) (si_j (by decide)) (si_k' (by decide)), by omega, by omega, by rw [si_eq]; rfl, by rw [si_j (by decide)]; exact z42, by omega, by omega, by rw [if_pos rfl], fun z => by omega⟩))))⟩⟩
  · have hx : f_X5_takes σ (nI 5) c = some (σ, 0) := by simp (decide := true) only [f_X5_takes, f_X5_takesZero, bnd, if_true, if_false, z3, if_neg q, Option.bind_some, chkz0, chkT]
    have hm : f_X12_takes μ c = some (si μ 0 0 39 (μ.1 0 0 39), 0) := by
      simp (decide := true) only [f_X12_takes, hg, if_true, if_false, if_neg (fun y => q (e0.mp y)), Option.bind_some, goes0, chkz0, chkT]
    exact ⟨_, _, 0, hx, hm, KX.refl σ, KM.s0 (by decide), Or.inl rfl, fun z => absurd z (by decide)⟩
