/-! chip -/
theorem names_eq {W H : Nat} {σ μ : St} {l : Nat} (hl : l < 54) (e : σ.1 11 0 l = endV W H l) (z : isZ (μ.1 44 0 l)) (h13 : σ.1 13 0 l = bz (inN W H l && decide (μ.1 44 0 l = 0))) (h4 : μ.1 44 0 l ≠ 0 → inN W H l = true) : f_X5_namesBroken σ (nI l) = some (μ.1 44 0 l) := by
  unfold f_X5_namesBroken chk
  rw [hasInner_eq e hl, Option.bind_some, isLN hl, Option.bind_some, if_pos (inbL hl (by decide)), clL (by omega), h13]
  rcases z with z | z
  · rw [z]
    cases inN W H l <;> rfl
  · rw [h4 (by rw [z]; decide), z]
    rfl
def XB (σ : St) (μ : St) (σ2 : St) : Prop := σ2.2 = σ.2 ∧ (∀ a, a ≠ 14 → a ≠ 15 → a ≠ 16 → σ2.1 a = σ.1 a) ∧ (∀ l, l < 54 → σ2.1 14 0 l = μ.1 44 0 l ∧ σ2.1 15 0 l = 0)
theorem set_own {σ μ s : St} (hs : XB σ μ s) (fu : Nat) (hf : 540 < fu) : ∃ σ2, f_X1_set_L62 fu s (nI 0) = some σ2 ∧ XB σ μ σ2 ∧ ∀ j, j < 540 → σ2.1 16 0 j = -1 := by
  refine loopP (fun n s v => f_X1_set_L62 n s v) (fun r => ∃ σ2, r = some σ2 ∧ XB σ μ σ2 ∧ ∀ j, j < 540 → σ2.1 16 0 j = -1) 540 (fun t s => XB σ μ s ∧ ∀ j, j < t → s.1 16 0 j = -1) ?_ ?_ 540 0 fu s (by omega) (by omega) ⟨hs, fun j hj => absurd hj (Nat.not_lt_zero j)⟩
  · rintro n t s ht ⟨⟨k1, k2, k3⟩, k4⟩ ih
    show ∃ σ2, f_X1_set_L62b (f_X1_set_L62 n) s (nI t) = some σ2 ∧ _
    unfold f_X1_set_L62b chk bnd
    rw [if_pos (ltL 540 540 rfl ht (by decide)), if_pos (inbL ht (by decide)), clL (by omega), nI_1]
    refine ih _ ⟨⟨k1, fun a a1 a2 a3 => (si_k a3).trans (k2 a a1 a2 a3), fun l hl => by rw [si_k (show 14 ≠ 16 by decide), si_k (show 15 ≠ 16 by decide)]; exact k3 l hl⟩, fun j hj => ?_⟩
    by_cases q : j = t
    · subst q; exact si_eq
    · rw [si_j q]; exact k4 j (by omega)
  · rintro n s ⟨k1, k4⟩
    exact ⟨s, rfl, k1, k4⟩
theorem set_brk {W H : Nat} {σ μ : St} (hG : ∀ l, l < 54 → σ.1 11 0 l = endV W H l ∧ isZ (μ.1 44 0 l) ∧ σ.1 13 0 l = bz (inN W H l && decide (μ.1 44 0 l = 0)) ∧ (μ.1 44 0 l ≠ 0 → inN W H l = true)) (fu : Nat) (hf : 540 < fu) : ∃ σ2, f_X1_set_L30 fu σ (nI 0) = some σ2 ∧ XB σ μ σ2 ∧ ∀ j, j < 540 → σ2.1 16 0 j = -1 := by
  refine loopP (fun n s v => f_X1_set_L30 n s v) (fun r => ∃ σ2, r = some σ2 ∧ XB σ μ σ2 ∧ ∀ j, j < 540 → σ2.1 16 0 j = -1) 54 (fun t s => s.2 = σ.2 ∧ (∀ a, a ≠ 14 → a ≠ 15 → a ≠ 16 → s.1 a = σ.1 a) ∧ (∀ l, l < t → s.1 14 0 l = μ.1 44 0 l ∧ s.1 15 0 l = 0)) ?_ ?_ 54 0 fu σ (by omega) (by omega) ⟨rfl, fun _ _ _ _ => rfl, fun j hj => absurd hj (Nat.not_lt_zero j)⟩
  · rintro n t s ht ⟨k1, k2, k3⟩ ih
    show ∃ σ2, f_X1_set_L30b (f_X1_set_L30 n) s (nI t) = some σ2 ∧ _
    obtain ⟨g1, g2, g3, g4⟩ := hG t ht
    have nb := names_eq (σ := s) (μ := μ) (W := W) (H := H) ht (by rw [k2 11 (by decide) (by decide) (by decide)]; exact g1) g2 (by rw [k2 13 (by decide) (by decide) (by decide)]; exact g3) g4
    have z1 : μ.1 44 0 t &&& 1 = μ.1 44 0 t := by rcases g2 with z | z <;> rw [z] <;> decide
    unfold f_X1_set_L30b chk bnd
    dsimp only
    rw [if_pos (ltL 54 54 rfl ht (by decide)), nb, Option.bind_some, if_pos (inbL ht (by decide)), clL (by omega), nI_1, z1]
    rw [if_pos (inbL ht (by decide))]
    refine ih _ ⟨k1, fun a a1 a2 a3 => (si_k a2).trans ((si_k a1).trans (k2 a a1 a2 a3)), fun l hl => ?_⟩
    by_cases q : l = t
    · subst q
      exact ⟨by rw [si_k (show 14 ≠ 15 by decide), si_eq], si_eq⟩
    · rw [si_k (show 14 ≠ 15 by decide), si_j q, si_j q, si_k (show 15 ≠ 14 by decide)]
      exact k3 l (by omega)
  · rintro n s ⟨k1, k2, k3⟩
    show ∃ σ2, f_X1_set_L30b (f_X1_set_L30 n) s (nI 54) = some σ2 ∧ _
    unfold f_X1_set_L30b
    rw [if_neg (by decide)]
    exact set_own ⟨k1, k2, k3⟩ FU (FU_lt (by omega))
theorem clr_c {σ : St} (fu : Nat) (hf : 8 < fu) : ∃ σ2, f_X3_clear_L2 fu σ (nI 0) = some σ2 ∧ σ2.2 = σ.2 ∧ (∀ a, a ≠ 2 → σ2.1 a = σ.1 a) ∧ (∀ c j, j ≠ 1 → σ2.1 2 c j = σ.1 2 c j) ∧ ∀ c, c < 8 → σ2.1 2 c 1 = 0 := by
  refine loopP (fun n s v => f_X3_clear_L2 n s v) (fun r => ∃ σ2, r = some σ2 ∧ σ2.2 = σ.2 ∧ (∀ a, a ≠ 2 → σ2.1 a = σ.1 a) ∧ (∀ c j, j ≠ 1 → σ2.1 2 c j = σ.1 2 c j) ∧ ∀ c, c < 8 → σ2.1 2 c 1 = 0) 8 (fun t s => s.2 = σ.2 ∧ (∀ a, a ≠ 2 → s.1 a = σ.1 a) ∧ (∀ c j, j ≠ 1 → s.1 2 c j = σ.1 2 c j) ∧ ∀ c, c < t → s.1 2 c 1 = 0) ?_ ?_ 8 0 fu σ (by omega) (by omega) ⟨rfl, fun _ _ => rfl, fun _ _ _ => rfl, fun j hj => absurd hj (Nat.not_lt_zero j)⟩
  · rintro n t s ht ⟨k1, k2, k3, k4⟩ ih
    show ∃ σ2, f_X3_clear_L2b (f_X3_clear_L2 n) s (nI t) = some σ2 ∧ _
    unfold f_X3_clear_L2b chk bnd
    rw [if_pos (ltL 8 8 rfl ht (by decide)), if_pos (inbL ht (by decide)), clL (by omega), nI_1]
    refine ih _ ⟨k1, fun a a1 => (si_k a1).trans (k2 a a1), fun c j hj => (si_j hj).trans (k3 c j hj), fun c hc => ?_⟩
    by_cases q : c = t
    · subst q; exact si_eq
    · rw [si_i q]; exact k4 c (by omega)
  · rintro n s h
    exact ⟨s, rfl, h⟩
/-- what the reference's chip leaves -/
def MC (μ s : St) : Prop := (∀ a, a ≠ 0 → a ≠ 5 → a ≠ 6 → a ≠ 9 → a ≠ 36 → a ≠ 37 → a ≠ 38 → s.1 a = μ.1 a) ∧ (∀ j, s.1 0 0 j = μ.1 0 0 j)
theorem mc_118 {μ s : St} (h : MC μ s) (h5 : ∀ l, l < 54 → s.1 5 0 l = μ.1 44 0 l ∧ s.1 6 0 l = 0) (h9 : ∀ c, c < 8 → s.1 9 0 c = 0) (fu : Nat) (hf : 2 < fu) {W H : Nat} (eW : μ.1 0 0 0 = nI W) (eH : μ.1 0 0 1 = nI H) : ∃ s2 : St, f_X12_chip_L118 fu s (nI 0) = some (si (si s2 0 0 4 (μ.1 0 0 4 + 1)) 0 0 7 0, nI (W * H)) ∧ MC μ s2 ∧ (∀ l, l < 54 → s2.1 5 0 l = μ.1 44 0 l ∧ s2.1 6 0 l = 0) ∧ (∀ c, c < 8 → s2.1 9 0 c = 0) ∧ ∀ c, c < 2 → s2.1 36 0 c = 0 ∧ s2.1 37 0 c = 0 ∧ s2.1 38 0 c = 0 := by
  refine loopP (fun n s v => f_X12_chip_L118 n s v) (fun r => ∃ s2 : St, r = some (si (si s2 0 0 4 (μ.1 0 0 4 + 1)) 0 0 7 0, nI (W * H)) ∧ MC μ s2 ∧ (∀ l, l < 54 → s2.1 5 0 l = μ.1 44 0 l ∧ s2.1 6 0 l = 0) ∧ (∀ c, c < 8 → s2.1 9 0 c = 0) ∧ ∀ c, c < 2 → s2.1 36 0 c = 0 ∧ s2.1 37 0 c = 0 ∧ s2.1 38 0 c = 0) 2 (fun t s => MC μ s ∧ (∀ l, l < 54 → s.1 5 0 l = μ.1 44 0 l ∧ s.1 6 0 l = 0) ∧ (∀ c, c < 8 → s.1 9 0 c = 0) ∧ ∀ c, c < t → s.1 36 0 c = 0 ∧ s.1 37 0 c = 0 ∧ s.1 38 0 c = 0) ?_ ?_ 2 0 fu s (by omega) (by omega) ⟨h, h5, h9, fun j hj => absurd hj (Nat.not_lt_zero j)⟩
  · rintro n t s ht ⟨⟨k1, k2⟩, k3, k4, k5⟩ ih
    show ∃ s2 : St, f_X12_chip_L118b (f_X12_chip_L118 n) s (nI t) = _ ∧ _
    unfold f_X12_chip_L118b chk bnd
    dsimp only
    rw [if_pos (ltL 2 2 rfl ht (by decide)), if_pos (inbL ht (by decide)), if_pos (inbL ht (by decide)), if_pos (inbL ht (by decide)), clL (by omega), nI_1]
    have xa : ∀ a, a ≠ 36 → a ≠ 37 → a ≠ 38 → (si (si (si s 36 0 t 0) 37 0 t 0) 38 0 t 0).1 a = s.1 a := fun a a1 a2 a3 => by rw [si_k a3, si_k a2, si_k a1]
    refine ih _ ⟨⟨fun a b0 b1 b2 b3 b4 b5 b6 => (xa a b4 b5 b6).trans (k1 a b0 b1 b2 b3 b4 b5 b6), fun j => by rw [xa 0 (by decide) (by decide) (by decide)]; exact k2 j⟩, fun l hl => by rw [xa 5 (by decide) (by decide) (by decide), xa 6 (by decide) (by decide) (by decide)]; exact k3 l hl, fun c hc => by rw [xa 9 (by decide) (by decide) (by decide)]; exact k4 c hc, fun c hc => ?_⟩
    by_cases q : c = t
    · subst q
      exact ⟨by rw [si_k (show 36 ≠ 38 by decide), si_k (show 36 ≠ 37 by decide), si_eq], by rw [si_k (show 37 ≠ 38 by decide), si_eq], si_eq⟩
    · rw [si_j q, si_j q, si_j q, si_j q, si_j q, si_j q, si_j q, si_j q, si_j q]
      exact k5 c (by omega)
  · rintro n s ⟨k1, k3, k4, k5⟩
    show ∃ s2 : St, f_X12_chip_L118b (f_X12_chip_L118 n) s (nI 2) = _ ∧ _
    refine ⟨s, ?_, k1, k3, k4, k5⟩
    unfold f_X12_chip_L118b bnd f_X12_routers
    rw [if_neg (by decide), k1.2 4]
    show some (_, (si (si s 0 0 4 (μ.1 0 0 4 + 1)) 0 0 7 0).1 0 0 0 * (si (si s 0 0 4 (μ.1 0 0 4 + 1)) 0 0 7 0).1 0 0 1) = _
    rw [si_j (show 0 ≠ 7 by decide), si_j (show 0 ≠ 4 by decide), si_j (show 1 ≠ 7 by decide), si_j (show 1 ≠ 4 by decide), k1.2 0, k1.2 1, eW, eH, nI_mul]
theorem mc_97 {μ s : St} (h : MC μ s) (h5 : ∀ l, l < 54 → s.1 5 0 l = μ.1 44 0 l ∧ s.1 6 0 l = 0) (fu : Nat) (hf : 8 < fu) {W H : Nat} (eW : μ.1 0 0 0 = nI W) (eH : μ.1 0 0 1 = nI H) : ∃ s2 : St, f_X12_chip_L97 fu s (nI 0) = some (si (si s2 0 0 4 (μ.1 0 0 4 + 1)) 0 0 7 0, nI (W * H)) ∧ MC μ s2 ∧ (∀ l, l < 54 → s2.1 5 0 l = μ.1 44 0 l ∧ s2.1 6 0 l = 0) ∧ (∀ c, c < 8 → s2.1 9 0 c = 0) ∧ ∀ c, c < 2 → s2.1 36 0 c = 0 ∧ s2.1 37 0 c = 0 ∧ s2.1 38 0 c = 0 := by
  refine loopP (fun n s v => f_X12_chip_L97 n s v) (fun r => ∃ s2 : St, r = some (si (si s2 0 0 4 (μ.1 0 0 4 + 1)) 0 0 7 0, nI (W * H)) ∧ MC μ s2 ∧ (∀ l, l < 54 → s2.1 5 0 l = μ.1 44 0 l ∧ s2.1 6 0 l = 0) ∧ (∀ c, c < 8 → s2.1 9 0 c = 0) ∧ ∀ c, c < 2 → s2.1 36 0 c = 0 ∧ s2.1 37 0 c = 0 ∧ s2.1 38 0 c = 0) 8 (fun t s => MC μ s ∧ (∀ l, l < 54 → s.1 5 0 l = μ.1 44 0 l ∧ s.1 6 0 l = 0) ∧ (∀ c, c < t → s.1 9 0 c = 0)) ?_ ?_ 8 0 fu s (by omega) (by omega) ⟨h, h5, fun j hj => absurd hj (Nat.not_lt_zero j)⟩
  · rintro n t s ht ⟨⟨k1, k2⟩, k3, k4⟩ ih
    show ∃ s2 : St, f_X12_chip_L97b (f_X12_chip_L97 n) s (nI t) = _ ∧ _
    unfold f_X12_chip_L97b chk bnd
    rw [if_pos (ltL 8 8 rfl ht (by decide)), if_pos (inbL ht (by decide)), clL (by omega), nI_1]
    refine ih _ ⟨⟨fun a b0 b1 b2 b3 b4 b5 b6 => (si_k b3).trans (k1 a b0 b1 b2 b3 b4 b5 b6), fun j => by rw [si_k (by decide)]; exact k2 j⟩, fun l hl => by rw [si_k (show 5 ≠ 9 by decide), si_k (show 6 ≠ 9 by decide)]; exact k3 l hl, fun c hc => ?_⟩
    by_cases q : c = t
    · subst q; exact si_eq
    · rw [si_j q]; exact k4 c (by omega)
  · rintro n s ⟨k1, k3, k4⟩
    show ∃ s2 : St, f_X12_chip_L97b (f_X12_chip_L97 n) s (nI 8) = _ ∧ _
    unfold f_X12_chip_L97b
    rw [if_neg (by decide)]
    exact mc_118 k1 k3 k4 FU (FU_lt (by omega)) eW eH
theorem mc_64 {μ : St} (hz : ∀ l, l < 54 → isZ (μ.1 44 0 l)) (fu : Nat) (hf : 54 < fu) {W H : Nat} (eW : μ.1 0 0 0 = nI W) (eH : μ.1 0 0 1 = nI H) : ∃ s2 : St, f_X12_chip_L64 fu μ (nI 0) = some (si (si s2 0 0 4 (μ.1 0 0 4 + 1)) 0 0 7 0, nI (W * H)) ∧ MC μ s2 ∧ (∀ l, l < 54 → s2.1 5 0 l = μ.1 44 0 l ∧ s2.1 6 0 l = 0) ∧ (∀ c, c < 8 → s2.1 9 0 c = 0) ∧ ∀ c, c < 2 → s2.1 36 0 c = 0 ∧ s2.1 37 0 c = 0 ∧ s2.1 38 0 c = 0 := by
  refine loopP (fun n s v => f_X12_chip_L64 n s v) (fun r => ∃ s2 : St, r = some (si (si s2 0 0 4 (μ.1 0 0 4 + 1)) 0 0 7 0, nI (W * H)) ∧ MC μ s2 ∧ (∀ l, l < 54 → s2.1 5 0 l = μ.1 44 0 l ∧ s2.1 6 0 l = 0) ∧ (∀ c, c < 8 → s2.1 9 0 c = 0) ∧ ∀ c, c < 2 → s2.1 36 0 c = 0 ∧ s2.1 37 0 c = 0 ∧ s2.1 38 0 c = 0) 54 (fun t s => MC μ s ∧ (∀ l, l < t → s.1 5 0 l = μ.1 44 0 l ∧ s.1 6 0 l = 0)) ?_ ?_ 54 0 fu μ (by omega) (by omega) ⟨⟨fun _ _ _ _ _ _ _ _ => rfl, fun _ => rfl⟩, fun j hj => absurd hj (Nat.not_lt_zero j)⟩
  · rintro n t s ht ⟨⟨k1, k2⟩, k3⟩ ih
    show ∃ s2 : St, f_X12_chip_L64b (f_X12_chip_L64 n) s (nI t) = _ ∧ _
    have z1 : μ.1 44 0 t &&& 1 = μ.1 44 0 t := by rcases hz t ht with z | z <;> rw [z] <;> decide
    unfold f_X12_chip_L64b chk bnd
    dsimp only
    rw [if_pos (ltL 54 54 rfl ht (by decide)), if_pos (inbL ht (by decide)), if_pos (inbL ht (by decide)), if_pos (inbL ht (by decide)), clL (by omega), nI_1, k1 44 (by decide) (by decide) (by decide) (by decide) (by decide) (by decide) (by decide), z1]
    refine ih _ ⟨⟨fun a b0 b1 b2 b3 b4 b5 b6 => (si_k b2).trans ((si_k b1).trans (k1 a b0 b1 b2 b3 b4 b5 b6)), fun j => by rw [si_k (by decide), si_k (by decide)]; exact k2 j⟩, fun l hl => ?_⟩
    by_cases q : l = t
    · subst q
      exact ⟨by rw [si_k (show 5 ≠ 6 by decide), si_eq], si_eq⟩
    · rw [si_k (show 5 ≠ 6 by decide), si_j q, si_j q, si_k (show 6 ≠ 5 by decide)]
      exact k3 l (by omega)
  · rintro n s ⟨k1, k3⟩
    show ∃ s2 : St, f_X12_chip_L64b (f_X12_chip_L64 n) s (nI 54) = _ ∧ _
    unfold f_X12_chip_L64b
    rw [if_neg (by decide)]
    exact mc_97 k1 k3 FU (FU_lt (by omega)) eW eH
