/-! the relation of the two states -/
/-- where a link leads: -2 there is none, -1 outside -/
def endV (W H l : Nat) : Int32 :=
  if W * H ≤ l / 6 then -2
  else if l % 6 = 0 then nI (l / 6)
  else if l % 6 = 1 then -1
  else if l % 6 = 2 then (if 0 < l / 6 / W then nI (l / 6 - W) else -2)
  else if l % 6 = 3 then (if l / 6 % W + 1 < W then nI (l / 6 + 1) else -2)
  else if l % 6 = 4 then (if l / 6 / W + 1 < H then nI (l / 6 + W) else -2)
  else (if 0 < l / 6 % W then nI (l / 6 - 1) else -2)
def okWHS (W H S : Nat) : Prop := (W = 0 ∧ H = 0 ∧ S = 0) ∨ ((W = 2 ∨ W = 3) ∧ (H = 2 ∨ H = 3) ∧ 4 ≤ S ∧ S ≤ 10)
def live (μ : St) (c : Nat) : Prop := μ.1 9 0 c = 1
def nN (x : Int32) : Nat := x.toNatClampNeg
def hpN (μ : St) (c : Nat) : Nat := nN (μ.1 15 0 c)
def stN (μ : St) (c : Nat) : Nat := nN (μ.1 17 0 c)
/-- circuit c has slot s of link l -/
def hasS (μ : St) (S c l s : Nat) : Prop := ∃ p t, p < hpN μ c + 2 ∧ t < S ∧ (stN μ c).testBit t = true ∧ (t + p) % S = s ∧ μ.1 16 0 (8 * c + p) = nI l
/-- the page -/
def RPg (σ μ : St) : Prop := bd (σ.1 5 0 0) 0 30 ∧ μ.1 0 0 7 = σ.1 5 0 0 ∧ ∀ j, j < nN (σ.1 5 0 0) → σ.1 12 0 j = μ.1 8 0 j ∧ bd (μ.1 8 0 j) 32 126
/-- the chip, its links, the time -/
def RGr (W H S T : Nat) (σ μ : St) : Prop :=
  σ.1 4 1 0 = nI W ∧ σ.1 4 1 1 = nI H ∧ σ.1 1 0 1 = nI S ∧ σ.1 1 0 2 = nI T ∧ μ.1 0 0 0 = nI W ∧ μ.1 0 0 1 = nI H ∧ μ.1 0 0 2 = nI S ∧ μ.1 0 0 3 = nI T ∧
  (∀ l, l < 54 → σ.1 11 1 l = endV W H l) ∧ (∀ l, l < 54 → σ.1 14 0 l = μ.1 5 0 l ∧ isZ (μ.1 5 0 l)) ∧
  (∀ l, l < 54 → σ.1 15 0 l = μ.1 6 0 l ∧ bd (μ.1 6 0 l) 0 (76 * T) ∧ (endV W H l = -2 → μ.1 6 0 l = 0))
/-- a live circuit, the same on both sides -/
def REq (σ μ : St) (c : Nat) : Prop :=
  σ.1 2 c 2 = μ.1 10 0 c ∧ σ.1 2 c 3 = μ.1 11 0 c ∧ σ.1 2 c 4 = μ.1 12 0 c ∧ σ.1 2 c 5 = μ.1 13 0 c ∧ σ.1 2 c 13 = μ.1 14 0 c ∧ σ.1 2 c 6 = μ.1 15 0 c ∧ σ.1 2 c 15 = μ.1 17 0 c ∧
  σ.1 2 c 8 = μ.1 18 0 c ∧ σ.1 2 c 11 = μ.1 19 0 c ∧ σ.1 2 c 9 = μ.1 20 0 c ∧ σ.1 2 c 10 = μ.1 21 0 c ∧ σ.1 2 c 12 = μ.1 22 0 c ∧ σ.1 2 c 7 = μ.1 23 0 c ∧ σ.1 2 c 14 = μ.1 24 0 c ∧
  (∀ p, p < hpN μ c + 2 → σ.1 17 c p = μ.1 16 0 (8 * c + p)) ∧ (∀ p, p < 8 → hpN μ c + 2 ≤ p → σ.1 18 c p = -1)
/-- what is so of a live circuit -/
def MOK (W H S T k : Nat) (μ : St) (c : Nat) : Prop :=
  bd (μ.1 10 0 c) 0 4 ∧ (∃ a b, a < W * H ∧ b < W * H ∧ a ≠ b ∧ μ.1 11 0 c = nI a ∧ μ.1 12 0 c = nI b) ∧ bd (μ.1 13 0 c) 1 4 ∧ bd (μ.1 15 0 c) 1 6 ∧
  bd (μ.1 17 0 c) 1 (2 ^ S - 1) ∧ μ.1 13 0 c = nI (popc (stN μ c) S) ∧ (∀ p, p < hpN μ c + 2 → ∃ l, l < 54 ∧ μ.1 16 0 (8 * c + p) = nI l ∧ endV W H l ≠ -2) ∧
  bd (μ.1 18 0 c) 0 99 ∧ bd (μ.1 21 0 c) 0 (99 * k) ∧ bd (μ.1 24 0 c) 0 T ∧ (μ.1 24 0 c = nI T → μ.1 22 0 c = 0) ∧
  (μ.1 23 0 c = -1 ∨ ∃ b, b < 8 ∧ b ≠ c ∧ μ.1 23 0 c = nI b ∧ live μ b ∧ μ.1 23 0 b = nI c)
def RCi (W H S T k : Nat) (σ μ : St) : Prop := ∀ c, c < 8 → σ.1 2 c 0 = nI c ∧ isZ (μ.1 9 0 c) ∧ σ.1 2 c 1 = μ.1 9 0 c ∧ (live μ c → REq σ μ c ∧ MOK W H S T k μ c ∧ 0 < S)
/-- the owners of slots -/
def ROw (S : Nat) (σ μ : St) : Prop := 0 < S → ∀ l, l < 54 → ∀ s, s < 10 →
  (σ.1 16 0 (10 * l + s) = -1 ∧ (s < S → ∀ c, c < 8 → live μ c → ¬ hasS μ S c l s)) ∨
  (s < S ∧ ∃ c, c < 8 ∧ σ.1 16 0 (10 * l + s) = nI c ∧ live μ c ∧ hasS μ S c l s ∧ ∀ d, d < 8 → live μ d → hasS μ S d l s → d = c)
/-- letter number k of the reference: of circuit c, at place p, with what it bears -/
def letM (T : Nat) (μ : St) (k c p : Nat) (v : Int32) : Prop := μ.1 26 0 k = nI c ∧ p ≤ T ∧ μ.1 27 0 k = nI (T - p) ∧ v = 2 * μ.1 29 0 k + μ.1 28 0 k
/-- the letters under way -/
def RLt (S T : Nat) (σ μ : St) : Prop := ∃ n, n ≤ 64 ∧ μ.1 0 0 25 = nI n ∧
  (∀ k, k < n → ∃ c p v, c < 8 ∧ live μ c ∧ 1 ≤ p ∧ p < hpN μ c + 2 ∧ letM T μ k c p v ∧ σ.1 18 c p = v ∧ isZ (μ.1 28 0 k) ∧ bd (μ.1 29 0 k) 0 3 ∧ (μ.1 29 0 k = 0 ∨ μ.1 23 0 c ≠ -1) ∧ (stN μ c).testBit ((T - p) % S) = true) ∧
  (∀ k j, k < n → j < n → μ.1 26 0 k = μ.1 26 0 j → μ.1 27 0 k = μ.1 27 0 j → k = j) ∧
  (∀ c p, c < 8 → p < 8 → live μ c → ¬ σ.1 18 c p = -1 → ∃ k, k < n ∧ letM T μ k c p (σ.1 18 c p))
/-- the strays under way -/
def RSt (W H T : Nat) (σ μ : St) : Prop := ∃ n, n ≤ 12 ∧ σ.1 8 0 0 = nI n ∧ μ.1 0 0 30 = nI n ∧ (0 < n → 0 < W * H) ∧
  (∀ j, j < 12 → σ.2.1 j < 12) ∧ (∀ i j, i < 12 → j < 12 → σ.2.1 i = σ.2.1 j → i = j) ∧
  ∀ j, j < n → σ.1 7 (σ.2.1 j) 0 = μ.1 33 0 j ∧ isZ (μ.1 33 0 j) ∧ σ.1 7 (σ.2.1 j) 1 = 0 ∧ σ.1 7 (σ.2.1 j) 3 = μ.1 31 0 j ∧ σ.1 7 (σ.2.1 j) 4 = μ.1 32 0 j ∧ σ.1 7 (σ.2.1 j) 5 = μ.1 34 0 j ∧ σ.1 7 (σ.2.1 j) 6 = μ.1 35 0 j ∧
    bd (μ.1 31 0 j) 0 (W * H - 1) ∧ bd (μ.1 32 0 j) 0 (W * H - 1) ∧ (μ.1 34 0 j = -1 ∨ bd (μ.1 34 0 j) 0 (W * H - 1))
/-- the strays that arrived -/
def RAr (σ μ : St) : Prop := (σ.1 0 0 0 = μ.1 36 0 1 ∧ σ.1 0 0 1 = μ.1 37 0 1 ∧ σ.1 0 0 2 = μ.1 38 0 1) ∧ σ.1 0 1 0 = μ.1 36 0 0 ∧ σ.1 0 1 1 = μ.1 37 0 0 ∧ σ.1 0 1 2 = μ.1 38 0 0
/-- chips taken over, and no router is passed between two calls -/
def R10 (σ μ : St) : Prop := σ.1 10 0 6 = μ.1 0 0 4 ∧ ∀ j, j < 9 → σ.1 20 0 j = 0
def RelP (W H S T k : Nat) (σ μ : St) : Prop := okWHS W H S ∧ T ≤ 40 * k ∧ RPg σ μ ∧ RGr W H S T σ μ ∧ RCi W H S T k σ μ ∧ ROw S σ μ ∧ RLt S T σ μ ∧ RSt W H T σ μ ∧ RAr σ μ ∧ R10 σ μ
def Rel (k : Nat) (σ μ : St) : Prop := ∃ W H S T, RelP W H S T k σ μ
theorem MOK.mono {W H S T k : Nat} {μ : St} {c : Nat} (h : MOK W H S T k μ c) : MOK W H S T (k + 1) μ c := by
  obtain ⟨a1, a2, a3, a4, a5, a6, a7, a8, ⟨n, b1, b2, b3⟩, a10⟩ := h
  exact ⟨a1, a2, a3, a4, a5, a6, a7, a8, ⟨n, b1, by omega, b3⟩, a10⟩
theorem RCi.mono {W H S T k : Nat} {σ μ : St} (h : RCi W H S T k σ μ) : RCi W H S T (k + 1) σ μ := fun c hc => by
  obtain ⟨h1, h2, h3, h4⟩ := h c hc
  exact ⟨h1, h2, h3, fun hl => ⟨(h4 hl).1, (h4 hl).2.1.mono, (h4 hl).2.2⟩⟩
theorem Rel.mono {k : Nat} {σ μ : St} (h : Rel k σ μ) : Rel (k + 1) σ μ := by
  obtain ⟨W, H, S, T, h1, h2, h3, h4, h5, h6⟩ := h
  exact ⟨W, H, S, T, h1, by omega, h3, h4, h5.mono, h6⟩
set_option maxHeartbeats 1000000 in
theorem eN54 : ∀ j, j < 54 → eN 54 j = -2 := by decide +kernel
theorem end00 : ∀ l, l < 54 → endV 0 0 l = -2 := by decide +kernel
theorem Rel_start : Rel 0 s0X s0M := by
  refine ⟨0, 0, 0, 0, Or.inl ⟨rfl, rfl, rfl⟩, Nat.le_refl _, ⟨⟨0, by omega, by omega, rfl⟩, rfl, fun j hj => absurd hj (Nat.not_lt_zero j)⟩, ?_, ?_, fun h => absurd h (Nat.lt_irrefl 0), ⟨0, by omega, rfl, ?_, ?_, ?_⟩, ⟨0, by omega, rfl, rfl, by omega, ?_, ?_, ?_⟩, ⟨⟨rfl, rfl, rfl⟩, rfl, rfl, rfl⟩, rfl, fun j _ => rfl⟩
  · refine ⟨rfl, rfl, rfl, rfl, rfl, rfl, rfl, rfl, fun l hl => ?_, fun l hl => ⟨rfl, Or.inl rfl⟩, fun l hl => ⟨rfl, ⟨0, by omega, by omega, rfl⟩, fun _ => rfl⟩⟩
    rw [end00 l hl]
    exact eN54 l hl
  · intro c hc
    refine ⟨?_, Or.inl rfl, ?_, ?_⟩
    · simp [s0X, nI]
    · simp [s0X, s0M]
    · intro h
      exact absurd h (by unfold live; show ¬ (0 : Int32) = 1; decide)
  · intro k hk; omega
  · intro k j hk; omega
  · intro c p hc hp hl
    exact absurd hl (by unfold live; show ¬ (0 : Int32) = 1; decide)
  · intro j hj; exact hj
  · intro i j _ _ h; exact h
  · intro j hj; omega
