/-! the next link of a stray is a link -/
def nxC (W H d x : Nat) : Bool := decide (W * H ≤ d) || (decide (W * H ≤ x) || (decide (nxl W 0 d (nI x) < 54) && decide (endV W H (nxl W 0 d (nI x)) ≠ -2)))
set_option maxHeartbeats 4000000 in
theorem nx_all : ∀ W, W < 4 → ∀ H, H < 4 → ∀ d, d < 9 → ∀ x, x < 9 → nxC W H d x = true := by decide +kernel
theorem nx_ok {W H S f d : Nat} {a : Int32} (hw : okWHS W H S) (hf : f < W * H) (hd : d < W * H) (ha : a = -1 ∨ ∃ x, x < W * H ∧ a = nI x) : nxl W f d a < 54 ∧ endV W H (nxl W f d a) ≠ -2 := by
  have h9 := hw.WH.2.2
  rcases ha with e | ⟨x, hx, e⟩
  · have : nxl W f d a = 6 * f := by unfold nxl; rw [if_pos e]
    rw [this]
    exact ⟨by omega, endV_io (by omega) (by omega) (by omega)⟩
  · have : nxl W f d a = nxl W 0 d (nI x) := by
      unfold nxl
      rw [e, if_neg (nI_nm1 (by omega)), if_neg (nI_nm1 (by omega))]
    rw [this]
    have c := nx_all W hw.WH.1 H hw.WH.2.1 d (by omega) x (by omega)
    unfold nxC at c
    rw [decide_eq_false (show ¬ W * H ≤ d by omega), decide_eq_false (show ¬ W * H ≤ x by omega), Bool.false_or, Bool.false_or, Bool.and_eq_true, decide_eq_true_eq, decide_eq_true_eq] at c
    exact c
def enC (W H l : Nat) : Bool := decide (endV W H l = -2) || ((decide (endV W H l = -1) == decide (l % 6 = 1)) && (decide (l % 6 = 1) || (decide (nxL W H l < W * H) && decide (endV W H l = nI (nxL W H l)))))
set_option maxHeartbeats 4000000 in
theorem en_all : ∀ W, W < 4 → ∀ H, H < 4 → ∀ l, l < 54 → enC W H l = true := by decide +kernel
theorem en_ok {W H S l : Nat} (hw : okWHS W H S) (hl : l < 54) (he : endV W H l ≠ -2) : decide (endV W H l = -1) = decide (l % 6 = 1) ∧ (l % 6 ≠ 1 → nxL W H l < W * H ∧ endV W H l = nI (nxL W H l)) := by
  have c := en_all W hw.WH.1 H hw.WH.2.1 l hl
  unfold enC at c
  rw [decide_eq_false he, Bool.false_or, Bool.and_eq_true, beq_iff_eq, Bool.or_eq_true, Bool.and_eq_true] at c
  refine ⟨c.1, fun z => ?_⟩
  rcases c.2 with y | y
  · exact absurd (of_decide_eq_true y) z
  · exact ⟨of_decide_eq_true y.1, of_decide_eq_true y.2⟩
/-- the strays, as numbers -/
def uN (μ : St) (j : Nat) : Bool := decide (μ.1 33 0 j = 1)
def nxN (W : Nat) (μ : St) (j : Nat) : Nat := nxl W (nN (μ.1 31 0 j)) (nN (μ.1 32 0 j)) (μ.1 34 0 j)
theorem stray_facts {W H S T n j : Nat} {σ μ : St} (hw : okWHS W H S) (hs : RSt W H T σ μ) (en : σ.1 8 0 0 = nI n) (hn : n ≤ 12) (hj : j < n) :
    μ.1 33 0 j = bz (uN μ j) ∧ σ.1 7 (σ.2.1 j) 0 = bz (uN μ j) ∧ nxN W μ j < 54 ∧ endV W H (nxN W μ j) ≠ -2 ∧ ∃ f d, f < W * H ∧ d < W * H ∧ μ.1 31 0 j = nI f ∧ μ.1 32 0 j = nI d ∧ σ.1 7 (σ.2.1 j) 3 = nI f ∧ σ.1 7 (σ.2.1 j) 4 = nI d ∧ σ.1 7 (σ.2.1 j) 5 = μ.1 34 0 j ∧ nxN W μ j = nxl W f d (μ.1 34 0 j) ∧ (μ.1 34 0 j = -1 ∨ ∃ x, x < W * H ∧ μ.1 34 0 j = nI x) ∧ 0 < W ∧ W ≤ 3 ∧ W * H ≤ 9 := by
  have h9 := hw.WH
  obtain ⟨n', hn', ex, em, hp, hl, hi, hd⟩ := hs
  have e : n' = n := nI_inj (by omega) (by omega) (ex.symm.trans en)
  subst e
  have hWH := hp (by omega)
  obtain ⟨a1, a2, a3, a4, a5, a6, a7, ⟨f, -, f1, ef⟩, ⟨d, -, d1, ed⟩, a10⟩ := hd j hj
  have hW : 0 < W := by
    rcases Nat.eq_zero_or_pos W with z | z
    · rw [z] at hWH; omega
    · exact z
  have e33 : μ.1 33 0 j = bz (uN μ j) := by
    unfold uN
    rcases a2 with z | z
    · rw [z]; rfl
    · rw [z]; rfl
  have e34 : μ.1 34 0 j = -1 ∨ ∃ x, x < W * H ∧ μ.1 34 0 j = nI x := by
    rcases a10 with z | ⟨x, -, x1, z⟩
    · exact Or.inl z
    · exact Or.inr ⟨x, by omega, z⟩
  have exn : nxN W μ j = nxl W f d (μ.1 34 0 j) := by
    unfold nxN nN
    rw [ef, ed, clL (by omega), clL (by omega)]
  obtain ⟨b1, b2⟩ := nx_ok (f := f) (d := d) hw (by omega) (by omega) e34
  rw [← exn] at b1 b2
  exact ⟨e33, a1.trans e33, b1, b2, f, d, by omega, by omega, ef, ed, a4.trans ef, a5.trans ed, a6, exn, e34, hW, by omega, h9.2.2⟩
