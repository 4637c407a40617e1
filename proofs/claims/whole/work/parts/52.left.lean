/-! links that a break may still name -/
def nm (W H : Nat) (μ : St) (l : Nat) : Bool := inN W H l && decide (μ.1 44 0 l = 0)
theorem bz_ne (b : Bool) : bz b ≠ 0 ↔ b = true := by cases b <;> decide
theorem anyX {σ : St} {hi : Nat} (h54 : hi ≤ 54) : ∀ m lo fu, lo + m = hi → m < fu → ∃ b : Bool, f_X5_anyNameable_L6 σ (nI hi) fu (nI lo) = some (bz b) ∧ (b = true ↔ ∃ l, lo ≤ l ∧ l < hi ∧ σ.1 13 0 l ≠ 0) := by
  intro m
  induction m with
  | zero =>
    intro lo fu h1 h2
    obtain ⟨fu, rfl⟩ : ∃ j, fu = j + 1 := ⟨fu - 1, by omega⟩
    refine ⟨false, ?_, fun z => absurd z (by decide), fun ⟨l, a, b, _⟩ => by omega⟩
    show f_X5_anyNameable_L6b σ (nI hi) (f_X5_anyNameable_L6 σ (nI hi) fu) (nI lo) = _
    unfold f_X5_anyNameable_L6b
    rw [if_neg (nI_nlt (by omega) (by omega))]
    rfl
  | succ m ih =>
    intro lo fu h1 h2
    obtain ⟨fu, rfl⟩ : ∃ j, fu = j + 1 := ⟨fu - 1, by omega⟩
    have e : f_X5_anyNameable_L6 σ (nI hi) (fu + 1) (nI lo) = if σ.1 13 0 lo = 0 then f_X5_anyNameable_L6 σ (nI hi) fu (nI (lo + 1)) else some 1 := by
      show f_X5_anyNameable_L6b σ (nI hi) (f_X5_anyNameable_L6 σ (nI hi) fu) (nI lo) = _
      unfold f_X5_anyNameable_L6b chk
      rw [if_pos (nI_lt (by omega) (by omega)), if_pos (ltL 54 54 rfl (by omega) (by decide)), if_pos (inbL (by omega) (by decide)), clL (by omega), nI_1]
    rw [e]
    by_cases q : σ.1 13 0 lo = 0
    · obtain ⟨b, b1, b2⟩ := ih (lo + 1) fu (by omega) (by omega)
      refine ⟨b, by rw [if_pos q]; exact b1, b2.trans ⟨fun ⟨l, a1, a2, a3⟩ => ⟨l, by omega, a2, a3⟩, fun ⟨l, a1, a2, a3⟩ => ⟨l, ?_, a2, a3⟩⟩⟩
      by_cases y : l = lo
      · subst y; exact absurd q a3
      · omega
    · exact ⟨true, by rw [if_neg q]; rfl, fun _ => ⟨lo, Nat.le_refl _, by omega, q⟩, fun _ => rfl⟩
theorem isLeft_eq {W H : Nat} {σ μ : St} (h : GR W H σ μ) {a p : Nat} (ha : a < W * H) (hp : 2 ≤ p) (hp6 : p < 6) : f_X12_isLeft μ (nI a) (nI p) = some (bz (nm W H μ (6 * a + p))) := by
  obtain ⟨hW, hH, -, -, -, -, e1, e2, h4⟩ := h
  have hw : 2 ≤ W ∧ W < 4 ∧ 2 ≤ H ∧ H < 4 ∧ W * H ≤ 9 := by
    rcases hW with rfl | rfl <;> rcases hH with rfl | rfl <;> omega
  have hl : 6 * a + p < 54 := by omega
  have d1 : (6 * a + p) / 6 = a := by omega
  have d2 : (6 * a + p) % 6 = p := by omega
  have hle := leads_eq W hw.2.1 H hw.2.2.2.1 (6 * a + p) hl ⟨hw.1, hw.2.2.1, by omega⟩
  rw [d1, d2] at hle
  have e6 : 6 * nI a + nI p = nI (6 * a + p) := six a p
  unfold f_X12_isLeft nm inN chk
  rw [e1, e2, hle, Option.bind_some, e6, if_pos (inbL hl (by decide)), clL (by omega), d2, decide_eq_true hp, Bool.and_true]
  by_cases q : endV W H (6 * a + p) = -2
  · rw [if_pos q, if_pos rfl, decide_eq_false (fun z => z q)]
    rfl
  · have q1 : endV W H (6 * a + p) ≠ -1 := by
      intro z
      unfold endV at z q
      rw [if_neg (by omega), if_neg (by omega), if_neg (by omega)] at z q
      have hz : ∀ n : Nat, n < 100 → nI n ≠ -1 := fun n hn => nI_nm1 (by omega)
      (repeat' split at z) <;> first | exact hz _ (by omega) z | exact absurd z (by decide)
    rw [if_neg q, if_neg q1, decide_eq_true q, Bool.true_and]
    by_cases y : μ.1 44 0 (6 * a + p) = 0
    · rw [if_pos y, decide_eq_true y]; rfl
    · rw [if_neg y, decide_eq_false y]; rfl
theorem rleft {W H : Nat} {σ μ : St} (h : GR W H σ μ) {a : Nat} (ha : a < W * H) : ∀ m t fu (acc : Bool), t + m = 6 → m < fu → 2 ≤ t → ∃ b : Bool, f_X12_isRouterLeft_L4 μ (nI a) fu (bz acc) (nI t) = some (bz b) ∧ (b = true ↔ acc = true ∨ ∃ p, t ≤ p ∧ p < 6 ∧ nm W H μ (6 * a + p) = true) := by
  intro m
  induction m with
  | zero =>
    intro t fu acc h1 h2 h3
    obtain ⟨fu, rfl⟩ : ∃ j, fu = j + 1 := ⟨fu - 1, by omega⟩
    refine ⟨acc, ?_, fun z => Or.inl z, fun z => z.elim id (fun ⟨p, a1, a2, _⟩ => by omega)⟩
    show f_X12_isRouterLeft_L4b μ (nI a) (f_X12_isRouterLeft_L4 μ (nI a) fu) (bz acc) (nI t) = _
    unfold f_X12_isRouterLeft_L4b chk
    rw [if_neg (nltL 6 6 rfl (by omega) (by omega)), if_pos (bz_Z acc)]
  | succ m ih =>
    intro t fu acc h1 h2 h3
    obtain ⟨fu, rfl⟩ : ∃ j, fu = j + 1 := ⟨fu - 1, by omega⟩
    have e : f_X12_isRouterLeft_L4 μ (nI a) (fu + 1) (bz acc) (nI t) = f_X12_isRouterLeft_L4 μ (nI a) fu (bz (acc || nm W H μ (6 * a + t))) (nI (t + 1)) := by
      show f_X12_isRouterLeft_L4b μ (nI a) (f_X12_isRouterLeft_L4 μ (nI a) fu) (bz acc) (nI t) = _
      unfold f_X12_isRouterLeft_L4b
      rw [if_pos (ltL 6 6 rfl (by omega) (by decide)), isLeft_eq h ha h3 (by omega), Option.bind_some, nI_1]
      cases acc
      · cases nm W H μ (6 * a + t) <;> rfl
      · rfl
    obtain ⟨b, b1, b2⟩ := ih (t + 1) fu (acc || nm W H μ (6 * a + t)) (by omega) (by omega) (by omega)
    refine ⟨b, by rw [e]; exact b1, b2.trans ?_⟩
    rw [Bool.or_eq_true]
    constructor
    · rintro ((z | z) | ⟨p, a1, a2, a3⟩)
      · exact Or.inl z
      · exact Or.inr ⟨t, Nat.le_refl _, by omega, z⟩
      · exact Or.inr ⟨p, by omega, a2, a3⟩
    · rintro (z | ⟨p, a1, a2, a3⟩)
      · exact Or.inl (Or.inl z)
      · by_cases y : p = t
        · subst y; exact Or.inl (Or.inr a3)
        · exact Or.inr ⟨p, by omega, a2, a3⟩
theorem aleft {W H : Nat} {σ μ : St} (h : GR W H σ μ) : ∀ m t fu (acc : Bool), t + m = W * H → m < fu → ∃ b : Bool, f_X12_isAnyLeft_L4 μ fu (bz acc) (nI t) = some (bz b) ∧ (b = true ↔ acc = true ∨ ∃ a p, t ≤ a ∧ a < W * H ∧ 2 ≤ p ∧ p < 6 ∧ nm W H μ (6 * a + p) = true) := by
  have hw : W * H ≤ 9 := by
    rcases h.1 with rfl | rfl <;> rcases h.2.1 with rfl | rfl <;> omega
  have e1 := h.2.2.2.2.2.2.1
  have e2 := h.2.2.2.2.2.2.2.1
  intro m
  induction m with
  | zero =>
    intro t fu acc h1 h2
    obtain ⟨fu, rfl⟩ : ∃ j, fu = j + 1 := ⟨fu - 1, by omega⟩
    refine ⟨acc, ?_, fun z => Or.inl z, fun z => z.elim id (fun ⟨a, p, a1, a2, _⟩ => by omega)⟩
    show f_X12_isAnyLeft_L4b μ (f_X12_isAnyLeft_L4 μ fu) (bz acc) (nI t) = _
    unfold f_X12_isAnyLeft_L4b chk
    rw [e1, e2, nI_mul, if_neg (nI_nlt (by omega) (by omega)), if_pos (bz_Z acc)]
  | succ m ih =>
    intro t fu acc h1 h2
    obtain ⟨fu, rfl⟩ : ∃ j, fu = j + 1 := ⟨fu - 1, by omega⟩
    obtain ⟨r, r1, r2⟩ := rleft h (show t < W * H by omega) 4 2 FU false (by omega) (FU_lt (by omega)) (by omega)
    have r1' : f_X12_isRouterLeft μ (nI t) = some (bz r) := r1
    have e : f_X12_isAnyLeft_L4 μ (fu + 1) (bz acc) (nI t) = f_X12_isAnyLeft_L4 μ fu (bz (acc || r)) (nI (t + 1)) := by
      show f_X12_isAnyLeft_L4b μ (f_X12_isAnyLeft_L4 μ fu) (bz acc) (nI t) = _
      unfold f_X12_isAnyLeft_L4b
      rw [e1, e2, nI_mul, if_pos (nI_lt (by omega) (by omega)), r1', Option.bind_some, nI_1]
      cases acc
      · cases r <;> rfl
      · rfl
    obtain ⟨b, b1, b2⟩ := ih (t + 1) fu (acc || r) (by omega) (by omega)
    refine ⟨b, by rw [e]; exact b1, b2.trans ?_⟩
    rw [Bool.or_eq_true, r2]
    constructor
    · rintro ((z | z | ⟨p, a1, a2, a3⟩) | ⟨a, p, a1, a2, a3⟩)
      · exact Or.inl z
      · cases z
      · exact Or.inr ⟨t, p, Nat.le_refl _, by omega, a1, a2, a3⟩
      · exact Or.inr ⟨a, p, by omega, a2, a3⟩
    · rintro (z | ⟨a, p, a1, a2, a3, a4, a5⟩)
      · exact Or.inl (Or.inl z)
      · by_cases y : a = t
        · subst y; exact Or.inl (Or.inr (Or.inr ⟨p, a3, a4, a5⟩))
        · exact Or.inr ⟨a, p, by omega, a2, a3, a4, a5⟩
theorem nm_X {W H : Nat} {σ μ : St} (h : GR W H σ μ) {l : Nat} (hl : l < 54) : σ.1 13 0 l ≠ 0 ↔ nm W H μ l = true := by
  rw [(h.2.2.2.2.2.2.2.2 l hl).2.2.1]
  exact bz_ne _
theorem nm_in {W H : Nat} {μ : St} {l : Nat} (h : nm W H μ l = true) : l / 6 < W * H ∧ 2 ≤ l % 6 := by
  unfold nm inN at h
  rw [Bool.and_eq_true, Bool.and_eq_true, decide_eq_true_eq, decide_eq_true_eq] at h
  exact ⟨endV_in h.1.1, h.1.2⟩
theorem any_both {W H : Nat} {σ μ : St} (h : GR W H σ μ) : ∃ b : Bool, f_X5_anyNameable σ 0 54 = some (bz b) ∧ f_X12_isAnyLeft μ = some (bz b) := by
  have hw : W * H ≤ 9 := by
    rcases h.1 with rfl | rfl <;> rcases h.2.1 with rfl | rfl <;> omega
  obtain ⟨b, b1, b2⟩ := anyX (σ := σ) (Nat.le_refl 54) 54 0 FU (by omega) (FU_lt (by omega))
  obtain ⟨d, d1, d2⟩ := aleft h (W * H) 0 FU false (by omega) (FU_lt (by omega))
  have : b = d := by
    rw [Bool.eq_iff_iff, b2, d2]
    constructor
    · rintro ⟨l, a1, a2, a3⟩
      have z := (nm_X h a2).mp a3
      obtain ⟨z1, z2⟩ := nm_in z
      exact Or.inr ⟨l / 6, l % 6, Nat.zero_le _, z1, z2, Nat.mod_lt _ (by decide), by rw [show 6 * (l / 6) + l % 6 = l by omega]; exact z⟩
    · rintro (z | ⟨a, p, a1, a2, a3, a4, a5⟩)
      · cases z
      · exact ⟨6 * a + p, Nat.zero_le _, by omega, (nm_X h (by omega)).mpr a5⟩
  subst this
  exact ⟨b, b1, d1⟩
theorem router_both {W H : Nat} {σ μ : St} (h : GR W H σ μ) {a : Nat} (ha : a < W * H) : ∃ b : Bool, f_X5_anyNameable σ (nI (6 * a)) (nI (6 * a + 6)) = some (bz b) ∧ f_X12_isRouterLeft μ (nI a) = some (bz b) := by
  have hw : W * H ≤ 9 := by
    rcases h.1 with rfl | rfl <;> rcases h.2.1 with rfl | rfl <;> omega
  obtain ⟨b, b1, b2⟩ := anyX (σ := σ) (show 6 * a + 6 ≤ 54 by omega) 6 (6 * a) FU (by omega) (FU_lt (by omega))
  obtain ⟨d, d1, d2⟩ := rleft h ha 4 2 FU false (by omega) (FU_lt (by omega)) (by omega)
  have : b = d := by
    rw [Bool.eq_iff_iff, b2, d2]
    constructor
    · rintro ⟨l, a1, a2, a3⟩
      have z := (nm_X h (by omega)).mp a3
      obtain ⟨z1, z2⟩ := nm_in z
      exact Or.inr ⟨l % 6, z2, Nat.mod_lt _ (by decide), by rw [show 6 * a + l % 6 = l by omega]; exact z⟩
    · rintro (z | ⟨p, a3, a4, a5⟩)
      · cases z
      · exact ⟨6 * a + p, by omega, by omega, (nm_X h (by omega)).mpr a5⟩
  subst this
  refine ⟨b, ?_, d1⟩
  unfold f_X5_anyNameable bnd
  have e : (if 0 < nI (6 * a) then nI (6 * a) else 0) = nI (6 * a) := by
    by_cases q : a = 0
    · subst q; rfl
    · rw [if_pos (show 0 < nI (6 * a) from nI_lt (a := 0) (by omega) (by omega))]
  rw [e]
  exact b1
