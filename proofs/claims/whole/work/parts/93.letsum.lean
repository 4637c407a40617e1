/-! sums over letters, by circuits -/
def arN (T : Nat) (μ : St) (j : Nat) : Bool := decide (plN T μ j = hpN μ (foN μ j) + 1)
def VN (σ μ : St) (c : Nat) : Int32 := σ.1 18 c (hpN μ c + 1)
def gN (σ μ : St) (c : Nat) : Nat := if VN σ μ c = -1 then 0 else nN (VN σ μ c) % 2
def dN (σ μ : St) (c : Nat) : Nat := if VN σ μ c = -1 then 0 else nN (VN σ μ c) / 2
def lvB (μ : St) (c : Nat) : Bool := decide (μ.1 9 0 c = 1)
def bkN (μ : St) (c : Nat) : Nat := if μ.1 23 0 c = -1 then 100 else nN (μ.1 23 0 c)
def bkO (μ : St) (c : Nat) : Option Nat := if μ.1 23 0 c = -1 then none else some (nN (μ.1 23 0 c))
theorem lvB_live {μ : St} {c : Nat} : lvB μ c = true ↔ live μ c := by unfold lvB live; rw [decide_eq_true_eq]
theorem letsum {W H S T k : Nat} {σ μ : St} (h : RelM 8 W H S T k σ μ) (hk : k ≤ 513) {n c : Nat} (hn : n ≤ 72) (en : μ.1 0 0 25 = nI n) (hc : c < 8) (hl : live μ c) (F Z : Nat → Nat) (hF : ∀ j, j < n → foN μ j = c → F (plN T μ j) = Z j) : sumN (fun p => if decide (σ.1 18 c p ≠ -1) then F p else 0) 8 = sumN (fun j => if foN μ j = c then Z j else 0) n := by
  rw [h.und hk hc hl (by omega) (Nat.le_refl 8) en F]
  refine sumN_cg (fun j hj => ?_)
  obtain ⟨f1, -, -, -, -, f6, -⟩ := let_facts h hk (Nat.le_refl 8) (by omega) en hj
  by_cases q : foN μ j = c
  · rw [if_pos q, decide_eq_true (show μ.1 26 0 j = nI c by rw [f6, q]), if_pos rfl]
    exact hF j hj q
  · rw [if_neg q, decide_eq_false (fun z => q (nI_inj (by omega) (by omega) (f6.symm.trans z))), if_neg (by decide)]
theorem deadsum {W H S T k : Nat} {σ μ : St} (h : RelM 8 W H S T k σ μ) (hk : k ≤ 513) {n c : Nat} (hn : n ≤ 72) (en : μ.1 0 0 25 = nI n) (hl : ¬ live μ c) (Z : Nat → Nat) : sumN (fun j => if foN μ j = c then Z j else 0) n = 0 := by
  refine sumN_zero (fun j hj => ?_)
  obtain ⟨f1, f2, -⟩ := let_facts h hk (Nat.le_refl 8) (by omega) en hj
  rw [if_neg (fun z => hl (by rw [← z]; exact f2))]
theorem totsum {W H S T k : Nat} {σ μ : St} (h : RelM 8 W H S T k σ μ) (hk : k ≤ 513) {n : Nat} (hn : n ≤ 72) (en : μ.1 0 0 25 = nI n) (X Z : Nat → Nat) (hX : ∀ c, c < 8 → live μ c → X c = sumN (fun j => if foN μ j = c then Z j else 0) n) : sumN (fun c => if lvB μ c then X c else 0) 8 = sumN Z n := by
  have := part_sum2 (foN μ) (fun _ j => Z j) n (fun j hj => (let_facts h hk (Nat.le_refl 8) (by omega) en hj).1)
  rw [← this]
  refine sumN_cg (fun c hc => ?_)
  by_cases q : live μ c
  · rw [lvB_live.mpr q, if_pos rfl]
    exact hX c hc q
  · rw [if_neg (fun z => q (lvB_live.mp z)), deadsum h hk hn en q Z]
theorem ar_facts {W H S T k : Nat} {σ μ : St} (h : RelM 8 W H S T k σ μ) (hk : k ≤ 513) {n j : Nat} (hn : n ≤ 72) (en : μ.1 0 0 25 = nI n) (hj : j < n) (ha : plN T μ j = hpN μ (foN μ j) + 1) : nN (VN σ μ (foN μ j)) % 2 = ldN μ j ∧ nN (VN σ μ (foN μ j)) / 2 = tlN μ j := by
  obtain ⟨f1, -, -, -, -, -, -, -, f9, -, f11, -, f13, -⟩ := let_facts h hk (Nat.le_refl 8) (by omega) en hj
  unfold VN nN
  rw [← ha, f13, clL (by omega)]
  omega
theorem onesum {σ μ : St} {c : Nat} (hp : hpN μ c ≤ 6) (f : Nat → Nat) : sumN (fun p => if decide (σ.1 18 c p ≠ -1) then (if p = hpN μ c + 1 then f (nN (σ.1 18 c p)) else 0) else 0) 8 = if VN σ μ c = -1 then 0 else f (nN (VN σ μ c)) := by
  have e : sumN (fun p => if decide (σ.1 18 c p ≠ -1) then (if p = hpN μ c + 1 then f (nN (σ.1 18 c p)) else 0) else 0) 8 = sumN (fun p => if p = hpN μ c + 1 then (if VN σ μ c = -1 then 0 else f (nN (VN σ μ c))) else 0) 8 := by
    refine sumN_cg (fun p _ => ?_)
    by_cases q : p = hpN μ c + 1
    · subst q
      unfold VN
      rw [if_pos rfl, if_pos rfl]
      by_cases w : σ.1 18 c (hpN μ c + 1) = -1
      · rw [if_pos w, decide_eq_false (fun z => z w), if_neg (by decide)]
      · rw [if_neg w, decide_eq_true w, if_pos rfl]
    · rw [if_neg q, if_neg q]
      split <;> rfl
  rw [e, sumN_at, if_pos (by omega)]
/-- what came of a circuit, what was told -/
theorem gsum {W H S T k : Nat} {σ μ : St} (h : RelM 8 W H S T k σ μ) (hk : k ≤ 513) {n c : Nat} (hn : n ≤ 72) (en : μ.1 0 0 25 = nI n) (hc : c < 8) (hl : live μ c) : gN σ μ c = sumN (fun j => if foN μ j = c then (if arN T μ j then ldN μ j else 0) else 0) n ∧ dN σ μ c = sumN (fun j => if foN μ j = c then (if arN T μ j then tlN μ j else 0) else 0) n := by
  obtain ⟨hp, -, hp2, -, -, e3⟩ := h.hops hc hl
  constructor
  · rw [← letsum h hk hn en hc hl (fun p => if p = hpN μ c + 1 then nN (σ.1 18 c p) % 2 else 0) (fun j => if arN T μ j then ldN μ j else 0) (fun j hj q => ?_), onesum (by omega) (fun v => v % 2)]
    · rfl
    · unfold arN
      rw [q]
      by_cases w : plN T μ j = hpN μ c + 1
      · rw [if_pos w, decide_eq_true w, if_pos rfl, ← (ar_facts h hk hn en hj (by rw [q]; exact w)).1, q]
        unfold VN
        rw [w]
      · rw [if_neg w, decide_eq_false w, if_neg (by decide)]
  · rw [← letsum h hk hn en hc hl (fun p => if p = hpN μ c + 1 then nN (σ.1 18 c p) / 2 else 0) (fun j => if arN T μ j then tlN μ j else 0) (fun j hj q => ?_), onesum (by omega) (fun v => v / 2)]
    · rfl
    · unfold arN
      rw [q]
      by_cases w : plN T μ j = hpN μ c + 1
      · rw [if_pos w, decide_eq_true w, if_pos rfl, ← (ar_facts h hk hn en hj (by rw [q]; exact w)).2, q]
        unfold VN
        rw [w]
      · rw [if_neg w, decide_eq_false w, if_neg (by decide)]
/-- the links used by letters -/
theorem usesum {W H S T k : Nat} {σ μ : St} (h : RelM 8 W H S T k σ μ) (hk : k ≤ 513) {n : Nat} (hn : n ≤ 72) (en : μ.1 0 0 25 = nI n) (l : Nat) : sumN (fun c => if lvB μ c then sumN (fun p => if decide (σ.1 18 c p ≠ -1) then (if l = nN (σ.1 17 c p) then 1 else 0) else 0) (hpN μ c + 2) else 0) 8 = sumN (fun j => if l = lkN T μ j then 1 else 0) n := by
  refine totsum h hk hn en (fun c => sumN (fun p => if decide (σ.1 18 c p ≠ -1) then (if l = nN (σ.1 17 c p) then 1 else 0) else 0) (hpN μ c + 2)) (fun j => if l = lkN T μ j then 1 else 0) (fun c hc hl => ?_)
  obtain ⟨q, o, -⟩ := h.of_live hc hl
  obtain ⟨hp, -, hp2, -, -, e3⟩ := h.hops hc hl
  have ext : ∀ m, hpN μ c + 2 + m ≤ 8 → sumN (fun p => if decide (σ.1 18 c p ≠ -1) then (if l = nN (σ.1 17 c p) then 1 else 0) else 0) (hpN μ c + 2 + m) = sumN (fun p => if decide (σ.1 18 c p ≠ -1) then (if l = nN (σ.1 17 c p) then 1 else 0) else 0) (hpN μ c + 2) := by
    intro m
    induction m with
    | zero => intro _; rfl
    | succ m ih =>
      intro hm
      show sumN _ (hpN μ c + 2 + m) + (if decide (σ.1 18 c (hpN μ c + 2 + m) ≠ -1) then (if l = nN (σ.1 17 c (hpN μ c + 2 + m)) then 1 else 0) else 0) = _
      rw [ih (by omega), decide_eq_false (fun z => z (q.2.2.2.2.2.2.2.2.2.2.2.2.2.2.2 (hpN μ c + 2 + m) (by omega) (by omega))), if_neg (by decide), Nat.add_zero]
  have e8 := ext (6 - hpN μ c) (by omega)
  rw [show hpN μ c + 2 + (6 - hpN μ c) = 8 by omega] at e8
  show sumN (fun p => if decide (σ.1 18 c p ≠ -1) then (if l = nN (σ.1 17 c p) then 1 else 0) else 0) (hpN μ c + 2) = _
  rw [← e8]
  refine letsum h hk hn en hc hl (fun p => if l = nN (σ.1 17 c p) then 1 else 0) _ (fun j hj z => ?_)
  obtain ⟨f1, -, f3, -, -, -, -, -, -, -, -, -, -, f14, f15, -⟩ := let_facts h hk (Nat.le_refl 8) (by omega) en hj
  rw [z] at f3 f15
  have e17 := q.2.2.2.2.2.2.2.2.2.2.2.2.2.2.1 (plN T μ j) f3
  have : nN (σ.1 17 c (plN T μ j)) = lkN T μ j := by unfold nN; rw [e17, f15, clL (by omega)]
  rw [this]
theorem use_le {W H S T k : Nat} {σ μ : St} (h : RelM 8 W H S T k σ μ) (hk : k ≤ 513) {n : Nat} (hn : n ≤ 72) (en : μ.1 0 0 25 = nI n) (l : Nat) : sumN (fun j => if l = lkN T μ j then 1 else 0) n ≤ 64 := by
  rw [← usesum h hk hn en l]
  refine Nat.le_trans (sumN_le (b := 8) (fun c hc => ?_)) (by decide)
  by_cases q : live μ c
  · obtain ⟨hp, -, hp2, -, -, e3⟩ := h.hops hc q
    rw [lvB_live.mpr q, if_pos rfl]
    refine Nat.le_trans (sumN_le (b := 1) (fun p _ => ?_)) (by omega)
    split
    · split <;> omega
    · omega
  · rw [if_neg (fun z => q (lvB_live.mp z))]
    omega
/-- not more than 64 letters stay -/
theorem let_le {W H S T k : Nat} {σ μ : St} (h : RelM 8 W H S T k σ μ) (hk : k ≤ 513) {n : Nat} (hn : n ≤ 72) (en : μ.1 0 0 25 = nI n) : n ≤ 64 := by
  have one : ∀ m, sumN (fun _ => 1) m = m := by
    intro m
    induction m with
    | zero => rfl
    | succ m ih => show sumN (fun _ => 1) m + 1 = m + 1; rw [ih]
  have t := totsum h hk hn en (fun c => sumN (fun p => if decide (σ.1 18 c p ≠ -1) then 1 else 0) 8) (fun _ => 1) (fun c hc hl => letsum h hk hn en hc hl (fun _ => 1) (fun _ => 1) (fun _ _ _ => rfl))
  rw [one] at t
  rw [← t]
  refine Nat.le_trans (sumN_le (b := 8) (fun c hc => ?_)) (by decide)
  split
  · refine Nat.le_trans (sumN_le (b := 1) (fun p _ => ?_)) (by omega)
    split <;> omega
  · omega
