/-! the grid is set -/
theorem loopP {R : Type} (f : Nat → St → Int32 → R) (Q : R → Prop) (N : Nat) (P : Nat → St → Prop) (step : ∀ n t σ, t < N → P t σ → (∀ σ', P (t + 1) σ' → Q (f n σ' (nI (t + 1)))) → Q (f (n + 1) σ (nI t))) (fin : ∀ n σ, P N σ → Q (f (n + 1) σ (nI N))) :
    ∀ m t n σ, t + m = N → m < n → P t σ → Q (f n σ (nI t)) := by
  intro m
  induction m with
  | zero =>
    intro t n σ h1 h2 h3
    obtain ⟨n, rfl⟩ : ∃ j, n = j + 1 := ⟨n - 1, by omega⟩
    have e : t = N := by omega
    subst e
    exact fin n σ h3
  | succ m ih =>
    intro t n σ h1 h2 h3
    obtain ⟨n, rfl⟩ : ∃ j, n = j + 1 := ⟨n - 1, by omega⟩
    exact step n t σ (by omega) h3 (fun σ' h => ih (t + 1) n σ' (by omega) (by omega) h)
def W2 (W : Nat) : Prop := W = 2 ∨ W = 3
def stWH (W H : Nat) : St := (fun _ _ c => if c = 0 then nI W else nI H, fun _ => 0, fun _ => 0)
theorem eb_st {σ : St} {i W H : Nat} (e0 : σ.1 4 i 0 = nI W) (e1 : σ.1 4 i 1 = nI H) (p q : Int32) : f_X4_endBeside σ i p q = f_X4_endBeside (stWH W H) 0 p q := by
  unfold f_X4_endBeside f_X4_row f_X4_column
  rw [e0, e1]
  rfl
set_option maxHeartbeats 2000000 in
set_option maxRecDepth 100000 in
theorem eb_at : ∀ W, W < 4 → ∀ H, H < 4 → ∀ l, l < 54 → 2 ≤ W ∧ 2 ≤ H ∧ l / 6 < W * H → f_X4_endBeside (stWH W H) 0 (nI (l / 6)) (nI (l % 6)) = some (endV W H l) := by decide +kernel
/-- what is left as it was beside the grid i -/
def KG (i : Nat) (σ σ2 : St) : Prop := σ2.2 = σ.2 ∧ (∀ a, a ≠ 4 → a ≠ 11 → σ2.1 a = σ.1 a) ∧ ∀ j, j ≠ i → σ2.1 4 j = σ.1 4 j ∧ σ2.1 11 j = σ.1 11 j
theorem gset_eq {σ : St} {i W H : Nat} (hW : W2 W) (hH : W2 H) : ∃ σ2, f_X4_set σ i (nI W) (nI H) = some σ2 ∧ KG i σ σ2 ∧ σ2.1 4 i 0 = nI W ∧ σ2.1 4 i 1 = nI H ∧ ∀ l, l < 54 → σ2.1 11 i l = endV W H l := by
  have hw : 2 ≤ W ∧ W < 4 ∧ 2 ≤ H ∧ H < 4 ∧ W * H ≤ 9 := by
    rcases hW with rfl | rfl <;> rcases hH with rfl | rfl <;> omega
  refine loopP (fun n σ v => f_X4_set_L12 i n σ v) (fun r => ∃ σ2, r = some σ2 ∧ KG i σ σ2 ∧ σ2.1 4 i 0 = nI W ∧ σ2.1 4 i 1 = nI H ∧ ∀ l, l < 54 → σ2.1 11 i l = endV W H l) 54 (fun t s => KG i σ s ∧ s.1 4 i 0 = nI W ∧ s.1 4 i 1 = nI H ∧ ∀ l, l < t → s.1 11 i l = endV W H l) ?_ ?_ 54 0 FU (si (si σ 4 i 0 (nI W)) 4 i 1 (nI H)) (by omega) (FU_lt (by omega)) ?_
  · rintro n t s ht ⟨⟨k1, k2, k3⟩, k4, k5, k6⟩ ih
    show ∃ σ2, f_X4_set_L12b i (f_X4_set_L12 i n) s (nI t) = some σ2 ∧ _
    have i1 : inb (nI t) 54 := inbL ht (by decide)
    have c1 : Int32.toNatClampNeg (nI t) = t := clL (by omega)
    have l1 : nI t < 54 := ltL 54 54 rfl ht (by decide)
    have go : ∀ v, v = endV W H t → ∃ σ2, f_X4_set_L12 i n (si s 11 i t v) (nI (t + 1)) = some σ2 ∧ KG i σ σ2 ∧ σ2.1 4 i 0 = nI W ∧ σ2.1 4 i 1 = nI H ∧ ∀ l, l < 54 → σ2.1 11 i l = endV W H l := by
      intro v hv
      refine ih _ ⟨⟨k1, fun a a1 a2 => (si_k a2).trans (k2 a a1 a2), fun j hj => ⟨by rw [si_k (by decide)]; exact (k3 j hj).1, ?_⟩⟩, by rw [si_k (by decide)]; exact k4, by rw [si_k (by decide)]; exact k5, fun l hl => ?_⟩
      · funext c
        rw [si_i hj, (k3 j hj).2]
      · by_cases q : l = t
        · subst q
          rw [si_eq, hv]
        · rw [si_j q]
          exact k6 l (by omega)
    have hr : f_X4_hasRouter s i (nI (t / 6)) = some (if t / 6 < W * H then 1 else 0) := by
      unfold f_X4_hasRouter f_X4_routers
      rw [if_pos (leL 0 0 rfl (Nat.zero_le _) (by omega)), k4, k5, nI_mul, Option.bind_some]
      by_cases q : t / 6 < W * H
      · rw [if_pos (nI_lt q (by omega)), if_pos (ltL 9 9 rfl (by omega) (by decide)), if_pos q]
      · rw [if_neg (nI_nlt (by omega) (by omega)), if_neg q]
    unfold f_X4_set_L12b chk bnd
    rw [if_pos l1, div6 ht, rem6 ht, hr, Option.bind_some, eb_st k4 k5, if_pos i1, c1, nI_1]
    by_cases q : t / 6 < W * H
    · rw [if_pos q, if_neg (by decide), eb_at W hw.2.1 H hw.2.2.2.1 t ht ⟨hw.1, hw.2.2.1, q⟩, Option.bind_some, if_pos i1]
      exact go _ rfl
    · rw [if_neg q, if_pos rfl]
      refine go _ ?_
      unfold endV
      rw [if_pos (by omega)]
  · rintro n s ⟨k1, k4, k5, k6⟩
    exact ⟨s, rfl, k1, k4, k5, k6⟩
  · refine ⟨⟨rfl, fun a a1 a2 => by rw [si_k a1, si_k a1], fun j hj => ⟨?_, by rw [si_k (by decide), si_k (by decide)]⟩⟩, ?_, si_eq, fun l hl => absurd hl (Nat.not_lt_zero l)⟩
    · funext c
      rw [si_i hj, si_i hj]
    · rw [si_j (by decide), si_eq]
/-- an inner link of the grid -/
def inN (W H l : Nat) : Bool := decide (endV W H l ≠ -2) && decide (2 ≤ l % 6)
theorem hasInner_eq {σ : St} {i W H l : Nat} (e : σ.1 11 i l = endV W H l) (hl : l < 54) : f_X4_hasInnerLink σ i (nI l) = some (bz (inN W H l)) := by
  unfold f_X4_hasInnerLink inN
  rw [hasLink_eq hl, Option.bind_some, e, rem6 hl]
  by_cases q : endV W H l = -2
  · rw [if_pos q, if_pos rfl, decide_eq_false (fun z => z q)]
    rfl
  · rw [if_neg q, if_neg (by decide), decide_eq_true q]
    by_cases z : 2 ≤ l % 6
    · rw [if_pos (leL 2 2 rfl z (by omega)), decide_eq_true z]; rfl
    · rw [if_neg (nleL 2 2 rfl (by omega) (by decide)), decide_eq_false z]; rfl
theorem bz_and (b : Bool) : bz b &&& 1 = bz b := by cases b <;> decide
