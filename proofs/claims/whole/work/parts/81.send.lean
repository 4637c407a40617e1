/-! a circuit sends -/
theorem leaveA {μ : St} {c n : Nat} (hc : c < 8) (hn : n < 96) (en : μ.1 0 0 25 = nI n) (hq : 0 < μ.1 18 0 c) (hr : 0 < μ.1 19 0 c) (hb : μ.1 23 0 c = -1) : f_X12_leave μ (nI c) = some (addL (si (si μ 18 0 c (μ.1 18 0 c - 1)) 19 0 c (μ.1 19 0 c - 1)) n c (μ.1 0 0 3) 1 0) := by
  have i1 : inb (nI c) 8 := inbL hc (by decide)
  have c1 : Int32.toNatClampNeg (nI c) = c := clL (by omega)
  have i2 : inb (nI n) 96 := inbL hn (by decide)
  have c2 : Int32.toNatClampNeg (nI n) = n := clL (by omega)
  simp (decide := true) only [f_X12_leave, chk, if_pos i1, c1, bnd, if_pos hq, if_pos hr, hb, if_true, si_k, en, if_pos i2, c2, nI_1, addL]
theorem leaveN {μ : St} {c : Nat} (hc : c < 8) (hq : ¬ (0 < μ.1 18 0 c ∧ 0 < μ.1 19 0 c)) (hb : μ.1 23 0 c = -1) : f_X12_leave μ (nI c) = some μ := by
  have i1 : inb (nI c) 8 := inbL hc (by decide)
  have c1 : Int32.toNatClampNeg (nI c) = c := clL (by omega)
  by_cases h1 : 0 < μ.1 18 0 c
  · have h2 : ¬ 0 < μ.1 19 0 c := fun z => hq ⟨h1, z⟩
    simp (decide := true) only [f_X12_leave, chk, if_pos i1, c1, bnd, if_pos h1, if_neg h2, hb, if_true]
  · simp (decide := true) only [f_X12_leave, chk, if_pos i1, c1, bnd, if_neg h1, hb, if_true]
/-- what a circuit tells of the other one's owed credits -/
def tells (o : Int32) : Int32 := if 3 < o then 3 else o
theorem leaveB {μ : St} {c b n : Nat} (hc : c < 8) (hbb : b < 8) (hn : n < 96) (en : μ.1 0 0 25 = nI n) (hb : μ.1 23 0 c = nI b) (ho : 0 ≤ μ.1 21 0 b) (hq : 0 < μ.1 18 0 c) (hr : 0 < μ.1 19 0 c) : ∃ μ1, f_X12_leave μ (nI c) = some (addL μ1 n c (μ.1 0 0 3) 1 (tells (μ.1 21 0 b))) ∧ (∀ a, a ≠ 18 → a ≠ 19 → a ≠ 21 → μ1.1 a = μ.1 a) ∧ (∀ a e, e ≠ c → a ≠ 21 → μ1.1 a 0 e = μ.1 a 0 e) ∧ (∀ e, e ≠ b → μ1.1 21 0 e = μ.1 21 0 e) ∧ μ1.1 18 0 c = μ.1 18 0 c - 1 ∧ μ1.1 19 0 c = μ.1 19 0 c - 1 ∧ μ1.1 21 0 b = μ.1 21 0 b - tells (μ.1 21 0 b) := by
  have i1 : inb (nI c) 8 := inbL hc (by decide)
  have c1 : Int32.toNatClampNeg (nI c) = c := clL (by omega)
  have i2 : inb (nI n) 96 := inbL hn (by decide)
  have c2 : Int32.toNatClampNeg (nI n) = n := clL (by omega)
  have i3 : inb (nI b) 8 := inbL hbb (by decide)
  have c3 : Int32.toNatClampNeg (nI b) = b := clL (by omega)
  have nb : ¬ nI b = -1 := nI_nm1 (by omega)
  unfold tells
  by_cases h3 : 3 < μ.1 21 0 b
  · refine ⟨si (si (si μ 18 0 c (μ.1 18 0 c - 1)) 19 0 c (μ.1 19 0 c - 1)) 21 0 b (μ.1 21 0 b - 3), ?_, fun a a1 a2 a3 => by rw [si_k a3, si_k a2, si_k a1], fun a e ec a3 => by rw [si_k a3, si_j ec, si_j ec], fun e eb => by rw [si_j eb, si_k (by decide), si_k (by decide)], by simp (decide := true) only [si_k, si_eq], by simp (decide := true) only [si_k, si_eq], by rw [si_eq, if_pos h3]⟩
    simp (decide := true) only [f_X12_leave, chk, if_pos i1, c1, bnd, if_pos hq, if_pos hr, hb, if_neg nb, if_pos i3, c3, if_pos h3, si_k, en, if_pos i2, c2, nI_1, addL]
  · by_cases h0 : 0 < μ.1 21 0 b
    · refine ⟨si (si (si μ 18 0 c (μ.1 18 0 c - 1)) 19 0 c (μ.1 19 0 c - 1)) 21 0 b (μ.1 21 0 b - μ.1 21 0 b), ?_, fun a a1 a2 a3 => by rw [si_k a3, si_k a2, si_k a1], fun a e ec a3 => by rw [si_k a3, si_j ec, si_j ec], fun e eb => by rw [si_j eb, si_k (by decide), si_k (by decide)], by simp (decide := true) only [si_k, si_eq], by simp (decide := true) only [si_k, si_eq], by rw [si_eq, if_neg h3]⟩
      simp (decide := true) only [f_X12_leave, chk, if_pos i1, c1, bnd, if_pos hq, if_pos hr, hb, if_neg nb, if_pos i3, c3, if_neg h3, if_pos h0, si_k, en, if_pos i2, c2, nI_1, addL]
    · have e0 : μ.1 21 0 b = 0 := Int32.le_antisymm (Int32.not_lt.mp h0) ho
      refine ⟨si (si μ 18 0 c (μ.1 18 0 c - 1)) 19 0 c (μ.1 19 0 c - 1), ?_, fun a a1 a2 a3 => by rw [si_k a2, si_k a1], fun a e ec a3 => by rw [si_j ec, si_j ec], fun e eb => by rw [si_k (by decide), si_k (by decide)], by simp (decide := true) only [si_k, si_eq], by simp (decide := true) only [si_k, si_eq], by rw [si_k (by decide), si_k (by decide), if_neg h3, e0]; rfl⟩
      simp (decide := true) only [f_X12_leave, chk, if_pos i1, c1, bnd, if_pos hq, if_pos hr, hb, if_neg nb, if_pos i3, c3, if_neg h3, if_neg h0, si_k, en, if_pos i2, c2, nI_1, addL]
theorem leaveE {μ : St} {c b n : Nat} (hc : c < 8) (hbb : b < 8) (hn : n < 96) (en : μ.1 0 0 25 = nI n) (hb : μ.1 23 0 c = nI b) (ho : 0 ≤ μ.1 21 0 b) (hq : ¬ (0 < μ.1 18 0 c ∧ 0 < μ.1 19 0 c)) : (μ.1 21 0 b = 0 ∧ f_X12_leave μ (nI c) = some μ) ∨ (¬ μ.1 21 0 b = 0 ∧ f_X12_leave μ (nI c) = some (addL (si μ 21 0 b (μ.1 21 0 b - tells (μ.1 21 0 b))) n c (μ.1 0 0 3) 0 (tells (μ.1 21 0 b)))) := by
  have i1 : inb (nI c) 8 := inbL hc (by decide)
  have c1 : Int32.toNatClampNeg (nI c) = c := clL (by omega)
  have i2 : inb (nI n) 96 := inbL hn (by decide)
  have c2 : Int32.toNatClampNeg (nI n) = n := clL (by omega)
  have i3 : inb (nI b) 8 := inbL hbb (by decide)
  have c3 : Int32.toNatClampNeg (nI b) = b := clL (by omega)
  have nb : ¬ nI b = -1 := nI_nm1 (by omega)
  unfold tells
  by_cases h3 : 3 < μ.1 21 0 b
  · right
    refine ⟨fun z => by rw [z] at h3; exact absurd h3 (by decide), ?_⟩
    rw [if_pos h3]
    by_cases h1 : 0 < μ.1 18 0 c
    · have h2 : ¬ 0 < μ.1 19 0 c := fun z => hq ⟨h1, z⟩
      simp (decide := true) only [f_X12_leave, chk, if_pos i1, c1, bnd, if_pos h1, if_neg h2, hb, if_neg nb, if_pos i3, c3, if_pos h3, si_k, en, if_pos i2, c2, nI_1, addL]
    · simp (decide := true) only [f_X12_leave, chk, if_pos i1, c1, bnd, if_neg h1, hb, if_neg nb, if_pos i3, c3, if_pos h3, si_k, en, if_pos i2, c2, nI_1, addL]
  · by_cases e0 : μ.1 21 0 b = 0
    · left
      refine ⟨e0, ?_⟩
      by_cases h1 : 0 < μ.1 18 0 c
      · have h2 : ¬ 0 < μ.1 19 0 c := fun z => hq ⟨h1, z⟩
        simp (decide := true) only [f_X12_leave, chk, if_pos i1, c1, bnd, if_pos h1, if_neg h2, hb, if_neg nb, if_pos i3, c3, if_neg h3, if_pos e0]
      · simp (decide := true) only [f_X12_leave, chk, if_pos i1, c1, bnd, if_neg h1, hb, if_neg nb, if_pos i3, c3, if_neg h3, if_pos e0]
    · right
      refine ⟨e0, ?_⟩
      have h0 : 0 < μ.1 21 0 b := Int32.lt_of_le_of_ne ho (fun z => e0 z.symm)
      rw [if_neg h3]
      by_cases h1 : 0 < μ.1 18 0 c
      · have h2 : ¬ 0 < μ.1 19 0 c := fun z => hq ⟨h1, z⟩
        simp (decide := true) only [f_X12_leave, chk, if_pos i1, c1, bnd, if_pos h1, if_neg h2, hb, if_neg nb, if_pos i3, c3, if_neg h3, if_neg e0, if_pos h0, si_k, en, if_pos i2, c2, nI_1, addL]
      · simp (decide := true) only [f_X12_leave, chk, if_pos i1, c1, bnd, if_neg h1, hb, if_neg nb, if_pos i3, c3, if_neg h3, if_neg e0, if_pos h0, si_k, en, if_pos i2, c2, nI_1, addL]
theorem sendX {σ : St} {c : Nat} {b : Option Nat} (hb : ∀ j, b = some j → j < 8 ∧ j ≠ c) : f_X2_send σ c b = some (match b with
    | none => if 0 < σ.1 2 c 8 ∧ 0 < σ.1 2 c 11 then si (si (si σ 2 c 8 (σ.1 2 c 8 - 1)) 2 c 11 (σ.1 2 c 11 - 1)) 18 c 0 (2 * 0 + 1) else σ
    | some j => if 0 < σ.1 2 c 8 ∧ 0 < σ.1 2 c 11 then si (si (si (si σ 2 c 8 (σ.1 2 c 8 - 1)) 2 c 11 (σ.1 2 c 11 - 1)) 2 j 10 (σ.1 2 j 10 - tells (σ.1 2 j 10))) 18 c 0 (2 * tells (σ.1 2 j 10) + 1) else if tells (σ.1 2 j 10) = 0 then σ else si (si (si (si σ 2 c 8 (σ.1 2 c 8 - 0)) 2 c 11 (σ.1 2 c 11 - 0)) 2 j 10 (σ.1 2 j 10 - tells (σ.1 2 j 10))) 18 c 0 (2 * tells (σ.1 2 j 10) + 0)) := by
  cases b with
  | none =>
    by_cases h1 : 0 < σ.1 2 c 8
    · by_cases h2 : 0 < σ.1 2 c 11
      · simp (decide := true) only [f_X2_send, f_X2_letterOf, if_pos h1, if_pos h2, onR_n, bnd, Option.bind_some, si_j, h1, h2, and_self, if_true]
      · simp (decide := true) only [f_X2_send, if_pos h1, if_neg h2, onR_n, h2, and_false, if_false]
    · simp (decide := true) only [f_X2_send, if_neg h1, onR_n, h1, false_and, if_false]
  | some j =>
    obtain ⟨hj, hjc⟩ := hb j rfl
    by_cases h1 : 0 < σ.1 2 c 8
    · by_cases h2 : 0 < σ.1 2 c 11
      · simp (decide := true) only [f_X2_send, f_X2_letterOf, if_pos h1, if_pos h2, onR_s hj, bnd, Option.bind_some, si_j, si_i hjc, h1, h2, and_self, if_true, tells]
      · simp (decide := true) only [f_X2_send, f_X2_letterOf, if_pos h1, if_neg h2, onR_s hj, bnd, Option.bind_some, si_j, si_i hjc, h2, and_false, if_false, tells, if_some]
        congr
    · simp (decide := true) only [f_X2_send, f_X2_letterOf, if_neg h1, onR_s hj, bnd, Option.bind_some, si_j, si_i hjc, h1, false_and, if_false, tells, if_some]
      congr
