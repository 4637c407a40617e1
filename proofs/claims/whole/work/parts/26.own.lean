/-! bits; who has a slot -/
theorem shr_bit : ∀ n, n < 1024 → ∀ t, t < 16 → (nI n >>> (nI t &&& 31)) &&& 1 = bz (n.testBit t) := by decide +kernel
theorem shr_bit2 {n t : Nat} (hn : n < 1024) (ht : t < 16) : (nI n >>> (nI t &&& 31)) &&& 1 = bz (n.testBit t) := shr_bit n hn t ht
theorem isBit_eq {n t : Nat} (hn : n < 1024) (ht : t < 16) : f_X12_isBit (nI n) (nI t) = some (bz (n.testBit t)) := by
  unfold f_X12_isBit
  rw [shr_bit2 hn ht]
  cases n.testBit t <;> rfl
theorem st_lt {S n : Nat} (hS : S ≤ 10) (h : n ≤ 2 ^ S - 1) : n < 1024 := by
  have : 2 ^ S ≤ 2 ^ 10 := Nat.pow_le_pow_right (by decide) hS
  have h2 : 0 < 2 ^ S := Nat.two_pow_pos S
  omega
/-- circuit c has slot s of link l: at place p, by start t -/
def hb1 (μ : St) (S c l s p t : Nat) : Bool := (stN μ c).testBit t && (decide ((t + p) % S = s) && decide (μ.1 16 0 (8 * c + p) = nI l))
theorem foldl_or {α : Type} (f : α → Bool) : ∀ (l : List α) (b : Bool), l.foldl (fun a x => a || f x) b = (b || l.any f)
  | [], b => by simp
  | x :: l, b => by
    rw [List.foldl_cons, foldl_or f l, List.any_cons, Bool.or_assoc]
theorem hasSlot_in {μ : St} {S c l s p : Nat} (hS : 0 < S ∧ S ≤ 10) (e2 : μ.1 0 0 2 = nI S) (hc : c < 8) (hl : l < 54) (hs : s < 10) (hp : p < 8) (hst : bd (μ.1 17 0 c) 1 (2 ^ S - 1)) (K : Int32 → Int32 → Option Int32) (acc : Bool) :
    f_X12_hasSlot_L22 K μ (nI c) (nI l) (nI s) (nI p) FU (bz acc) 0 = K (bz (acc || (List.range S).any (hb1 μ S c l s p))) (nI (p + 1)) := by
  obtain ⟨n, -, hn, en⟩ := hst
  have hn2 := st_lt hS.2 hn
  have est : stN μ c = n := by unfold stN nN; rw [en, clL (by omega)]
  have key := loopM (A := Bool) (fun n b v => f_X12_hasSlot_L22 K μ (nI c) (nI l) (nI s) (nI p) n (bz b) v) (fun m t b => K (bz (b || (List.range' t m).any (hb1 μ S c l s p))) (nI (p + 1))) S ?_ ?_ S 0 FU acc (by omega) (FU_lt (by omega))
  · rw [List.range_eq_range']
    exact key
  · intro n' m t a ht ih
    have htS : t < S := by omega
    have hi : inb (nI c) 8 := inbL hc (by decide)
    have hcl : Int32.toNatClampNeg (nI c) = c := clL (by omega)
    have h1 : nI t < nI S := nI_lt htS (by omega)
    have hne : ¬ nI S = 0 := nI_ne0 hS.1 (by omega)
    have h8 : (8 : Int32) * nI c + nI p = nI (8 * c + p) := by rw [show (8 : Int32) = nI 8 from rfl, nI_mul, nI_add]
    have hi2 : inb (nI (8 * c + p)) 64 := inbL (by omega) (by decide)
    have hcl2 : Int32.toNatClampNeg (nI (8 * c + p)) = 8 * c + p := clL (by omega)
    have hrem : remI (nI t + nI p) (nI S) = nI ((t + p) % S) := by rw [nI_add, nI_rem (by omega) (by omega)]
    have hmod : (t + p) % S < S := Nat.mod_lt _ hS.1
    have goal : f_X12_hasSlot_L22 K μ (nI c) (nI l) (nI s) (nI p) (n' + 1) (bz a) (nI t) = f_X12_hasSlot_L22 K μ (nI c) (nI l) (nI s) (nI p) n' (bz (a || hb1 μ S c l s p t)) (nI (t + 1)) := by
      show f_X12_hasSlot_L22b K μ (nI c) (nI l) (nI s) (nI p) (f_X12_hasSlot_L22 K μ (nI c) (nI l) (nI s) (nI p) n') (bz a) (nI t) = _
      generalize f_X12_hasSlot_L22 K μ (nI c) (nI l) (nI s) (nI p) n' = KK
      simp only [f_X12_hasSlot_L22b, e2, if_pos h1, chk, if_pos hi, hcl, en, isBit_eq hn2 (show t < 16 by omega), Option.bind_some, if_pos hne, h8, if_pos hi2, hcl2, hrem, nI_1, hb1, est]
      have es : (nI ((t + p) % S) = nI s) = ((t + p) % S = s) := propext ⟨fun z => nI_inj (by omega) (by omega) z, fun z => by rw [z]⟩
      cases n.testBit t <;> cases a <;> simp [bz, es]
      all_goals (by_cases q1 : (t + p) % S = s <;> by_cases q2 : μ.1 16 0 (8 * c + p) = nI l <;> simp [q1, q2])
    show f_X12_hasSlot_L22 K μ (nI c) (nI l) (nI s) (nI p) (n' + 1) (bz a) (nI t) = _
    rw [goal, ih, List.range'_succ, List.any_cons, Bool.or_assoc]
  · intro n' a
    show f_X12_hasSlot_L22b K μ (nI c) (nI l) (nI s) (nI p) (f_X12_hasSlot_L22 K μ (nI c) (nI l) (nI s) (nI p) n') (bz a) (nI S) = _
    simp only [f_X12_hasSlot_L22b, e2, if_neg (nI_nlt (Nat.le_refl S) (show S < 2 ^ 31 by omega)), nI_1]
    simp
