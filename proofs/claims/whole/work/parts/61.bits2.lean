theorem nI_xor (a b : Nat) : nI a ^^^ nI b = nI (a ^^^ b) := by
  apply Int32.toBitVec_inj.mp
  unfold nI
  rw [Int32.toBitVec_xor, Int32.toBitVec_ofNat', Int32.toBitVec_ofNat', Int32.toBitVec_ofNat', BitVec.ofNat_xor]
theorem size_eq {x : Nat} (hx : x < 1024) : f_X12_size (nI x) = some (nI (nb x)) := by
  have key := loopM (A := Nat) (fun n b v => f_X12_size_L4 (nI x) n (nI b) v) (fun m t b => some (nI (b + ((List.range' t m).filter (fun i => x.testBit i)).length))) 16 ?_ ?_ 16 0 FU 0 (by omega) (FU_lt (by omega))
  · have e : ((List.range' 0 16).filter (fun i => x.testBit i)).length = nb x := by
      rw [show List.range' 0 16 = List.range' 0 10 ++ List.range' 10 6 from rfl, List.filter_append, List.length_append]
      have z : (List.range' 10 6).filter (fun i => x.testBit i) = [] := by
        rw [List.filter_eq_nil_iff]
        intro i hi
        rw [List.mem_range'_1] at hi
        rw [Nat.testBit_lt_two_pow (Nat.lt_of_lt_of_le hx (show 1024 ≤ 2 ^ i from Nat.pow_le_pow_right (n := 2) (by decide) (show 10 ≤ i by omega)))]
        decide
      rw [z]
      have p : ∀ k, ((List.range' 0 k).filter (fun i => x.testBit i)).length = popc x k := by
        intro k
        induction k with
        | zero => rfl
        | succ k ih =>
          rw [List.range'_concat, List.filter_append, List.length_append, ih]
          show _ = popc x k + (if x.testBit k then 1 else 0)
          cases h : x.testBit k <;> simp [h]
      rw [p]
      rfl
    rw [e, Nat.zero_add] at key
    exact key
  · intro n' m t a ht ih
    show f_X12_size_L4b (nI x) (f_X12_size_L4 (nI x) n') (nI a) (nI t) = _
    have ih2 : ∀ b, f_X12_size_L4 (nI x) n' (nI b) (nI (t + 1)) = _ := ih
    unfold f_X12_size_L4b
    rw [if_pos (ltL 16 16 rfl (by omega) (by decide)), bnd_eq, shr_bit2 hx (by omega), nI_1, List.range'_succ]
    cases h : x.testBit t
    · show f_X12_size_L4 (nI x) n' (nI a + bz false) (nI (t + 1)) = _
      rw [show nI a + bz false = nI (a + 0) from nI_add a 0, ih2]
      simp [h]
    · show f_X12_size_L4 (nI x) n' (nI a + bz true) (nI (t + 1)) = _
      rw [show nI a + bz true = nI (a + 1) from nI_add a 1, ih2]
      simp [h]
      congr 1
      omega
  · intro n' a
    show f_X12_size_L4b (nI x) (f_X12_size_L4 (nI x) n') (nI a) (nI 16) = _
    unfold f_X12_size_L4b
    rw [if_neg (show ¬ nI 16 < 16 from by decide)]
    simp
theorem xor_lt {a b : Nat} (ha : a < 1024) (hb : b < 1024) : a ^^^ b < 1024 := Nat.xor_lt_two_pow (n := 10) ha hb
theorem xor_ne {a b : Nat} (h : a ≠ b) : a ^^^ b ≠ 0 := by
  intro z
  apply h
  apply Nat.eq_of_testBit_eq
  intro i
  have := congrArg (fun y => Nat.testBit y i) z
  simp only [Nat.testBit_xor, Nat.zero_testBit] at this
  cases h1 : a.testBit i <;> cases h2 : b.testBit i <;> simp [h1, h2] at this ⊢
theorem ahead_eq {a b : Nat} (ha : a < 1024) (hb : b < 1024) (h : a ≠ b) : f_X7_comesAhead (nI a) (nI b) = some (bz (a.testBit (lo (a ^^^ b)))) := by
  unfold f_X7_comesAhead
  rcases lo_eq (a ^^^ b) (xor_lt ha hb) with z | ⟨z1, z2, z3⟩
  · exact absurd z (xor_ne h)
  · rw [nI_xor, Int32.and_assoc, z1]
    have := bit_and a ha (lo (a ^^^ b)) z2
    cases q : a.testBit (lo (a ^^^ b))
    · rw [q] at this
      rw [if_pos (of_decide_eq_true this)]
      rfl
    · rw [q] at this
      rw [if_neg (of_decide_eq_false this)]
      rfl
theorem lesser_eq {a b : Nat} (ha : a < 1024) (hb : b < 1024) (h : a ≠ b) : f_X12_isLesser (nI a) (nI b) = some (bz (a.testBit (lo (a ^^^ b)))) := by
  rcases lo_eq (a ^^^ b) (xor_lt ha hb) with z | ⟨z1, z2, z3⟩
  · exact absurd z (xor_ne h)
  · have go : ∀ m t fu, t + m = lo (a ^^^ b) → m < fu → f_X12_isLesser_L2 (nI a) (nI b) fu (nI t) = some (bz (a.testBit (lo (a ^^^ b)))) := by
      intro m
      induction m with
      | zero =>
        intro t fu h1 h2
        obtain ⟨fu, rfl⟩ : ∃ j, fu = j + 1 := ⟨fu - 1, by omega⟩
        have e : t = lo (a ^^^ b) := by omega
        rw [← e] at z3 ⊢
        rw [Nat.testBit_xor] at z3
        show f_X12_isLesser_L2b (nI a) (nI b) (f_X12_isLesser_L2 (nI a) (nI b) fu) (nI t) = _
        unfold f_X12_isLesser_L2b
        rw [isBit_eq ha (by omega), isBit_eq hb (by omega), Option.bind_some, Option.bind_some, Option.bind_some]
        cases h1 : a.testBit t <;> cases h2 : b.testBit t
        · rw [h1, h2] at z3; exact absurd z3 (by decide)
        · rw [if_neg (by decide)]; exact chkz0 _
        · rw [if_neg (by decide)]; exact chkz1 _
        · rw [h1, h2] at z3; exact absurd z3 (by decide)
      | succ m ih =>
        intro t fu h1 h2
        obtain ⟨fu, rfl⟩ : ∃ j, fu = j + 1 := ⟨fu - 1, by omega⟩
        show f_X12_isLesser_L2b (nI a) (nI b) (f_X12_isLesser_L2 (nI a) (nI b) fu) (nI t) = _
        have e : a.testBit t = b.testBit t := by
          rcases lo_least (a ^^^ b) (xor_lt ha hb) t (by omega) with y | y
          · omega
          · rw [Nat.testBit_xor] at y
            cases h1 : a.testBit t <;> cases h2 : b.testBit t <;> simp [h1, h2] at y ⊢
        unfold f_X12_isLesser_L2b
        rw [isBit_eq ha (by omega), isBit_eq hb (by omega), Option.bind_some, Option.bind_some, e, if_pos rfl, nI_1]
        exact ih (t + 1) fu (by omega) (by omega)
    exact go (lo (a ^^^ b)) 0 FU (by omega) (FU_lt (by omega))
/-- the first number that no circuit has, on both sides -/
def firstF (μ : St) : Nat → Nat → Nat
  | 0, t => t
  | m + 1, t => if μ.1 9 0 t = 0 then t else firstF μ m (t + 1)
theorem free_both {W H S T k : Nat} {σ μ : St} (h : RelP W H S T k σ μ) : (f_X3_firstUnused σ = some none ∧ f_X12_leastFree μ = some 8) ∨ ∃ c, c < 8 ∧ ¬ live μ c ∧ f_X3_firstUnused σ = some (some c) ∧ f_X12_leastFree μ = some (nI c) := by
  have go : ∀ m t fu fu', t + m = 8 → m < fu → m < fu' → (f_X3_firstUnused_L2 σ fu (nI t) = some none ∧ f_X12_leastFree_L2 μ fu' (nI t) = some 8) ∨ ∃ c, c < 8 ∧ ¬ live μ c ∧ f_X3_firstUnused_L2 σ fu (nI t) = some (some c) ∧ f_X12_leastFree_L2 μ fu' (nI t) = some (nI c) := by
    intro m
    induction m with
    | zero =>
      intro t fu fu' h1 h2 h3
      obtain ⟨fu, rfl⟩ : ∃ j, fu = j + 1 := ⟨fu - 1, by omega⟩
      obtain ⟨fu', rfl⟩ : ∃ j, fu' = j + 1 := ⟨fu' - 1, by omega⟩
      have e : t = 8 := by omega
      subst e
      exact Or.inl ⟨rfl, rfl⟩
    | succ m ih =>
      intro t fu fu' h1 h2 h3
      obtain ⟨fu, rfl⟩ : ∃ j, fu = j + 1 := ⟨fu - 1, by omega⟩
      obtain ⟨fu', rfl⟩ : ∃ j, fu' = j + 1 := ⟨fu' - 1, by omega⟩
      have ht : t < 8 := by omega
      have i1 : inb (nI t) 8 := inbL ht (by decide)
      have c1 : Int32.toNatClampNeg (nI t) = t := clL (by omega)
      have l1 : nI t < 8 := ltL 8 8 rfl ht (by decide)
      show (f_X3_firstUnused_L2b σ (f_X3_firstUnused_L2 σ fu) (nI t) = some none ∧ f_X12_leastFree_L2b μ (f_X12_leastFree_L2 μ fu') (nI t) = some 8) ∨ ∃ c, c < 8 ∧ ¬ live μ c ∧ f_X3_firstUnused_L2b σ (f_X3_firstUnused_L2 σ fu) (nI t) = some (some c) ∧ f_X12_leastFree_L2b μ (f_X12_leastFree_L2 μ fu') (nI t) = some (nI c)
      unfold f_X3_firstUnused_L2b f_X12_leastFree_L2b chk
      rw [if_pos l1, if_pos l1, if_pos i1, if_pos i1, if_pos i1, c1]
      rcases h.live1 ht with ⟨a, b, d⟩ | ⟨a, b, d⟩
      · rw [b, d, if_neg (by decide), if_neg (by decide), nI_1]
        exact ih (t + 1) fu fu' (by omega) (by omega) (by omega)
      · rw [b, d, if_pos rfl, if_pos rfl]
        exact Or.inr ⟨t, ht, a, rfl, rfl⟩
  exact go 8 0 FU FU (by omega) (FU_lt (by omega)) (FU_lt (by omega))
