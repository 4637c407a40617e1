/-! sets of starts by a test; the free starts of a link, of a way -/
def bitsOf (p : Nat → Bool) : Nat → Nat
  | 0 => 0
  | n + 1 => bitsOf p n ||| (if p n then 2 ^ n else 0)
theorem bitsOf_bit (p : Nat → Bool) : ∀ n t, (bitsOf p n).testBit t = (decide (t < n) && p t)
  | 0, t => by simp [bitsOf]
  | n + 1, t => by
    unfold bitsOf
    rw [Nat.testBit_or, bitsOf_bit p n t]
    by_cases h : t = n
    · subst h
      cases hp : p t <;> simp
    · have : (if p n then 2 ^ n else 0).testBit t = false := by
        split
        · exact Nat.testBit_two_pow_of_ne (fun z => h z.symm)
        · exact Nat.zero_testBit t
      rw [this, Bool.or_false]
      by_cases q : t < n
      · rw [decide_eq_true q, decide_eq_true (show t < n + 1 by omega)]
      · rw [decide_eq_false q, decide_eq_false (show ¬ t < n + 1 by omega)]
theorem bitsOf_lt (p : Nat → Bool) (n : Nat) : bitsOf p n < 2 ^ n := by
  apply Nat.lt_pow_two_of_testBit
  intro i hi
  rw [bitsOf_bit, decide_eq_false (by omega), Bool.false_and]
theorem bitsOf_lt' (p : Nat → Bool) {n : Nat} (h : n ≤ 10) : bitsOf p n < 1024 := Nat.lt_of_lt_of_le (bitsOf_lt p n) (Nat.pow_le_pow_right (n := 2) (j := 10) (by decide) h)
theorem bitsOf_congr {p q : Nat → Bool} {n : Nat} (h : ∀ t, t < n → p t = q t) : bitsOf p n = bitsOf q n := by
  apply Nat.eq_of_testBit_eq
  intro i
  rw [bitsOf_bit, bitsOf_bit]
  by_cases hi : i < n
  · rw [h i hi]
  · rw [decide_eq_false hi]; rfl
theorem freeX {σ : St} {S l p : Nat} (e : σ.1 1 0 1 = nI S) (hS : 0 < S ∧ S ≤ 10) (hl : l < 54) (hp : p < 100) : f_X1_freeStarts σ (nI l) (nI p) = some (nI (bitsOf (fun t => decide (σ.1 16 0 (10 * l + (t + p) % S) = -1)) S)) := by
  have go : ∀ m t fu, t + m = S → m < fu → f_X1_freeStarts_L5 σ (nI l) (nI p) fu (nI (bitsOf (fun t => decide (σ.1 16 0 (10 * l + (t + p) % S) = -1)) t)) (nI t) = some (nI (bitsOf (fun t => decide (σ.1 16 0 (10 * l + (t + p) % S) = -1)) S)) := by
    intro m
    induction m with
    | zero =>
      intro t fu h1 h2
      obtain ⟨fu, rfl⟩ : ∃ j, fu = j + 1 := ⟨fu - 1, by omega⟩
      have e2 : t = S := by omega
      subst e2
      show f_X1_freeStarts_L5b σ (nI l) (nI p) (f_X1_freeStarts_L5 σ (nI l) (nI p) fu) _ (nI t) = _
      unfold f_X1_freeStarts_L5b
      rw [e, if_neg (nI_nlt (Nat.le_refl _) (by omega))]
    | succ m ih =>
      intro t fu h1 h2
      obtain ⟨fu, rfl⟩ : ∃ j, fu = j + 1 := ⟨fu - 1, by omega⟩
      have hm : (t + p) % S < S := Nat.mod_lt _ hS.1
      have i2 := ih (t + 1) fu (by omega) (by omega)
      show f_X1_freeStarts_L5b σ (nI l) (nI p) (f_X1_freeStarts_L5 σ (nI l) (nI p) fu) _ (nI t) = _
      generalize f_X1_freeStarts_L5 σ (nI l) (nI p) fu = K at i2 ⊢
      rw [← i2]
      unfold f_X1_freeStarts_L5b
      rw [e, if_pos (nI_lt (by omega) (by omega)), slotOf_eq e hS (by omega) hp, Option.bind_some, ownerX_eq hl (by omega), Option.bind_some, nI_1]
      by_cases q : σ.1 16 0 (10 * l + (t + p) % S) = -1
      · rw [if_pos q, bnd_eq, shl_S t (by omega), nI_or]
        show _ = K (nI (bitsOf _ t ||| (if decide (σ.1 16 0 (10 * l + (t + p) % S) = -1) then 2 ^ t else 0))) _
        rw [decide_eq_true q, if_pos rfl]
      · rw [if_neg q]
        show _ = K (nI (bitsOf _ t ||| (if decide (σ.1 16 0 (10 * l + (t + p) % S) = -1) then 2 ^ t else 0))) _
        rw [decide_eq_false q, if_neg (by decide), Nat.or_zero]
  exact go S 0 FU (by omega) (FU_lt (by omega))
theorem freeM {μ : St} {S d : Nat} {but : Int32} {rt : Nat → Nat} (hm : Mok S μ) (hS : 0 < S ∧ S ≤ 10) (hd : d ≤ 6) (e45 : μ.1 0 0 45 = nI d) (e46 : ∀ k, k < d + 2 → μ.1 46 0 k = nI (rt k) ∧ rt k < 54) : f_X12_freeStarts μ but = some (nI (bitsOf (fun t => (List.range (d + 2)).all (fun k => (ownO μ S but (rt k) ((t + k) % S)).isNone)) S)) := by
  have e2 := hm.1
  have h2p : nI d + 2 = nI (d + 2) := nI_add d 2
  have inner : ∀ (K : Int32 → Int32 → Option Int32) (s t : Nat), t < S → ∀ m k fu acc, k + m = d + 2 → m < fu → f_X12_freeStarts_L18 K μ but (nI s) (nI t) fu (bz acc) (nI k) = K (nI (s ||| (if (acc && (List.range' k m).all (fun k => (ownO μ S but (rt k) ((t + k) % S)).isNone)) then 2 ^ t else 0))) (nI (t + 1)) := by
    intro K s t ht m
    induction m with
    | zero =>
      intro k fu acc h1 h2
      obtain ⟨fu, rfl⟩ : ∃ j, fu = j + 1 := ⟨fu - 1, by omega⟩
      show f_X12_freeStarts_L18b K μ but (nI s) (nI t) (f_X12_freeStarts_L18 K μ but (nI s) (nI t) fu) (bz acc) (nI k) = _
      unfold f_X12_freeStarts_L18b
      rw [e45, h2p, if_neg (nI_nlt (by omega) (by omega)), nI_1]
      cases acc
      · rw [if_pos (show bz false = 0 from rfl)]
        show K (nI s ||| nI 0) _ = _
        rw [nI_or]
        rfl
      · rw [if_neg (show ¬ bz true = 0 by decide), bnd_eq, shl_S t (by omega), nI_or]
        rfl
    | succ m ih =>
      intro k fu acc h1 h2
      obtain ⟨fu, rfl⟩ : ∃ j, fu = j + 1 := ⟨fu - 1, by omega⟩
      have hmd : (t + k) % S < S := Nat.mod_lt _ hS.1
      have i2 := fun acc => ih (k + 1) fu acc (by omega) (by omega)
      show f_X12_freeStarts_L18b K μ but (nI s) (nI t) (f_X12_freeStarts_L18 K μ but (nI s) (nI t) fu) (bz acc) (nI k) = _
      generalize f_X12_freeStarts_L18 K μ but (nI s) (nI t) fu = KK at i2 ⊢
      unfold f_X12_freeStarts_L18b
      rw [e45, h2p, if_pos (nI_lt (by omega) (by omega)), nI_1, List.range'_succ, List.all_cons]
      cases acc
      · rw [if_pos (show bz false = 0 from rfl)]
        exact i2 false
      · rw [if_neg (show ¬ bz true = 0 by decide)]
        obtain ⟨g1, g2⟩ := e46 k (by omega)
        unfold chk
        rw [if_pos (inbL (show k < 8 by omega) (by decide)), e2, if_pos (nI_ne0 hS.1 (show S < 2 ^ 31 by omega)), clL (by omega), g1, nI_add, nI_rem (by omega) (by omega), ownerOf_eq hm g2 (by omega), Option.bind_some]
        cases ho : ownO μ S but (rt k) ((t + k) % S) with
        | none =>
          rw [if_pos (show oI none = -1 from rfl)]
          simp only [Option.isNone_none, Bool.true_and]
          exact i2 true
        | some c =>
          have hc : c < 8 := List.mem_range.mp (List.mem_of_find?_eq_some ho)
          rw [if_neg (show ¬ oI (some c) = -1 from nI_nm1 (by omega))]
          simp only [Option.isNone_some, Bool.false_and, Bool.and_false]
          exact i2 false
  have go : ∀ m t fu, t + m = S → m < fu → f_X12_freeStarts_L4 μ but fu (nI (bitsOf (fun t => (List.range (d + 2)).all (fun k => (ownO μ S but (rt k) ((t + k) % S)).isNone)) t)) (nI t) = some (nI (bitsOf (fun t => (List.range (d + 2)).all (fun k => (ownO μ S but (rt k) ((t + k) % S)).isNone)) S)) := by
    intro m
    induction m with
    | zero =>
      intro t fu h1 h2
      obtain ⟨fu, rfl⟩ : ∃ j, fu = j + 1 := ⟨fu - 1, by omega⟩
      have e2' : t = S := by omega
      subst e2'
      show f_X12_freeStarts_L4b μ but (f_X12_freeStarts_L4 μ but fu) _ (nI t) = _
      unfold f_X12_freeStarts_L4b
      rw [e2, if_neg (nI_nlt (Nat.le_refl _) (by omega))]
    | succ m ih =>
      intro t fu h1 h2
      obtain ⟨fu, rfl⟩ : ∃ j, fu = j + 1 := ⟨fu - 1, by omega⟩
      have i2 := ih (t + 1) fu (by omega) (by omega)
      show f_X12_freeStarts_L4b μ but (f_X12_freeStarts_L4 μ but fu) _ (nI t) = _
      generalize f_X12_freeStarts_L4 μ but fu = K at i2 ⊢
      rw [← i2]
      unfold f_X12_freeStarts_L4b
      rw [e2, if_pos (nI_lt (by omega) (by omega))]
      have := inner K (bitsOf (fun t => (List.range (d + 2)).all (fun k => (ownO μ S but (rt k) ((t + k) % S)).isNone)) t) t (by omega) (d + 2) 0 FU true (by omega) (FU_lt (by omega))
      rw [Bool.true_and, ← List.range_eq_range'] at this
      exact this
  exact go S 0 FU (by omega) (FU_lt (by omega))
