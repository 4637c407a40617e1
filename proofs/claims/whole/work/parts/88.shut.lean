/-! a link is free for strays, or shut -/
theorem hasLetterOn_eq {σ : St} {c hp l : Nat} {lkx : Nat → Nat} (hhp : hp ≤ 6) (hl : l < 54) (e6 : σ.1 2 c 6 = nI hp) (h17 : ∀ p, p < hp + 2 → lkx p < 54 ∧ σ.1 17 c p = nI (lkx p)) : f_X2_hasLetterOn σ c (nI l) = some (bz ((List.range (hp + 2)).any (fun p => decide (lkx p = l) && decide (σ.1 18 c p ≠ -1)))) := by
  have go : ∀ m p fu, p + m = hp + 2 → m < fu → f_X2_hasLetterOn_L2 σ c (nI l) fu (nI p) = some (bz ((List.range' p m).any (fun p => decide (lkx p = l) && decide (σ.1 18 c p ≠ -1)))) := by
    intro m
    induction m with
    | zero =>
      intro p fu h1 h2
      obtain ⟨fu, rfl⟩ : ∃ i, fu = i + 1 := ⟨fu - 1, by omega⟩
      show f_X2_hasLetterOn_L2b σ c (nI l) (f_X2_hasLetterOn_L2 σ c (nI l) fu) (nI p) = _
      unfold f_X2_hasLetterOn_L2b
      rw [places_eq e6 hhp, Option.bind_some, if_neg (nI_nlt (by omega) (by omega))]
      rfl
    | succ m ih =>
      intro p fu h1 h2
      obtain ⟨fu, rfl⟩ : ∃ i, fu = i + 1 := ⟨fu - 1, by omega⟩
      have i5 := ih (p + 1) fu (by omega) (by omega)
      obtain ⟨l54, e17⟩ := h17 p (by omega)
      have i1 : inb (nI p) 8 := inbL (by omega) (by decide)
      show f_X2_hasLetterOn_L2b σ c (nI l) (f_X2_hasLetterOn_L2 σ c (nI l) fu) (nI p) = _
      generalize f_X2_hasLetterOn_L2 σ c (nI l) fu = K at i5 ⊢
      unfold f_X2_hasLetterOn_L2b chk
      rw [places_eq e6 hhp, Option.bind_some, if_pos (nI_lt (by omega) (by omega)), if_pos i1, if_pos i1, clL (by omega), e17, nI_1, i5, List.range'_succ, List.any_cons]
      by_cases q : lkx p = l
      · rw [if_pos (by rw [q]), decide_eq_true q, Bool.true_and]
        by_cases w : σ.1 18 c p = -1
        · rw [if_pos w, decide_eq_false (fun z => z w), Bool.false_or]
        · rw [if_neg w, decide_eq_true w, Bool.true_or]; rfl
      · rw [if_neg (fun z => q (nI_inj (by omega) (by omega) z)), decide_eq_false q, Bool.false_and, Bool.false_or]
  unfold f_X2_hasLetterOn
  rw [List.range_eq_range']
  exact go (hp + 2) 0 FU (by omega) (FU_lt (by omega))
theorem isLetterOn_eq {μ : St} {n l : Nat} {lk : Nat → Nat} (hn : n ≤ 72) (hl : l < 54) (en : μ.1 0 0 25 = nI n) (hlk : ∀ j, j < n → lk j < 54 ∧ f_X12_linkOf μ (nI j) = some (nI (lk j))) : f_X12_isLetterOn μ (nI l) = some (bz ((List.range n).any (fun j => decide (lk j = l)))) := by
  have go : ∀ m k fu acc, k + m = n → m < fu → f_X12_isLetterOn_L4 μ (nI l) fu (bz acc) (nI k) = some (bz (acc || (List.range' k m).any (fun j => decide (lk j = l)))) := by
    intro m
    induction m with
    | zero =>
      intro k fu acc h1 h2
      obtain ⟨fu, rfl⟩ : ∃ i, fu = i + 1 := ⟨fu - 1, by omega⟩
      show f_X12_isLetterOn_L4b μ (nI l) (f_X12_isLetterOn_L4 μ (nI l) fu) (bz acc) (nI k) = _
      unfold f_X12_isLetterOn_L4b chk
      rw [en, if_neg (nI_nlt (by omega) (by omega)), if_pos (bz_Z acc)]
      show _ = some (bz (acc || false))
      rw [Bool.or_false]
    | succ m ih =>
      intro k fu acc h1 h2
      obtain ⟨fu, rfl⟩ : ∃ i, fu = i + 1 := ⟨fu - 1, by omega⟩
      have i5 := fun acc => ih (k + 1) fu acc (by omega) (by omega)
      obtain ⟨l54, el⟩ := hlk k (by omega)
      show f_X12_isLetterOn_L4b μ (nI l) (f_X12_isLetterOn_L4 μ (nI l) fu) (bz acc) (nI k) = _
      generalize f_X12_isLetterOn_L4 μ (nI l) fu = K at i5 ⊢
      unfold f_X12_isLetterOn_L4b
      rw [en, if_pos (nI_lt (by omega) (by omega)), el, Option.bind_some, nI_1, List.range'_succ, List.any_cons]
      cases acc
      · rw [if_pos (show bz false = 0 from rfl), Bool.false_or]
        by_cases q : lk k = l
        · rw [if_pos (by rw [q]), decide_eq_true q, Bool.true_or]
          have := i5 true
          rw [Bool.true_or] at this
          exact this
        · rw [if_neg (fun z => q (nI_inj (by omega) (by omega) z)), decide_eq_false q, Bool.false_or]
          have := i5 false
          rw [Bool.false_or] at this
          exact this
      · rw [if_neg (show ¬ bz true = 0 by decide), Bool.true_or]
        have := i5 true
        rw [Bool.true_or] at this
        exact this
  unfold f_X12_isLetterOn
  rw [List.range_eq_range']
  have := go n 0 FU false (by omega) (FU_lt (by omega))
  rw [Bool.false_or] at this
  exact this
/-- the numbers of a letter -/
def foN (μ : St) (j : Nat) : Nat := nN (μ.1 26 0 j)
def plN (T : Nat) (μ : St) (j : Nat) : Nat := T - nN (μ.1 27 0 j)
def lkN (T : Nat) (μ : St) (j : Nat) : Nat := nN (μ.1 16 0 (8 * foN μ j + plN T μ j))
def ldN (μ : St) (j : Nat) : Nat := nN (μ.1 28 0 j)
def tlN (μ : St) (j : Nat) : Nat := nN (μ.1 29 0 j)
theorem let_facts {t W H S T k : Nat} {σ μ : St} (h : RelM t W H S T k σ μ) (hk : k ≤ 513) {n j : Nat} (ht : t ≤ 8) (hn : n ≤ 100) (en : μ.1 0 0 25 = nI n) (hj : j < n) :
    foN μ j < 8 ∧ live μ (foN μ j) ∧ plN T μ j < hpN μ (foN μ j) + 2 ∧ hpN μ (foN μ j) ≤ 6 ∧ plN T μ j ≤ T ∧ μ.1 26 0 j = nI (foN μ j) ∧ μ.1 27 0 j = nI (T - plN T μ j) ∧ μ.1 28 0 j = nI (ldN μ j) ∧ ldN μ j ≤ 1 ∧ μ.1 29 0 j = nI (tlN μ j) ∧ tlN μ j ≤ 3 ∧ (tlN μ j = 0 ∨ μ.1 23 0 (foN μ j) ≠ -1) ∧ σ.1 18 (foN μ j) (plN T μ j) = nI (2 * tlN μ j + ldN μ j) ∧ lkN T μ j < 54 ∧ μ.1 16 0 (8 * foN μ j + plN T μ j) = nI (lkN T μ j) ∧ endV W H (lkN T μ j) ≠ -2 ∧ (stN μ (foN μ j)).testBit ((T - plN T μ j) % S) = true := by
  obtain ⟨n', hn', en', h1, -⟩ := h.2.2.2.2.2.2.1
  have : n' = n := nI_inj (by omega) (by omega) (en'.symm.trans en)
  subst this
  have hT : T ≤ 40 * k := h.2.1
  obtain ⟨c, p, v, q1, q2, q3, q4, ⟨q5, q6, q7, q8⟩, q9, q10, q11, q12, q13⟩ := h1 j hj
  have e1 : foN μ j = c := by unfold foN nN; rw [q5, clL (by omega)]
  have e2 : plN T μ j = p := by unfold plN nN; rw [q7, clL (by omega)]; omega
  obtain ⟨hp, -, hp2, -, -, e3⟩ := h.hops q1 q2
  obtain ⟨l, l54, el, ne⟩ := (h.of_live q1 q2).2.1.2.2.2.2.2.2.1 p q4
  have e4 : lkN T μ j = l := by unfold lkN nN; rw [e1, e2, el, clL (by omega)]
  obtain ⟨tl, -, t3, et⟩ := q11
  have e5 : tlN μ j = tl := by unfold tlN nN; rw [et, clL (by omega)]
  have e6 : ∃ g, g ≤ 1 ∧ μ.1 28 0 j = nI g := by
    rcases q10 with z | z
    · exact ⟨0, by omega, z⟩
    · exact ⟨1, by omega, z⟩
  obtain ⟨g, g1, eg⟩ := e6
  have e7 : ldN μ j = g := by unfold ldN nN; rw [eg, clL (by omega)]
  rw [e1, e2, e4, e5, e7]
  refine ⟨q1, q2, q4, by omega, q6, q5, q7, eg, g1, et, t3, ?_, ?_, l54, el, ne, q13⟩
  · rcases q12 with z | z
    · left
      rw [et] at z
      exact nI_inj (b := 0) (by omega) (by decide) z
    · exact Or.inr z
  · rw [q9, q8, et, eg, show (2 : Int32) = nI 2 from rfl, nI_mul, nI_add]
theorem linkOf_eq {μ : St} {T c p l j : Nat} (hj : j < 96) (hc : c < 8) (hp : p < 8) (hpT : p ≤ T) (hT : T ≤ 30000) (e26 : μ.1 26 0 j = nI c) (e27 : μ.1 27 0 j = nI (T - p)) (eT : μ.1 0 0 3 = nI T) (e16 : μ.1 16 0 (8 * c + p) = nI l) : f_X12_linkOf μ (nI j) = some (nI l) := by
  have i1 : inb (nI j) 96 := inbL hj (by decide)
  unfold f_X12_linkOf chk
  rw [if_pos i1, if_pos i1, clL (by omega), e26, e27, eT, show (8 : Int32) * nI c + nI T - nI (T - p) = nI (8 * c + p) from by
    rw [show (8 : Int32) = nI 8 from rfl, nI_mul, nI_add, nI_sub (by omega)]
    congr 1
    omega, if_pos (inbL (show 8 * c + p < 64 by omega) (by decide)), clL (by omega), e16]
/-- shut: broken, with a letter on it, or of a circuit that stands alone -/
def shB (μ : St) (n S T l : Nat) : Bool := decide (μ.1 5 0 l ≠ 0) || ((List.range n).any (fun j => decide (lkN T μ j = l)) || (match ownO μ S (-1) l (T % S) with
  | none => false
  | some c => decide (μ.1 10 0 c = 4)))
